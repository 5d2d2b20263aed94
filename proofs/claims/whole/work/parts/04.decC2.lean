theorem dX8_both_91 : decode cX8_both 91 = .ok (.aload_n 0, 1) := by decide +kernel
theorem dX8_both_92 : decode cX8_both 92 = .ok (.getfield 52, 3) := by decide +kernel
theorem dX8_both_95 : decode cX8_both 95 = .ok (.iload 4, 2) := by decide +kernel
theorem dX8_both_97 : decode cX8_both 97 = .ok (.dup2, 1) := by decide +kernel
theorem dX8_both_98 : decode cX8_both 98 = .ok (.iaload, 1) := by decide +kernel
theorem dX8_both_99 : decode cX8_both 99 = .ok (.iconst 1, 1) := by decide +kernel
theorem dX8_both_100 : decode cX8_both 100 = .ok (.iadd, 1) := by decide +kernel
theorem dX8_both_101 : decode cX8_both 101 = .ok (.iastore, 1) := by decide +kernel
theorem dX8_both_102 : decode cX8_both 102 = .ok (.iload 4, 2) := by decide +kernel
theorem dX8_both_104 : decode cX8_both 104 = .ok (.iload_n 3, 1) := by decide +kernel
theorem dX8_both_105 : decode cX8_both 105 = .ok (.iadd, 1) := by decide +kernel
theorem dX8_both_106 : decode cX8_both 106 = .ok (.istore 4, 2) := by decide +kernel
theorem dX8_both_108 : decode cX8_both 108 = .ok (.goto (-23), 3) := by decide +kernel
theorem dX8_both_111 : decode cX8_both 111 = .ok (.iinc 2 1, 3) := by decide +kernel
theorem dX8_both_114 : decode cX8_both 114 = .ok (.goto (-57), 3) := by decide +kernel
theorem dX8_both_117 : decode cX8_both 117 = .ok (.iconst 0, 1) := by decide +kernel
theorem dX8_both_118 : decode cX8_both 118 = .ok (.istore_n 2, 1) := by decide +kernel
theorem dX8_both_119 : decode cX8_both 119 = .ok (.iload_n 2, 1) := by decide +kernel
theorem dX8_both_120 : decode cX8_both 120 = .ok (.iload_n 1, 1) := by decide +kernel
theorem dX8_both_121 : decode cX8_both 121 = .ok (.if_icmp .ge 21, 3) := by decide +kernel
theorem dX8_both_124 : decode cX8_both 124 = .ok (.aload_n 0, 1) := by decide +kernel
theorem dX8_both_125 : decode cX8_both 125 = .ok (.getfield 52, 3) := by decide +kernel
theorem dX8_both_128 : decode cX8_both 128 = .ok (.iload_n 2, 1) := by decide +kernel
theorem dX8_both_129 : decode cX8_both 129 = .ok (.iaload, 1) := by decide +kernel
theorem dX8_both_130 : decode cX8_both 130 = .ok (.iconst 1, 1) := by decide +kernel
theorem dX8_both_131 : decode cX8_both 131 = .ok (.if_icmp .eq 5, 3) := by decide +kernel
theorem dX8_both_134 : decode cX8_both 134 = .ok (.iconst 0, 1) := by decide +kernel
theorem dX8_both_135 : decode cX8_both 135 = .ok (.ireturn, 1) := by decide +kernel
theorem dX8_both_136 : decode cX8_both 136 = .ok (.iinc 2 1, 3) := by decide +kernel
theorem dX8_both_139 : decode cX8_both 139 = .ok (.goto (-20), 3) := by decide +kernel
theorem dX8_both_142 : decode cX8_both 142 = .ok (.iconst 1, 1) := by decide +kernel
theorem dX8_both_143 : decode cX8_both 143 = .ok (.ireturn, 1) := by decide +kernel
set_option maxRecDepth 20000 in
theorem ggX8_turn_X8_both : GoodIn wsX8_turn wsX8_both := goodIn_ca (goodIn_r _ [9, 1, 10, 11, 12, 4, 13, 14, 15, 8, 16, 2, 17, 18, 19, 20, 21, 22, 23, 24, 25, 26, 27, 28, 29, 30, 31, 32, 33, 34, 35, 36, 37, 46, 47, 48, 49, 50, 51, 52, 53, 54, 55, 56, 57, 58, 59, 60, 61, 62, 63, 64, 65, 66, 67, 68, 69, 70, 71, 72, 73, 74, 75, 76, 77, 78] (by decide +kernel) (by decide +kernel)) (goodIn_sub (fun _ h => List.mem_cons_of_mem _ (List.mem_append_right _ h)) (by decide +kernel))
set_option maxRecDepth 20000 in
theorem gX8_turn_X8_both : GoodIn wsX8_turn (wsV RX8 237 RX8 yX8_both wsX8_both) := goodIn_app (goodIn_of _ (by decide +kernel)) ggX8_turn_X8_both
set_option maxRecDepth 20000 in
theorem ggX8_turn_X8_measure : GoodIn wsX8_turn wsX8_measure := goodIn_ca (goodIn_r _ [16, 4, 2, 17, 18, 19, 20, 21, 22, 23, 24, 25, 8, 26, 27, 28, 29, 46, 47, 48, 49, 50, 51, 52, 53, 54, 55, 56, 57, 58, 59, 60, 61, 62, 63, 64, 65, 66, 67, 68, 69, 70, 71, 72, 73, 74, 75, 76, 77, 78] (by decide +kernel) (by decide +kernel)) (goodIn_sub (fun _ h => List.mem_cons_of_mem _ (List.mem_append_right _ h)) (by decide +kernel))
set_option maxRecDepth 20000 in
theorem gX8_turn_X8_measure : GoodIn wsX8_turn (wsV RX8 230 RX8 yX8_measure wsX8_measure) := goodIn_app (goodIn_of _ (by decide +kernel)) ggX8_turn_X8_measure
set_option maxRecDepth 20000 in
theorem ggX8_turn_X8_first : GoodIn wsX8_turn wsX8_first := goodIn_ca (goodIn_r _ [33, 2, 46, 47, 48, 49, 50, 51, 52, 53, 54, 55, 56, 57, 58, 59, 60, 61, 62, 63, 64, 65, 66, 67, 68, 69, 70, 71, 72, 73, 74, 75, 76, 77, 78] (by decide +kernel) (by decide +kernel)) (goodIn_sub (fun _ h => List.mem_cons_of_mem _ (List.mem_append_right _ h)) (by decide +kernel))
set_option maxRecDepth 20000 in
theorem gX8_turn_X8_first : GoodIn wsX8_turn (wsV RX8 234 RX8 yX8_first wsX8_first) := goodIn_app (goodIn_of _ (by decide +kernel)) ggX8_turn_X8_first
set_option maxRecDepth 20000 in
theorem ggX8_turn_X8_gap : GoodIn wsX8_turn wsX8_gap := goodIn_ca (goodIn_r _ [26, 2, 4, 46, 47, 48, 49, 50, 51, 52, 53, 54, 55, 56, 57, 58, 59, 60, 61, 62, 63, 64, 65, 66, 67, 68, 69, 70, 71, 72, 73, 74, 75, 76, 77, 78] (by decide +kernel) (by decide +kernel)) (goodIn_sub (fun _ h => List.mem_cons_of_mem _ (List.mem_append_right _ h)) (by decide +kernel))
set_option maxRecDepth 20000 in
theorem gX8_turn_X8_gap : GoodIn wsX8_turn (wsV RX8 225 RX8 yX8_gap wsX8_gap) := goodIn_app (goodIn_of _ (by decide +kernel)) ggX8_turn_X8_gap
set_option maxRecDepth 20000 in
theorem ggX8_turn_J9_floorMod_f86c9 : GoodIn wsX8_turn wsJ9_floorMod_f86c9 := goodIn_r _ [37] (by decide +kernel) (by decide +kernel)
set_option maxRecDepth 20000 in
theorem gX8_turn_J9_floorMod_f86c9 : GoodIn wsX8_turn (va_wsS RX8 133 yJ9_floorMod_f86c9 wsJ9_floorMod_f86c9) := goodIn_app (goodIn_of _ (by decide +kernel)) ggX8_turn_J9_floorMod_f86c9
set_option maxRecDepth 20000 in
theorem ggX8_turn_X8_common : GoodIn wsX8_turn wsX8_common := goodIn_ca (goodIn_r _ [29] (by decide +kernel) (by decide +kernel)) (goodIn_sub (fun _ h => List.mem_cons_of_mem _ (List.mem_append_right _ h)) (by decide +kernel))
set_option maxRecDepth 20000 in
theorem gX8_turn_X8_common : GoodIn wsX8_turn (va_wsS RX8 114 yX8_common wsX8_common) := goodIn_app (goodIn_of _ (by decide +kernel)) ggX8_turn_X8_common
set_option maxRecDepth 20000 in
theorem ggX8_turn_X8_isShare : GoodIn wsX8_turn wsX8_isShare := goodIn_r _ [40, 41, 42, 43, 44, 8, 45] (by decide +kernel) (by decide +kernel)
set_option maxRecDepth 20000 in
theorem gX8_turn_X8_isShare : GoodIn wsX8_turn (va_wsS RX8 102 yX8_isShare wsX8_isShare) := goodIn_app (goodIn_of _ (by decide +kernel)) ggX8_turn_X8_isShare
theorem dX8_turn_0 : decode cX8_turn 0 = .ok (.aload_n 0, 1) := by decide +kernel
theorem dX8_turn_1 : decode cX8_turn 1 = .ok (.iconst 0, 1) := by decide +kernel
theorem dX8_turn_2 : decode cX8_turn 2 = .ok (.putfield 61, 3) := by decide +kernel
theorem dX8_turn_5 : decode cX8_turn 5 = .ok (.aload_n 0, 1) := by decide +kernel
theorem dX8_turn_6 : decode cX8_turn 6 = .ok (.invokevirtual 237, 3) := by decide +kernel
theorem dX8_turn_9 : decode cX8_turn 9 = .ok (.iconst 1, 1) := by decide +kernel
theorem dX8_turn_10 : decode cX8_turn 10 = .ok (.if_icmp .ne 12, 3) := by decide +kernel
theorem dX8_turn_13 : decode cX8_turn 13 = .ok (.aload_n 0, 1) := by decide +kernel
theorem dX8_turn_14 : decode cX8_turn 14 = .ok (.invokevirtual 230, 3) := by decide +kernel
theorem dX8_turn_17 : decode cX8_turn 17 = .ok (.bipush 64, 2) := by decide +kernel
theorem dX8_turn_19 : decode cX8_turn 19 = .ok (.if_icmp .le 5, 3) := by decide +kernel
theorem dX8_turn_22 : decode cX8_turn 22 = .ok (.iconst (-1), 1) := by decide +kernel
theorem dX8_turn_23 : decode cX8_turn 23 = .ok (.ireturn, 1) := by decide +kernel
theorem dX8_turn_24 : decode cX8_turn 24 = .ok (.aload_n 0, 1) := by decide +kernel
theorem dX8_turn_25 : decode cX8_turn 25 = .ok (.invokevirtual 230, 3) := by decide +kernel
theorem dX8_turn_28 : decode cX8_turn 28 = .ok (.istore_n 1, 1) := by decide +kernel
theorem dX8_turn_29 : decode cX8_turn 29 = .ok (.iconst 0, 1) := by decide +kernel
theorem dX8_turn_30 : decode cX8_turn 30 = .ok (.istore_n 2, 1) := by decide +kernel
theorem dX8_turn_31 : decode cX8_turn 31 = .ok (.iload_n 2, 1) := by decide +kernel
theorem dX8_turn_32 : decode cX8_turn 32 = .ok (.iload_n 1, 1) := by decide +kernel
theorem dX8_turn_33 : decode cX8_turn 33 = .ok (.if_icmp .ge 170, 3) := by decide +kernel
theorem dX8_turn_36 : decode cX8_turn 36 = .ok (.iconst 0, 1) := by decide +kernel
theorem dX8_turn_37 : decode cX8_turn 37 = .ok (.istore_n 3, 1) := by decide +kernel
theorem dX8_turn_38 : decode cX8_turn 38 = .ok (.iload_n 2, 1) := by decide +kernel
theorem dX8_turn_39 : decode cX8_turn 39 = .ok (.i2l, 1) := by decide +kernel
theorem dX8_turn_40 : decode cX8_turn 40 = .ok (.aload_n 0, 1) := by decide +kernel
theorem dX8_turn_41 : decode cX8_turn 41 = .ok (.iload_n 3, 1) := by decide +kernel
theorem dX8_turn_42 : decode cX8_turn 42 = .ok (.invokevirtual 234, 3) := by decide +kernel
theorem dX8_turn_45 : decode cX8_turn 45 = .ok (.lsub, 1) := by decide +kernel
theorem dX8_turn_46 : decode cX8_turn 46 = .ok (.aload_n 0, 1) := by decide +kernel
theorem dX8_turn_47 : decode cX8_turn 47 = .ok (.iload_n 3, 1) := by decide +kernel
theorem dX8_turn_48 : decode cX8_turn 48 = .ok (.invokevirtual 225, 3) := by decide +kernel
theorem dX8_turn_51 : decode cX8_turn 51 = .ok (.invokestatic 133, 3) := by decide +kernel
theorem dX8_turn_54 : decode cX8_turn 54 = .ok (.lconst 0, 1) := by decide +kernel
theorem dX8_turn_55 : decode cX8_turn 55 = .ok (.lcmp, 1) := by decide +kernel
theorem dX8_turn_56 : decode cX8_turn 56 = .ok (.ifCond .eq 9, 3) := by decide +kernel
theorem dX8_turn_59 : decode cX8_turn 59 = .ok (.iinc 3 1, 3) := by decide +kernel
theorem dX8_turn_62 : decode cX8_turn 62 = .ok (.goto (-24), 3) := by decide +kernel
theorem dX8_turn_65 : decode cX8_turn 65 = .ok (.aload_n 0, 1) := by decide +kernel
theorem dX8_turn_66 : decode cX8_turn 66 = .ok (.getfield 20, 3) := by decide +kernel
theorem dX8_turn_69 : decode cX8_turn 69 = .ok (.iconst 3, 1) := by decide +kernel
theorem dX8_turn_70 : decode cX8_turn 70 = .ok (.iload_n 3, 1) := by decide +kernel
theorem dX8_turn_71 : decode cX8_turn 71 = .ok (.imul, 1) := by decide +kernel
theorem dX8_turn_72 : decode cX8_turn 72 = .ok (.iconst 2, 1) := by decide +kernel
theorem dX8_turn_73 : decode cX8_turn 73 = .ok (.iadd, 1) := by decide +kernel
theorem dX8_turn_74 : decode cX8_turn 74 = .ok (.laload, 1) := by decide +kernel
theorem dX8_turn_75 : decode cX8_turn 75 = .ok (.lstore 4, 2) := by decide +kernel
theorem dX8_turn_77 : decode cX8_turn 77 = .ok (.aload_n 0, 1) := by decide +kernel
theorem dX8_turn_78 : decode cX8_turn 78 = .ok (.getfield 20, 3) := by decide +kernel
theorem dX8_turn_81 : decode cX8_turn 81 = .ok (.iconst 3, 1) := by decide +kernel
theorem dX8_turn_82 : decode cX8_turn 82 = .ok (.iload_n 3, 1) := by decide +kernel
theorem dX8_turn_83 : decode cX8_turn 83 = .ok (.imul, 1) := by decide +kernel
theorem dX8_turn_84 : decode cX8_turn 84 = .ok (.iconst 1, 1) := by decide +kernel
theorem dX8_turn_85 : decode cX8_turn 85 = .ok (.iadd, 1) := by decide +kernel
theorem dX8_turn_86 : decode cX8_turn 86 = .ok (.laload, 1) := by decide +kernel
theorem dX8_turn_87 : decode cX8_turn 87 = .ok (.lneg, 1) := by decide +kernel
theorem dX8_turn_88 : decode cX8_turn 88 = .ok (.lstore 6, 2) := by decide +kernel
theorem dX8_turn_90 : decode cX8_turn 90 = .ok (.aload_n 0, 1) := by decide +kernel
theorem dX8_turn_91 : decode cX8_turn 91 = .ok (.getfield 20, 3) := by decide +kernel
theorem dX8_turn_94 : decode cX8_turn 94 = .ok (.iconst 3, 1) := by decide +kernel
theorem dX8_turn_95 : decode cX8_turn 95 = .ok (.iload_n 3, 1) := by decide +kernel
theorem dX8_turn_96 : decode cX8_turn 96 = .ok (.imul, 1) := by decide +kernel
theorem dX8_turn_97 : decode cX8_turn 97 = .ok (.laload, 1) := by decide +kernel
theorem dX8_turn_98 : decode cX8_turn 98 = .ok (.lstore 8, 2) := by decide +kernel
theorem dX8_turn_100 : decode cX8_turn 100 = .ok (.lload 4, 2) := by decide +kernel
theorem dX8_turn_102 : decode cX8_turn 102 = .ok (.lload 6, 2) := by decide +kernel
theorem dX8_turn_104 : decode cX8_turn 104 = .ok (.invokestatic 114, 3) := by decide +kernel
theorem dX8_turn_107 : decode cX8_turn 107 = .ok (.lload 8, 2) := by decide +kernel
theorem dX8_turn_109 : decode cX8_turn 109 = .ok (.invokestatic 114, 3) := by decide +kernel
theorem dX8_turn_112 : decode cX8_turn 112 = .ok (.lstore 10, 2) := by decide +kernel
theorem dX8_turn_114 : decode cX8_turn 114 = .ok (.lload 8, 2) := by decide +kernel
theorem dX8_turn_116 : decode cX8_turn 116 = .ok (.lconst 0, 1) := by decide +kernel
theorem dX8_turn_117 : decode cX8_turn 117 = .ok (.lcmp, 1) := by decide +kernel
theorem dX8_turn_118 : decode cX8_turn 118 = .ok (.ifCond .ge 9, 3) := by decide +kernel
theorem dX8_turn_121 : decode cX8_turn 121 = .ok (.lload 10, 2) := by decide +kernel
theorem dX8_turn_123 : decode cX8_turn 123 = .ok (.lneg, 1) := by decide +kernel
theorem dX8_turn_124 : decode cX8_turn 124 = .ok (.goto 5, 3) := by decide +kernel
theorem dX8_turn_127 : decode cX8_turn 127 = .ok (.lload 10, 2) := by decide +kernel
theorem dX8_turn_129 : decode cX8_turn 129 = .ok (.lstore 10, 2) := by decide +kernel
theorem dX8_turn_131 : decode cX8_turn 131 = .ok (.lload 4, 2) := by decide +kernel
theorem dX8_turn_133 : decode cX8_turn 133 = .ok (.lload 10, 2) := by decide +kernel
theorem dX8_turn_135 : decode cX8_turn 135 = .ok (.ldiv, 1) := by decide +kernel
theorem dX8_turn_136 : decode cX8_turn 136 = .ok (.lload 6, 2) := by decide +kernel
theorem dX8_turn_138 : decode cX8_turn 138 = .ok (.lload 10, 2) := by decide +kernel
theorem dX8_turn_140 : decode cX8_turn 140 = .ok (.ldiv, 1) := by decide +kernel
theorem dX8_turn_141 : decode cX8_turn 141 = .ok (.lload 8, 2) := by decide +kernel
theorem dX8_turn_143 : decode cX8_turn 143 = .ok (.lload 10, 2) := by decide +kernel
theorem dX8_turn_145 : decode cX8_turn 145 = .ok (.ldiv, 1) := by decide +kernel
theorem dX8_turn_146 : decode cX8_turn 146 = .ok (.invokestatic 102, 3) := by decide +kernel
theorem dX8_turn_149 : decode cX8_turn 149 = .ok (.ifCond .ne 5, 3) := by decide +kernel
theorem dX8_turn_152 : decode cX8_turn 152 = .ok (.iconst (-1), 1) := by decide +kernel
theorem dX8_turn_153 : decode cX8_turn 153 = .ok (.ireturn, 1) := by decide +kernel
theorem dX8_turn_154 : decode cX8_turn 154 = .ok (.aload_n 0, 1) := by decide +kernel
theorem dX8_turn_155 : decode cX8_turn 155 = .ok (.getfield 55, 3) := by decide +kernel
theorem dX8_turn_158 : decode cX8_turn 158 = .ok (.iconst 3, 1) := by decide +kernel
theorem dX8_turn_159 : decode cX8_turn 159 = .ok (.iload_n 2, 1) := by decide +kernel
theorem dX8_turn_160 : decode cX8_turn 160 = .ok (.imul, 1) := by decide +kernel
theorem dX8_turn_161 : decode cX8_turn 161 = .ok (.lload 4, 2) := by decide +kernel
theorem dX8_turn_163 : decode cX8_turn 163 = .ok (.lload 10, 2) := by decide +kernel
theorem dX8_turn_165 : decode cX8_turn 165 = .ok (.ldiv, 1) := by decide +kernel
theorem dX8_turn_166 : decode cX8_turn 166 = .ok (.lastore, 1) := by decide +kernel
theorem dX8_turn_167 : decode cX8_turn 167 = .ok (.aload_n 0, 1) := by decide +kernel
theorem dX8_turn_168 : decode cX8_turn 168 = .ok (.getfield 55, 3) := by decide +kernel
theorem dX8_turn_171 : decode cX8_turn 171 = .ok (.iconst 3, 1) := by decide +kernel
theorem dX8_turn_172 : decode cX8_turn 172 = .ok (.iload_n 2, 1) := by decide +kernel
theorem dX8_turn_173 : decode cX8_turn 173 = .ok (.imul, 1) := by decide +kernel
theorem dX8_turn_174 : decode cX8_turn 174 = .ok (.iconst 1, 1) := by decide +kernel
theorem dX8_turn_175 : decode cX8_turn 175 = .ok (.iadd, 1) := by decide +kernel
theorem dX8_turn_176 : decode cX8_turn 176 = .ok (.lload 6, 2) := by decide +kernel
theorem dX8_turn_178 : decode cX8_turn 178 = .ok (.lload 10, 2) := by decide +kernel
theorem dX8_turn_180 : decode cX8_turn 180 = .ok (.ldiv, 1) := by decide +kernel
theorem dX8_turn_181 : decode cX8_turn 181 = .ok (.lastore, 1) := by decide +kernel
theorem dX8_turn_182 : decode cX8_turn 182 = .ok (.aload_n 0, 1) := by decide +kernel
theorem dX8_turn_183 : decode cX8_turn 183 = .ok (.getfield 55, 3) := by decide +kernel
theorem dX8_turn_186 : decode cX8_turn 186 = .ok (.iconst 3, 1) := by decide +kernel
theorem dX8_turn_187 : decode cX8_turn 187 = .ok (.iload_n 2, 1) := by decide +kernel
theorem dX8_turn_188 : decode cX8_turn 188 = .ok (.imul, 1) := by decide +kernel
theorem dX8_turn_189 : decode cX8_turn 189 = .ok (.iconst 2, 1) := by decide +kernel
theorem dX8_turn_190 : decode cX8_turn 190 = .ok (.iadd, 1) := by decide +kernel
theorem dX8_turn_191 : decode cX8_turn 191 = .ok (.lload 8, 2) := by decide +kernel
theorem dX8_turn_193 : decode cX8_turn 193 = .ok (.lload 10, 2) := by decide +kernel
theorem dX8_turn_195 : decode cX8_turn 195 = .ok (.ldiv, 1) := by decide +kernel
theorem dX8_turn_196 : decode cX8_turn 196 = .ok (.lastore, 1) := by decide +kernel
theorem dX8_turn_197 : decode cX8_turn 197 = .ok (.iinc 2 1, 3) := by decide +kernel
theorem dX8_turn_200 : decode cX8_turn 200 = .ok (.goto (-169), 3) := by decide +kernel
theorem dX8_turn_203 : decode cX8_turn 203 = .ok (.aload_n 0, 1) := by decide +kernel
theorem dX8_turn_204 : decode cX8_turn 204 = .ok (.iload_n 1, 1) := by decide +kernel
theorem dX8_turn_205 : decode cX8_turn 205 = .ok (.putfield 105, 3) := by decide +kernel
theorem dX8_turn_208 : decode cX8_turn 208 = .ok (.iconst 0, 1) := by decide +kernel
theorem dX8_turn_209 : decode cX8_turn 209 = .ok (.istore_n 2, 1) := by decide +kernel
theorem dX8_turn_210 : decode cX8_turn 210 = .ok (.iload_n 2, 1) := by decide +kernel
theorem dX8_turn_211 : decode cX8_turn 211 = .ok (.iconst 3, 1) := by decide +kernel
theorem dX8_turn_212 : decode cX8_turn 212 = .ok (.aload_n 0, 1) := by decide +kernel
theorem dX8_turn_213 : decode cX8_turn 213 = .ok (.getfield 105, 3) := by decide +kernel
theorem dX8_turn_216 : decode cX8_turn 216 = .ok (.imul, 1) := by decide +kernel
theorem dX8_turn_217 : decode cX8_turn 217 = .ok (.if_icmp .ge 21, 3) := by decide +kernel
theorem dX8_turn_220 : decode cX8_turn 220 = .ok (.aload_n 0, 1) := by decide +kernel
theorem dX8_turn_221 : decode cX8_turn 221 = .ok (.getfield 20, 3) := by decide +kernel
theorem dX8_turn_224 : decode cX8_turn 224 = .ok (.iload_n 2, 1) := by decide +kernel
theorem dX8_turn_225 : decode cX8_turn 225 = .ok (.aload_n 0, 1) := by decide +kernel
theorem dX8_turn_226 : decode cX8_turn 226 = .ok (.getfield 55, 3) := by decide +kernel
theorem dX8_turn_229 : decode cX8_turn 229 = .ok (.iload_n 2, 1) := by decide +kernel
theorem dX8_turn_230 : decode cX8_turn 230 = .ok (.laload, 1) := by decide +kernel
theorem dX8_turn_231 : decode cX8_turn 231 = .ok (.lastore, 1) := by decide +kernel
theorem dX8_turn_232 : decode cX8_turn 232 = .ok (.iinc 2 1, 3) := by decide +kernel
theorem dX8_turn_235 : decode cX8_turn 235 = .ok (.goto (-25), 3) := by decide +kernel
theorem dX8_turn_238 : decode cX8_turn 238 = .ok (.aload_n 0, 1) := by decide +kernel
theorem dX8_turn_239 : decode cX8_turn 239 = .ok (.getfield 105, 3) := by decide +kernel
theorem dX8_turn_242 : decode cX8_turn 242 = .ok (.ireturn, 1) := by decide +kernel
set_option maxRecDepth 20000 in
theorem ggX8_drift_X8_set : GoodIn wsX8_drift wsX8_set := goodIn_r _ [10, 11] (by decide +kernel) (by decide +kernel)
set_option maxRecDepth 20000 in
theorem gX8_drift_X8_set : GoodIn wsX8_drift (va_wsS RX8 240 yX8_set wsX8_set) := goodIn_app (goodIn_of _ (by decide +kernel)) ggX8_drift_X8_set
set_option maxRecDepth 20000 in
theorem ggX8_drift_X8_times : GoodIn wsX8_drift wsX8_times := goodIn_r _ [14, 11] (by decide +kernel) (by decide +kernel)
set_option maxRecDepth 20000 in
theorem gX8_drift_X8_times : GoodIn wsX8_drift (va_wsS RX8 244 yX8_times wsX8_times) := goodIn_app (goodIn_of _ (by decide +kernel)) ggX8_drift_X8_times
theorem dX8_drift_0 : decode cX8_drift 0 = .ok (.aload_n 0, 1) := by decide +kernel
theorem dX8_drift_1 : decode cX8_drift 1 = .ok (.iconst 0, 1) := by decide +kernel
theorem dX8_drift_2 : decode cX8_drift 2 = .ok (.putfield 61, 3) := by decide +kernel
theorem dX8_drift_5 : decode cX8_drift 5 = .ok (.aload_n 0, 1) := by decide +kernel
theorem dX8_drift_6 : decode cX8_drift 6 = .ok (.getfield 108, 3) := by decide +kernel
theorem dX8_drift_9 : decode cX8_drift 9 = .ok (.iconst 1, 1) := by decide +kernel
theorem dX8_drift_10 : decode cX8_drift 10 = .ok (.if_icmp .eq 6, 3) := by decide +kernel
theorem dX8_drift_13 : decode cX8_drift 13 = .ok (.bipush (-2), 2) := by decide +kernel
theorem dX8_drift_15 : decode cX8_drift 15 = .ok (.ireturn, 1) := by decide +kernel
theorem dX8_drift_16 : decode cX8_drift 16 = .ok (.aload_n 0, 1) := by decide +kernel
theorem dX8_drift_17 : decode cX8_drift 17 = .ok (.getfield 42, 3) := by decide +kernel
theorem dX8_drift_20 : decode cX8_drift 20 = .ok (.lconst 1, 1) := by decide +kernel
theorem dX8_drift_21 : decode cX8_drift 21 = .ok (.invokestatic 240, 3) := by decide +kernel
theorem dX8_drift_24 : decode cX8_drift 24 = .ok (.aload_n 0, 1) := by decide +kernel
theorem dX8_drift_25 : decode cX8_drift 25 = .ok (.getfield 45, 3) := by decide +kernel
theorem dX8_drift_28 : decode cX8_drift 28 = .ok (.lconst 1, 1) := by decide +kernel
theorem dX8_drift_29 : decode cX8_drift 29 = .ok (.invokestatic 240, 3) := by decide +kernel
theorem dX8_drift_32 : decode cX8_drift 32 = .ok (.iconst 0, 1) := by decide +kernel
theorem dX8_drift_33 : decode cX8_drift 33 = .ok (.istore_n 1, 1) := by decide +kernel
theorem dX8_drift_34 : decode cX8_drift 34 = .ok (.iload_n 1, 1) := by decide +kernel
theorem dX8_drift_35 : decode cX8_drift 35 = .ok (.aload_n 0, 1) := by decide +kernel
theorem dX8_drift_36 : decode cX8_drift 36 = .ok (.getfield 105, 3) := by decide +kernel
theorem dX8_drift_39 : decode cX8_drift 39 = .ok (.if_icmp .ge 63, 3) := by decide +kernel
theorem dX8_drift_42 : decode cX8_drift 42 = .ok (.aload_n 0, 1) := by decide +kernel
theorem dX8_drift_43 : decode cX8_drift 43 = .ok (.getfield 20, 3) := by decide +kernel
theorem dX8_drift_46 : decode cX8_drift 46 = .ok (.iconst 3, 1) := by decide +kernel
theorem dX8_drift_47 : decode cX8_drift 47 = .ok (.iload_n 1, 1) := by decide +kernel
theorem dX8_drift_48 : decode cX8_drift 48 = .ok (.imul, 1) := by decide +kernel
theorem dX8_drift_49 : decode cX8_drift 49 = .ok (.laload, 1) := by decide +kernel
theorem dX8_drift_50 : decode cX8_drift 50 = .ok (.lstore_n 2, 1) := by decide +kernel
theorem dX8_drift_51 : decode cX8_drift 51 = .ok (.lload_n 2, 1) := by decide +kernel
theorem dX8_drift_52 : decode cX8_drift 52 = .ok (.lconst 0, 1) := by decide +kernel
theorem dX8_drift_53 : decode cX8_drift 53 = .ok (.lcmp, 1) := by decide +kernel
theorem dX8_drift_54 : decode cX8_drift 54 = .ok (.ifCond .ne 6, 3) := by decide +kernel
theorem dX8_drift_57 : decode cX8_drift 57 = .ok (.bipush (-2), 2) := by decide +kernel
theorem dX8_drift_59 : decode cX8_drift 59 = .ok (.ireturn, 1) := by decide +kernel
theorem dX8_drift_60 : decode cX8_drift 60 = .ok (.aload_n 0, 1) := by decide +kernel
theorem dX8_drift_61 : decode cX8_drift 61 = .ok (.getfield 42, 3) := by decide +kernel
theorem dX8_drift_64 : decode cX8_drift 64 = .ok (.lload_n 2, 1) := by decide +kernel
theorem dX8_drift_65 : decode cX8_drift 65 = .ok (.lconst 0, 1) := by decide +kernel
theorem dX8_drift_66 : decode cX8_drift 66 = .ok (.lcmp, 1) := by decide +kernel
theorem dX8_drift_67 : decode cX8_drift 67 = .ok (.ifCond .ge 8, 3) := by decide +kernel
theorem dX8_drift_70 : decode cX8_drift 70 = .ok (.lload_n 2, 1) := by decide +kernel
theorem dX8_drift_71 : decode cX8_drift 71 = .ok (.lneg, 1) := by decide +kernel
theorem dX8_drift_72 : decode cX8_drift 72 = .ok (.goto 4, 3) := by decide +kernel
theorem dX8_drift_75 : decode cX8_drift 75 = .ok (.lload_n 2, 1) := by decide +kernel
theorem dX8_drift_76 : decode cX8_drift 76 = .ok (.invokestatic 244, 3) := by decide +kernel
theorem dX8_drift_79 : decode cX8_drift 79 = .ok (.aload_n 0, 1) := by decide +kernel
theorem dX8_drift_80 : decode cX8_drift 80 = .ok (.getfield 45, 3) := by decide +kernel
theorem dX8_drift_83 : decode cX8_drift 83 = .ok (.aload_n 0, 1) := by decide +kernel
theorem dX8_drift_84 : decode cX8_drift 84 = .ok (.getfield 20, 3) := by decide +kernel
theorem dX8_drift_87 : decode cX8_drift 87 = .ok (.iconst 3, 1) := by decide +kernel
theorem dX8_drift_88 : decode cX8_drift 88 = .ok (.iload_n 1, 1) := by decide +kernel
theorem dX8_drift_89 : decode cX8_drift 89 = .ok (.imul, 1) := by decide +kernel
theorem dX8_drift_90 : decode cX8_drift 90 = .ok (.iconst 2, 1) := by decide +kernel
theorem dX8_drift_91 : decode cX8_drift 91 = .ok (.iadd, 1) := by decide +kernel
theorem dX8_drift_92 : decode cX8_drift 92 = .ok (.laload, 1) := by decide +kernel
theorem dX8_drift_93 : decode cX8_drift 93 = .ok (.invokestatic 244, 3) := by decide +kernel
theorem dX8_drift_96 : decode cX8_drift 96 = .ok (.iinc 1 1, 3) := by decide +kernel
theorem dX8_drift_99 : decode cX8_drift 99 = .ok (.goto (-65), 3) := by decide +kernel
theorem dX8_drift_102 : decode cX8_drift 102 = .ok (.bipush 25, 2) := by decide +kernel
theorem dX8_drift_104 : decode cX8_drift 104 = .ok (.istore_n 1, 1) := by decide +kernel
theorem dX8_drift_105 : decode cX8_drift 105 = .ok (.iload_n 1, 1) := by decide +kernel
theorem dX8_drift_106 : decode cX8_drift 106 = .ok (.ifCond .lt 47, 3) := by decide +kernel
theorem dX8_drift_109 : decode cX8_drift 109 = .ok (.aload_n 0, 1) := by decide +kernel
theorem dX8_drift_110 : decode cX8_drift 110 = .ok (.getfield 42, 3) := by decide +kernel
theorem dX8_drift_113 : decode cX8_drift 113 = .ok (.iload_n 1, 1) := by decide +kernel
theorem dX8_drift_114 : decode cX8_drift 114 = .ok (.laload, 1) := by decide +kernel
theorem dX8_drift_115 : decode cX8_drift 115 = .ok (.aload_n 0, 1) := by decide +kernel
theorem dX8_drift_116 : decode cX8_drift 116 = .ok (.getfield 45, 3) := by decide +kernel
theorem dX8_drift_119 : decode cX8_drift 119 = .ok (.iload_n 1, 1) := by decide +kernel
theorem dX8_drift_120 : decode cX8_drift 120 = .ok (.laload, 1) := by decide +kernel
theorem dX8_drift_121 : decode cX8_drift 121 = .ok (.lcmp, 1) := by decide +kernel
theorem dX8_drift_122 : decode cX8_drift 122 = .ok (.ifCond .eq 25, 3) := by decide +kernel
theorem dX8_drift_125 : decode cX8_drift 125 = .ok (.aload_n 0, 1) := by decide +kernel
theorem dX8_drift_126 : decode cX8_drift 126 = .ok (.getfield 42, 3) := by decide +kernel
theorem dX8_drift_129 : decode cX8_drift 129 = .ok (.iload_n 1, 1) := by decide +kernel
theorem dX8_drift_130 : decode cX8_drift 130 = .ok (.laload, 1) := by decide +kernel
theorem dX8_drift_131 : decode cX8_drift 131 = .ok (.aload_n 0, 1) := by decide +kernel
theorem dX8_drift_132 : decode cX8_drift 132 = .ok (.getfield 45, 3) := by decide +kernel
theorem dX8_drift_135 : decode cX8_drift 135 = .ok (.iload_n 1, 1) := by decide +kernel
theorem dX8_drift_136 : decode cX8_drift 136 = .ok (.laload, 1) := by decide +kernel
theorem dX8_drift_137 : decode cX8_drift 137 = .ok (.lcmp, 1) := by decide +kernel
theorem dX8_drift_138 : decode cX8_drift 138 = .ok (.ifCond .le 7, 3) := by decide +kernel
theorem dX8_drift_141 : decode cX8_drift 141 = .ok (.iconst 1, 1) := by decide +kernel
theorem dX8_drift_142 : decode cX8_drift 142 = .ok (.goto 4, 3) := by decide +kernel
theorem dX8_drift_145 : decode cX8_drift 145 = .ok (.iconst (-1), 1) := by decide +kernel
theorem dX8_drift_146 : decode cX8_drift 146 = .ok (.ireturn, 1) := by decide +kernel
theorem dX8_drift_147 : decode cX8_drift 147 = .ok (.iinc 1 (-1), 3) := by decide +kernel
theorem dX8_drift_150 : decode cX8_drift 150 = .ok (.goto (-45), 3) := by decide +kernel
theorem dX8_drift_153 : decode cX8_drift 153 = .ok (.iconst 0, 1) := by decide +kernel
theorem dX8_drift_154 : decode cX8_drift 154 = .ok (.ireturn, 1) := by decide +kernel
set_option maxRecDepth 20000 in
theorem ggX8_fixed_X8_restBy : GoodIn wsX8_fixed wsX8_restBy := goodIn_r _ [9, 10, 11, 12, 13] (by decide +kernel) (by decide +kernel)
set_option maxRecDepth 20000 in
theorem gX8_fixed_X8_restBy : GoodIn wsX8_fixed (va_wsS RX8 136 yX8_restBy wsX8_restBy) := goodIn_app (goodIn_of _ (by decide +kernel)) ggX8_fixed_X8_restBy
set_option maxRecDepth 20000 in
theorem ggX8_fixed_X8_ascend : GoodIn wsX8_fixed wsX8_ascend := goodIn_r _ [17, 5, 28, 29, 30, 31, 32, 33, 34, 35, 36, 37, 38, 39, 40, 41, 42, 43, 44, 45, 46, 47, 48, 49, 50, 51, 52, 53, 54, 55, 56, 57, 58, 59, 60] (by decide +kernel) (by decide +kernel)
set_option maxRecDepth 20000 in
theorem gX8_fixed_X8_ascend : GoodIn wsX8_fixed (wsV RX8 208 RX8 yX8_ascend wsX8_ascend) := goodIn_app (goodIn_of _ (by decide +kernel)) ggX8_fixed_X8_ascend
set_option maxRecDepth 20000 in
theorem ggX8_fixed_X8_tells : GoodIn wsX8_fixed wsX8_tells := goodIn_r _ [21, 22, 23, 24, 25, 26, 27, 5, 28, 29, 30, 31, 32, 33, 34, 35, 36, 37, 38, 39, 40, 41, 42, 43, 44, 45, 46, 47, 48, 49, 50, 51, 52, 53, 54, 55, 56, 57, 58, 59, 60] (by decide +kernel) (by decide +kernel)
set_option maxRecDepth 20000 in
theorem gX8_fixed_X8_tells : GoodIn wsX8_fixed (wsV RX8 164 RX8 yX8_tells wsX8_tells) := goodIn_app (goodIn_of _ (by decide +kernel)) ggX8_fixed_X8_tells
theorem dX8_fixed_0 : decode cX8_fixed 0 = .ok (.aload_n 0, 1) := by decide +kernel
theorem dX8_fixed_1 : decode cX8_fixed 1 = .ok (.iconst 0, 1) := by decide +kernel
theorem dX8_fixed_2 : decode cX8_fixed 2 = .ok (.putfield 61, 3) := by decide +kernel
theorem dX8_fixed_5 : decode cX8_fixed 5 = .ok (.aload_n 0, 1) := by decide +kernel
theorem dX8_fixed_6 : decode cX8_fixed 6 = .ok (.getfield 108, 3) := by decide +kernel
theorem dX8_fixed_9 : decode cX8_fixed 9 = .ok (.iconst 1, 1) := by decide +kernel
theorem dX8_fixed_10 : decode cX8_fixed 10 = .ok (.if_icmp .eq 5, 3) := by decide +kernel
theorem dX8_fixed_13 : decode cX8_fixed 13 = .ok (.iconst (-1), 1) := by decide +kernel
theorem dX8_fixed_14 : decode cX8_fixed 14 = .ok (.ireturn, 1) := by decide +kernel
theorem dX8_fixed_15 : decode cX8_fixed 15 = .ok (.iconst 0, 1) := by decide +kernel
theorem dX8_fixed_16 : decode cX8_fixed 16 = .ok (.istore_n 1, 1) := by decide +kernel
theorem dX8_fixed_17 : decode cX8_fixed 17 = .ok (.iconst 0, 1) := by decide +kernel
theorem dX8_fixed_18 : decode cX8_fixed 18 = .ok (.istore_n 2, 1) := by decide +kernel
theorem dX8_fixed_19 : decode cX8_fixed 19 = .ok (.iload_n 2, 1) := by decide +kernel
theorem dX8_fixed_20 : decode cX8_fixed 20 = .ok (.aload_n 0, 1) := by decide +kernel
theorem dX8_fixed_21 : decode cX8_fixed 21 = .ok (.getfield 105, 3) := by decide +kernel
theorem dX8_fixed_24 : decode cX8_fixed 24 = .ok (.if_icmp .ge 86, 3) := by decide +kernel
theorem dX8_fixed_27 : decode cX8_fixed 27 = .ok (.aload_n 0, 1) := by decide +kernel
theorem dX8_fixed_28 : decode cX8_fixed 28 = .ok (.getfield 20, 3) := by decide +kernel
theorem dX8_fixed_31 : decode cX8_fixed 31 = .ok (.iconst 3, 1) := by decide +kernel
theorem dX8_fixed_32 : decode cX8_fixed 32 = .ok (.iload_n 2, 1) := by decide +kernel
theorem dX8_fixed_33 : decode cX8_fixed 33 = .ok (.imul, 1) := by decide +kernel
theorem dX8_fixed_34 : decode cX8_fixed 34 = .ok (.iconst 2, 1) := by decide +kernel
theorem dX8_fixed_35 : decode cX8_fixed 35 = .ok (.iadd, 1) := by decide +kernel
theorem dX8_fixed_36 : decode cX8_fixed 36 = .ok (.laload, 1) := by decide +kernel
theorem dX8_fixed_37 : decode cX8_fixed 37 = .ok (.aload_n 0, 1) := by decide +kernel
theorem dX8_fixed_38 : decode cX8_fixed 38 = .ok (.getfield 20, 3) := by decide +kernel
theorem dX8_fixed_41 : decode cX8_fixed 41 = .ok (.iconst 3, 1) := by decide +kernel
theorem dX8_fixed_42 : decode cX8_fixed 42 = .ok (.iload_n 2, 1) := by decide +kernel
theorem dX8_fixed_43 : decode cX8_fixed 43 = .ok (.imul, 1) := by decide +kernel
theorem dX8_fixed_44 : decode cX8_fixed 44 = .ok (.laload, 1) := by decide +kernel
theorem dX8_fixed_45 : decode cX8_fixed 45 = .ok (.lsub, 1) := by decide +kernel
theorem dX8_fixed_46 : decode cX8_fixed 46 = .ok (.lstore_n 3, 1) := by decide +kernel
theorem dX8_fixed_47 : decode cX8_fixed 47 = .ok (.aload_n 0, 1) := by decide +kernel
theorem dX8_fixed_48 : decode cX8_fixed 48 = .ok (.getfield 20, 3) := by decide +kernel
theorem dX8_fixed_51 : decode cX8_fixed 51 = .ok (.iconst 3, 1) := by decide +kernel
theorem dX8_fixed_52 : decode cX8_fixed 52 = .ok (.iload_n 2, 1) := by decide +kernel
theorem dX8_fixed_53 : decode cX8_fixed 53 = .ok (.imul, 1) := by decide +kernel
theorem dX8_fixed_54 : decode cX8_fixed 54 = .ok (.iconst 1, 1) := by decide +kernel
theorem dX8_fixed_55 : decode cX8_fixed 55 = .ok (.iadd, 1) := by decide +kernel
theorem dX8_fixed_56 : decode cX8_fixed 56 = .ok (.laload, 1) := by decide +kernel
theorem dX8_fixed_57 : decode cX8_fixed 57 = .ok (.lstore 5, 2) := by decide +kernel
theorem dX8_fixed_59 : decode cX8_fixed 59 = .ok (.lload_n 3, 1) := by decide +kernel
theorem dX8_fixed_60 : decode cX8_fixed 60 = .ok (.lconst 0, 1) := by decide +kernel
theorem dX8_fixed_61 : decode cX8_fixed 61 = .ok (.lcmp, 1) := by decide +kernel
theorem dX8_fixed_62 : decode cX8_fixed 62 = .ok (.ifCond .eq 42, 3) := by decide +kernel
theorem dX8_fixed_65 : decode cX8_fixed 65 = .ok (.lload 5, 2) := by decide +kernel
theorem dX8_fixed_67 : decode cX8_fixed 67 = .ok (.lload_n 3, 1) := by decide +kernel
theorem dX8_fixed_68 : decode cX8_fixed 68 = .ok (.lrem, 1) := by decide +kernel
theorem dX8_fixed_69 : decode cX8_fixed 69 = .ok (.lconst 0, 1) := by decide +kernel
theorem dX8_fixed_70 : decode cX8_fixed 70 = .ok (.lcmp, 1) := by decide +kernel
theorem dX8_fixed_71 : decode cX8_fixed 71 = .ok (.ifCond .ne 33, 3) := by decide +kernel
theorem dX8_fixed_74 : decode cX8_fixed 74 = .ok (.lload 5, 2) := by decide +kernel
theorem dX8_fixed_76 : decode cX8_fixed 76 = .ok (.lload_n 3, 1) := by decide +kernel
theorem dX8_fixed_77 : decode cX8_fixed 77 = .ok (.ldiv, 1) := by decide +kernel
theorem dX8_fixed_78 : decode cX8_fixed 78 = .ok (.aload_n 0, 1) := by decide +kernel
theorem dX8_fixed_79 : decode cX8_fixed 79 = .ok (.getfield 105, 3) := by decide +kernel
theorem dX8_fixed_82 : decode cX8_fixed 82 = .ok (.invokestatic 136, 3) := by decide +kernel
theorem dX8_fixed_85 : decode cX8_fixed 85 = .ok (.iload_n 2, 1) := by decide +kernel
theorem dX8_fixed_86 : decode cX8_fixed 86 = .ok (.i2l, 1) := by decide +kernel
theorem dX8_fixed_87 : decode cX8_fixed 87 = .ok (.lcmp, 1) := by decide +kernel
theorem dX8_fixed_88 : decode cX8_fixed 88 = .ok (.ifCond .ne 16, 3) := by decide +kernel
theorem dX8_fixed_91 : decode cX8_fixed 91 = .ok (.aload_n 0, 1) := by decide +kernel
theorem dX8_fixed_92 : decode cX8_fixed 92 = .ok (.getfield 32, 3) := by decide +kernel
theorem dX8_fixed_95 : decode cX8_fixed 95 = .ok (.iload_n 1, 1) := by decide +kernel
theorem dX8_fixed_96 : decode cX8_fixed 96 = .ok (.lload 5, 2) := by decide +kernel
theorem dX8_fixed_98 : decode cX8_fixed 98 = .ok (.lload_n 3, 1) := by decide +kernel
theorem dX8_fixed_99 : decode cX8_fixed 99 = .ok (.ldiv, 1) := by decide +kernel
theorem dX8_fixed_100 : decode cX8_fixed 100 = .ok (.lastore, 1) := by decide +kernel
theorem dX8_fixed_101 : decode cX8_fixed 101 = .ok (.iinc 1 1, 3) := by decide +kernel
theorem dX8_fixed_104 : decode cX8_fixed 104 = .ok (.iinc 2 1, 3) := by decide +kernel
theorem dX8_fixed_107 : decode cX8_fixed 107 = .ok (.goto (-88), 3) := by decide +kernel
theorem dX8_fixed_110 : decode cX8_fixed 110 = .ok (.aload_n 0, 1) := by decide +kernel
theorem dX8_fixed_111 : decode cX8_fixed 111 = .ok (.iload_n 1, 1) := by decide +kernel
theorem dX8_fixed_112 : decode cX8_fixed 112 = .ok (.invokevirtual 208, 3) := by decide +kernel
theorem dX8_fixed_115 : decode cX8_fixed 115 = .ok (.aload_n 0, 1) := by decide +kernel
theorem dX8_fixed_116 : decode cX8_fixed 116 = .ok (.iload_n 1, 1) := by decide +kernel
theorem dX8_fixed_117 : decode cX8_fixed 117 = .ok (.invokevirtual 164, 3) := by decide +kernel
theorem dX8_fixed_120 : decode cX8_fixed 120 = .ok (.iload_n 1, 1) := by decide +kernel
theorem dX8_fixed_121 : decode cX8_fixed 121 = .ok (.ireturn, 1) := by decide +kernel
set_option maxRecDepth 20000 in
theorem ggX8_act_X8_in : GoodIn wsX8_act wsX8_in := goodIn_r _ [10] (by decide +kernel) (by decide +kernel)
set_option maxRecDepth 20000 in
theorem gX8_act_X8_in : GoodIn wsX8_act (va_wsS RX8 68 yX8_in wsX8_in) := goodIn_app (goodIn_of _ (by decide +kernel)) ggX8_act_X8_in
theorem dX8_act_0 : decode cX8_act 0 = .ok (.aload_n 0, 1) := by decide +kernel
theorem dX8_act_1 : decode cX8_act 1 = .ok (.iconst 0, 1) := by decide +kernel
theorem dX8_act_2 : decode cX8_act 2 = .ok (.putfield 61, 3) := by decide +kernel
theorem dX8_act_5 : decode cX8_act 5 = .ok (.iload_n 1, 1) := by decide +kernel
theorem dX8_act_6 : decode cX8_act 6 = .ok (.i2l, 1) := by decide +kernel
theorem dX8_act_7 : decode cX8_act 7 = .ok (.lconst 0, 1) := by decide +kernel
theorem dX8_act_8 : decode cX8_act 8 = .ok (.ldc2_w 72, 3) := by decide +kernel
theorem dX8_act_11 : decode cX8_act 11 = .ok (.invokestatic 68, 3) := by decide +kernel
theorem dX8_act_14 : decode cX8_act 14 = .ok (.ifCond .eq 63, 3) := by decide +kernel
theorem dX8_act_17 : decode cX8_act 17 = .ok (.iload_n 1, 1) := by decide +kernel
theorem dX8_act_18 : decode cX8_act 18 = .ok (.iconst 2, 1) := by decide +kernel
theorem dX8_act_19 : decode cX8_act 19 = .ok (.if_icmp .eq 27, 3) := by decide +kernel
theorem dX8_act_22 : decode cX8_act 22 = .ok (.iload_n 2, 1) := by decide +kernel
theorem dX8_act_23 : decode cX8_act 23 = .ok (.i2l, 1) := by decide +kernel
theorem dX8_act_24 : decode cX8_act 24 = .ok (.lconst 0, 1) := by decide +kernel
theorem dX8_act_25 : decode cX8_act 25 = .ok (.ldc2_w 83, 3) := by decide +kernel
theorem dX8_act_28 : decode cX8_act 28 = .ok (.invokestatic 68, 3) := by decide +kernel
theorem dX8_act_31 : decode cX8_act 31 = .ok (.ifCond .eq 46, 3) := by decide +kernel
theorem dX8_act_34 : decode cX8_act 34 = .ok (.iload_n 3, 1) := by decide +kernel
theorem dX8_act_35 : decode cX8_act 35 = .ok (.i2l, 1) := by decide +kernel
theorem dX8_act_36 : decode cX8_act 36 = .ok (.lconst 0, 1) := by decide +kernel
theorem dX8_act_37 : decode cX8_act 37 = .ok (.ldc2_w 247, 3) := by decide +kernel
theorem dX8_act_40 : decode cX8_act 40 = .ok (.invokestatic 68, 3) := by decide +kernel
theorem dX8_act_43 : decode cX8_act 43 = .ok (.ifCond .eq 34, 3) := by decide +kernel
theorem dX8_act_46 : decode cX8_act 46 = .ok (.iload_n 1, 1) := by decide +kernel
theorem dX8_act_47 : decode cX8_act 47 = .ok (.iconst 1, 1) := by decide +kernel
theorem dX8_act_48 : decode cX8_act 48 = .ok (.if_icmp .ne 16, 3) := by decide +kernel
theorem dX8_act_51 : decode cX8_act 51 = .ok (.iload 4, 2) := by decide +kernel
theorem dX8_act_53 : decode cX8_act 53 = .ok (.i2l, 1) := by decide +kernel
theorem dX8_act_54 : decode cX8_act 54 = .ok (.lconst 0, 1) := by decide +kernel
theorem dX8_act_55 : decode cX8_act 55 = .ok (.ldc2_w 247, 3) := by decide +kernel
theorem dX8_act_58 : decode cX8_act 58 = .ok (.invokestatic 68, 3) := by decide +kernel
theorem dX8_act_61 : decode cX8_act 61 = .ok (.ifCond .eq 16, 3) := by decide +kernel
theorem dX8_act_64 : decode cX8_act 64 = .ok (.aload_n 0, 1) := by decide +kernel
theorem dX8_act_65 : decode cX8_act 65 = .ok (.getfield 130, 3) := by decide +kernel
theorem dX8_act_68 : decode cX8_act 68 = .ok (.bipush 12, 2) := by decide +kernel
theorem dX8_act_70 : decode cX8_act 70 = .ok (.if_icmp .ge 7, 3) := by decide +kernel
theorem dX8_act_73 : decode cX8_act 73 = .ok (.iconst 1, 1) := by decide +kernel
theorem dX8_act_74 : decode cX8_act 74 = .ok (.goto 4, 3) := by decide +kernel
theorem dX8_act_77 : decode cX8_act 77 = .ok (.iconst 0, 1) := by decide +kernel
theorem dX8_act_78 : decode cX8_act 78 = .ok (.istore 5, 2) := by decide +kernel
theorem dX8_act_80 : decode cX8_act 80 = .ok (.iload 5, 2) := by decide +kernel
theorem dX8_act_82 : decode cX8_act 82 = .ok (.ifCond .ne 5, 3) := by decide +kernel
theorem dX8_act_85 : decode cX8_act 85 = .ok (.iconst (-1), 1) := by decide +kernel
theorem dX8_act_86 : decode cX8_act 86 = .ok (.ireturn, 1) := by decide +kernel
theorem dX8_act_87 : decode cX8_act 87 = .ok (.aload_n 0, 1) := by decide +kernel
theorem dX8_act_88 : decode cX8_act 88 = .ok (.getfield 58, 3) := by decide +kernel
theorem dX8_act_91 : decode cX8_act 91 = .ok (.iconst 4, 1) := by decide +kernel
theorem dX8_act_92 : decode cX8_act 92 = .ok (.aload_n 0, 1) := by decide +kernel
theorem dX8_act_93 : decode cX8_act 93 = .ok (.getfield 130, 3) := by decide +kernel
theorem dX8_act_96 : decode cX8_act 96 = .ok (.imul, 1) := by decide +kernel
theorem dX8_act_97 : decode cX8_act 97 = .ok (.iload_n 1, 1) := by decide +kernel
theorem dX8_act_98 : decode cX8_act 98 = .ok (.iastore, 1) := by decide +kernel
theorem dX8_act_99 : decode cX8_act 99 = .ok (.aload_n 0, 1) := by decide +kernel
theorem dX8_act_100 : decode cX8_act 100 = .ok (.getfield 58, 3) := by decide +kernel
theorem dX8_act_103 : decode cX8_act 103 = .ok (.iconst 4, 1) := by decide +kernel
theorem dX8_act_104 : decode cX8_act 104 = .ok (.aload_n 0, 1) := by decide +kernel
theorem dX8_act_105 : decode cX8_act 105 = .ok (.getfield 130, 3) := by decide +kernel
theorem dX8_act_108 : decode cX8_act 108 = .ok (.imul, 1) := by decide +kernel
theorem dX8_act_109 : decode cX8_act 109 = .ok (.iconst 1, 1) := by decide +kernel
theorem dX8_act_110 : decode cX8_act 110 = .ok (.iadd, 1) := by decide +kernel
theorem dX8_act_111 : decode cX8_act 111 = .ok (.iload_n 2, 1) := by decide +kernel
theorem dX8_act_112 : decode cX8_act 112 = .ok (.iastore, 1) := by decide +kernel
theorem dX8_act_113 : decode cX8_act 113 = .ok (.aload_n 0, 1) := by decide +kernel
theorem dX8_act_114 : decode cX8_act 114 = .ok (.getfield 58, 3) := by decide +kernel
theorem dX8_act_117 : decode cX8_act 117 = .ok (.iconst 4, 1) := by decide +kernel
theorem dX8_act_118 : decode cX8_act 118 = .ok (.aload_n 0, 1) := by decide +kernel
theorem dX8_act_119 : decode cX8_act 119 = .ok (.getfield 130, 3) := by decide +kernel
theorem dX8_act_122 : decode cX8_act 122 = .ok (.imul, 1) := by decide +kernel
theorem dX8_act_123 : decode cX8_act 123 = .ok (.iconst 2, 1) := by decide +kernel
theorem dX8_act_124 : decode cX8_act 124 = .ok (.iadd, 1) := by decide +kernel
theorem dX8_act_125 : decode cX8_act 125 = .ok (.iload_n 3, 1) := by decide +kernel
theorem dX8_act_126 : decode cX8_act 126 = .ok (.iastore, 1) := by decide +kernel
theorem dX8_act_127 : decode cX8_act 127 = .ok (.aload_n 0, 1) := by decide +kernel
theorem dX8_act_128 : decode cX8_act 128 = .ok (.getfield 58, 3) := by decide +kernel
theorem dX8_act_131 : decode cX8_act 131 = .ok (.iconst 4, 1) := by decide +kernel
theorem dX8_act_132 : decode cX8_act 132 = .ok (.aload_n 0, 1) := by decide +kernel
theorem dX8_act_133 : decode cX8_act 133 = .ok (.getfield 130, 3) := by decide +kernel
theorem dX8_act_136 : decode cX8_act 136 = .ok (.imul, 1) := by decide +kernel
theorem dX8_act_137 : decode cX8_act 137 = .ok (.iconst 3, 1) := by decide +kernel
theorem dX8_act_138 : decode cX8_act 138 = .ok (.iadd, 1) := by decide +kernel
theorem dX8_act_139 : decode cX8_act 139 = .ok (.iload 4, 2) := by decide +kernel
theorem dX8_act_141 : decode cX8_act 141 = .ok (.iastore, 1) := by decide +kernel
theorem dX8_act_142 : decode cX8_act 142 = .ok (.aload_n 0, 1) := by decide +kernel
theorem dX8_act_143 : decode cX8_act 143 = .ok (.dup, 1) := by decide +kernel
theorem dX8_act_144 : decode cX8_act 144 = .ok (.getfield 130, 3) := by decide +kernel
theorem dX8_act_147 : decode cX8_act 147 = .ok (.iconst 1, 1) := by decide +kernel
theorem dX8_act_148 : decode cX8_act 148 = .ok (.iadd, 1) := by decide +kernel
theorem dX8_act_149 : decode cX8_act 149 = .ok (.putfield 130, 3) := by decide +kernel
theorem dX8_act_152 : decode cX8_act 152 = .ok (.aload_n 0, 1) := by decide +kernel
theorem dX8_act_153 : decode cX8_act 153 = .ok (.getfield 130, 3) := by decide +kernel
theorem dX8_act_156 : decode cX8_act 156 = .ok (.iconst 1, 1) := by decide +kernel
theorem dX8_act_157 : decode cX8_act 157 = .ok (.isub, 1) := by decide +kernel
theorem dX8_act_158 : decode cX8_act 158 = .ok (.ireturn, 1) := by decide +kernel
theorem dX8_scrap_0 : decode cX8_scrap 0 = .ok (.aload_n 0, 1) := by decide +kernel
theorem dX8_scrap_1 : decode cX8_scrap 1 = .ok (.iconst 0, 1) := by decide +kernel
theorem dX8_scrap_2 : decode cX8_scrap 2 = .ok (.putfield 61, 3) := by decide +kernel
theorem dX8_scrap_5 : decode cX8_scrap 5 = .ok (.aload_n 0, 1) := by decide +kernel
theorem dX8_scrap_6 : decode cX8_scrap 6 = .ok (.getfield 130, 3) := by decide +kernel
theorem dX8_scrap_9 : decode cX8_scrap 9 = .ok (.istore_n 1, 1) := by decide +kernel
theorem dX8_scrap_10 : decode cX8_scrap 10 = .ok (.aload_n 0, 1) := by decide +kernel
theorem dX8_scrap_11 : decode cX8_scrap 11 = .ok (.iconst 0, 1) := by decide +kernel
theorem dX8_scrap_12 : decode cX8_scrap 12 = .ok (.putfield 130, 3) := by decide +kernel
theorem dX8_scrap_15 : decode cX8_scrap 15 = .ok (.iload_n 1, 1) := by decide +kernel
theorem dX8_scrap_16 : decode cX8_scrap 16 = .ok (.ireturn, 1) := by decide +kernel
set_option maxRecDepth 20000 in
theorem ggX8_areHeaps_X8_in : GoodIn wsX8_areHeaps wsX8_in := goodIn_r _ [5] (by decide +kernel) (by decide +kernel)
set_option maxRecDepth 20000 in
theorem gX8_areHeaps_X8_in : GoodIn wsX8_areHeaps (va_wsS RX8 68 yX8_in wsX8_in) := goodIn_app (goodIn_of _ (by decide +kernel)) ggX8_areHeaps_X8_in
theorem dX8_areHeaps_0 : decode cX8_areHeaps 0 = .ok (.iload_n 0, 1) := by decide +kernel
theorem dX8_areHeaps_1 : decode cX8_areHeaps 1 = .ok (.i2l, 1) := by decide +kernel
theorem dX8_areHeaps_2 : decode cX8_areHeaps 2 = .ok (.lconst 0, 1) := by decide +kernel
theorem dX8_areHeaps_3 : decode cX8_areHeaps 3 = .ok (.ldc2_w 96, 3) := by decide +kernel
theorem dX8_areHeaps_6 : decode cX8_areHeaps 6 = .ok (.invokestatic 68, 3) := by decide +kernel
theorem dX8_areHeaps_9 : decode cX8_areHeaps 9 = .ok (.ifCond .eq 43, 3) := by decide +kernel
theorem dX8_areHeaps_12 : decode cX8_areHeaps 12 = .ok (.iload_n 1, 1) := by decide +kernel
theorem dX8_areHeaps_13 : decode cX8_areHeaps 13 = .ok (.i2l, 1) := by decide +kernel
theorem dX8_areHeaps_14 : decode cX8_areHeaps 14 = .ok (.lconst 0, 1) := by decide +kernel
theorem dX8_areHeaps_15 : decode cX8_areHeaps 15 = .ok (.ldc2_w 96, 3) := by decide +kernel
theorem dX8_areHeaps_18 : decode cX8_areHeaps 18 = .ok (.invokestatic 68, 3) := by decide +kernel
theorem dX8_areHeaps_21 : decode cX8_areHeaps 21 = .ok (.ifCond .eq 31, 3) := by decide +kernel
theorem dX8_areHeaps_24 : decode cX8_areHeaps 24 = .ok (.iload_n 2, 1) := by decide +kernel
theorem dX8_areHeaps_25 : decode cX8_areHeaps 25 = .ok (.i2l, 1) := by decide +kernel
theorem dX8_areHeaps_26 : decode cX8_areHeaps 26 = .ok (.lconst 0, 1) := by decide +kernel
theorem dX8_areHeaps_27 : decode cX8_areHeaps 27 = .ok (.ldc2_w 96, 3) := by decide +kernel
theorem dX8_areHeaps_30 : decode cX8_areHeaps 30 = .ok (.invokestatic 68, 3) := by decide +kernel
theorem dX8_areHeaps_33 : decode cX8_areHeaps 33 = .ok (.ifCond .eq 19, 3) := by decide +kernel
theorem dX8_areHeaps_36 : decode cX8_areHeaps 36 = .ok (.iload_n 3, 1) := by decide +kernel
theorem dX8_areHeaps_37 : decode cX8_areHeaps 37 = .ok (.i2l, 1) := by decide +kernel
theorem dX8_areHeaps_38 : decode cX8_areHeaps 38 = .ok (.lconst 0, 1) := by decide +kernel
theorem dX8_areHeaps_39 : decode cX8_areHeaps 39 = .ok (.ldc2_w 96, 3) := by decide +kernel
theorem dX8_areHeaps_42 : decode cX8_areHeaps 42 = .ok (.invokestatic 68, 3) := by decide +kernel
theorem dX8_areHeaps_45 : decode cX8_areHeaps 45 = .ok (.ifCond .eq 7, 3) := by decide +kernel
theorem dX8_areHeaps_48 : decode cX8_areHeaps 48 = .ok (.iconst 1, 1) := by decide +kernel
theorem dX8_areHeaps_49 : decode cX8_areHeaps 49 = .ok (.goto 4, 3) := by decide +kernel
theorem dX8_areHeaps_52 : decode cX8_areHeaps 52 = .ok (.iconst 0, 1) := by decide +kernel
theorem dX8_areHeaps_53 : decode cX8_areHeaps 53 = .ok (.ireturn, 1) := by decide +kernel
set_option maxRecDepth 20000 in
theorem ggX8_go_X8_areHeaps : GoodIn wsX8_go wsX8_areHeaps := goodIn_r _ [9, 10, 11, 12, 8, 13] (by decide +kernel) (by decide +kernel)
set_option maxRecDepth 20000 in
theorem gX8_go_X8_areHeaps : GoodIn wsX8_go (va_wsS RX8 249 yX8_areHeaps wsX8_areHeaps) := goodIn_app (goodIn_of _ (by decide +kernel)) ggX8_go_X8_areHeaps
set_option maxRecDepth 20000 in
theorem ggX8_go_X8_in : GoodIn wsX8_go wsX8_in := goodIn_r _ [13] (by decide +kernel) (by decide +kernel)
set_option maxRecDepth 20000 in
theorem gX8_go_X8_in : GoodIn wsX8_go (va_wsS RX8 68 yX8_in wsX8_in) := goodIn_app (goodIn_of _ (by decide +kernel)) ggX8_go_X8_in
set_option maxRecDepth 20000 in
theorem ggX8_go_X8_tells : GoodIn wsX8_go wsX8_tells := goodIn_r _ [17, 18, 19, 20, 21, 22, 23, 4, 24, 25, 26, 27, 28, 29, 30, 31, 32, 33, 34, 35, 36, 37, 38, 39, 40, 41, 42, 43, 44, 45, 46, 47, 48, 49, 50, 51, 52, 53, 54, 55, 56] (by decide +kernel) (by decide +kernel)
set_option maxRecDepth 20000 in
theorem gX8_go_X8_tells : GoodIn wsX8_go (wsV RX8 164 RX8 yX8_tells wsX8_tells) := goodIn_app (goodIn_of _ (by decide +kernel)) ggX8_go_X8_tells
theorem dX8_go_0 : decode cX8_go 0 = .ok (.aload_n 0, 1) := by decide +kernel
theorem dX8_go_1 : decode cX8_go 1 = .ok (.iconst 0, 1) := by decide +kernel
theorem dX8_go_2 : decode cX8_go 2 = .ok (.putfield 61, 3) := by decide +kernel
theorem dX8_go_5 : decode cX8_go 5 = .ok (.aload_n 0, 1) := by decide +kernel
theorem dX8_go_6 : decode cX8_go 6 = .ok (.getfield 130, 3) := by decide +kernel
theorem dX8_go_9 : decode cX8_go 9 = .ok (.ifCond .eq 27, 3) := by decide +kernel
theorem dX8_go_12 : decode cX8_go 12 = .ok (.iload_n 1, 1) := by decide +kernel
theorem dX8_go_13 : decode cX8_go 13 = .ok (.iload_n 2, 1) := by decide +kernel
theorem dX8_go_14 : decode cX8_go 14 = .ok (.iload_n 3, 1) := by decide +kernel
theorem dX8_go_15 : decode cX8_go 15 = .ok (.iload 4, 2) := by decide +kernel
theorem dX8_go_17 : decode cX8_go 17 = .ok (.invokestatic 249, 3) := by decide +kernel
theorem dX8_go_20 : decode cX8_go 20 = .ok (.ifCond .eq 16, 3) := by decide +kernel
theorem dX8_go_23 : decode cX8_go 23 = .ok (.iload 5, 2) := by decide +kernel
theorem dX8_go_25 : decode cX8_go 25 = .ok (.i2l, 1) := by decide +kernel
theorem dX8_go_26 : decode cX8_go 26 = .ok (.lconst 0, 1) := by decide +kernel
theorem dX8_go_27 : decode cX8_go 27 = .ok (.ldc2_w 157, 3) := by decide +kernel
theorem dX8_go_30 : decode cX8_go 30 = .ok (.invokestatic 68, 3) := by decide +kernel
theorem dX8_go_33 : decode cX8_go 33 = .ok (.ifCond .ne 5, 3) := by decide +kernel
theorem dX8_go_36 : decode cX8_go 36 = .ok (.iconst (-1), 1) := by decide +kernel
theorem dX8_go_37 : decode cX8_go 37 = .ok (.ireturn, 1) := by decide +kernel
theorem dX8_go_38 : decode cX8_go 38 = .ok (.aload_n 0, 1) := by decide +kernel
theorem dX8_go_39 : decode cX8_go 39 = .ok (.getfield 32, 3) := by decide +kernel
theorem dX8_go_42 : decode cX8_go 42 = .ok (.iconst 0, 1) := by decide +kernel
theorem dX8_go_43 : decode cX8_go 43 = .ok (.iload_n 1, 1) := by decide +kernel
theorem dX8_go_44 : decode cX8_go 44 = .ok (.i2l, 1) := by decide +kernel
theorem dX8_go_45 : decode cX8_go 45 = .ok (.lastore, 1) := by decide +kernel
theorem dX8_go_46 : decode cX8_go 46 = .ok (.aload_n 0, 1) := by decide +kernel
theorem dX8_go_47 : decode cX8_go 47 = .ok (.getfield 32, 3) := by decide +kernel
theorem dX8_go_50 : decode cX8_go 50 = .ok (.iconst 1, 1) := by decide +kernel
theorem dX8_go_51 : decode cX8_go 51 = .ok (.iload_n 2, 1) := by decide +kernel
theorem dX8_go_52 : decode cX8_go 52 = .ok (.i2l, 1) := by decide +kernel
theorem dX8_go_53 : decode cX8_go 53 = .ok (.lastore, 1) := by decide +kernel
theorem dX8_go_54 : decode cX8_go 54 = .ok (.aload_n 0, 1) := by decide +kernel
theorem dX8_go_55 : decode cX8_go 55 = .ok (.getfield 32, 3) := by decide +kernel
theorem dX8_go_58 : decode cX8_go 58 = .ok (.iconst 2, 1) := by decide +kernel
theorem dX8_go_59 : decode cX8_go 59 = .ok (.iload_n 3, 1) := by decide +kernel
theorem dX8_go_60 : decode cX8_go 60 = .ok (.i2l, 1) := by decide +kernel
theorem dX8_go_61 : decode cX8_go 61 = .ok (.lastore, 1) := by decide +kernel
theorem dX8_go_62 : decode cX8_go 62 = .ok (.aload_n 0, 1) := by decide +kernel
theorem dX8_go_63 : decode cX8_go 63 = .ok (.getfield 32, 3) := by decide +kernel
theorem dX8_go_66 : decode cX8_go 66 = .ok (.iconst 3, 1) := by decide +kernel
theorem dX8_go_67 : decode cX8_go 67 = .ok (.iload 4, 2) := by decide +kernel
theorem dX8_go_69 : decode cX8_go 69 = .ok (.i2l, 1) := by decide +kernel
theorem dX8_go_70 : decode cX8_go 70 = .ok (.lastore, 1) := by decide +kernel
theorem dX8_go_71 : decode cX8_go 71 = .ok (.iconst 0, 1) := by decide +kernel
theorem dX8_go_72 : decode cX8_go 72 = .ok (.istore 6, 2) := by decide +kernel
theorem dX8_go_74 : decode cX8_go 74 = .ok (.iconst 0, 1) := by decide +kernel
theorem dX8_go_75 : decode cX8_go 75 = .ok (.istore 7, 2) := by decide +kernel
theorem dX8_go_77 : decode cX8_go 77 = .ok (.bipush (-2), 2) := by decide +kernel
theorem dX8_go_79 : decode cX8_go 79 = .ok (.istore 8, 2) := by decide +kernel
theorem dX8_go_81 : decode cX8_go 81 = .ok (.iload 8, 2) := by decide +kernel
theorem dX8_go_83 : decode cX8_go 83 = .ok (.bipush (-2), 2) := by decide +kernel
theorem dX8_go_85 : decode cX8_go 85 = .ok (.if_icmp .ne 160, 3) := by decide +kernel
theorem dX8_go_88 : decode cX8_go 88 = .ok (.iload 6, 2) := by decide +kernel
theorem dX8_go_90 : decode cX8_go 90 = .ok (.aload_n 0, 1) := by decide +kernel
theorem dX8_go_91 : decode cX8_go 91 = .ok (.getfield 130, 3) := by decide +kernel
theorem dX8_go_94 : decode cX8_go 94 = .ok (.if_icmp .ge 10, 3) := by decide +kernel
theorem dX8_go_97 : decode cX8_go 97 = .ok (.iload 7, 2) := by decide +kernel
theorem dX8_go_99 : decode cX8_go 99 = .ok (.iload 5, 2) := by decide +kernel
theorem dX8_go_101 : decode cX8_go 101 = .ok (.if_icmp .ge 144, 3) := by decide +kernel
theorem dX8_go_104 : decode cX8_go 104 = .ok (.iload 6, 2) := by decide +kernel
theorem dX8_go_106 : decode cX8_go 106 = .ok (.aload_n 0, 1) := by decide +kernel
theorem dX8_go_107 : decode cX8_go 107 = .ok (.getfield 130, 3) := by decide +kernel
theorem dX8_go_110 : decode cX8_go 110 = .ok (.if_icmp .lt 9, 3) := by decide +kernel
theorem dX8_go_113 : decode cX8_go 113 = .ok (.iconst 0, 1) := by decide +kernel
theorem dX8_go_114 : decode cX8_go 114 = .ok (.istore 8, 2) := by decide +kernel
theorem dX8_go_116 : decode cX8_go 116 = .ok (.goto (-35), 3) := by decide +kernel
theorem dX8_go_119 : decode cX8_go 119 = .ok (.aload_n 0, 1) := by decide +kernel
theorem dX8_go_120 : decode cX8_go 120 = .ok (.getfield 58, 3) := by decide +kernel
theorem dX8_go_123 : decode cX8_go 123 = .ok (.iconst 4, 1) := by decide +kernel
theorem dX8_go_124 : decode cX8_go 124 = .ok (.iload 6, 2) := by decide +kernel
theorem dX8_go_126 : decode cX8_go 126 = .ok (.imul, 1) := by decide +kernel
theorem dX8_go_127 : decode cX8_go 127 = .ok (.iaload, 1) := by decide +kernel
theorem dX8_go_128 : decode cX8_go 128 = .ok (.istore 9, 2) := by decide +kernel
theorem dX8_go_130 : decode cX8_go 130 = .ok (.aload_n 0, 1) := by decide +kernel
theorem dX8_go_131 : decode cX8_go 131 = .ok (.getfield 58, 3) := by decide +kernel
theorem dX8_go_134 : decode cX8_go 134 = .ok (.iconst 4, 1) := by decide +kernel
theorem dX8_go_135 : decode cX8_go 135 = .ok (.iload 6, 2) := by decide +kernel
theorem dX8_go_137 : decode cX8_go 137 = .ok (.imul, 1) := by decide +kernel
theorem dX8_go_138 : decode cX8_go 138 = .ok (.iconst 1, 1) := by decide +kernel
theorem dX8_go_139 : decode cX8_go 139 = .ok (.iadd, 1) := by decide +kernel
theorem dX8_go_140 : decode cX8_go 140 = .ok (.iaload, 1) := by decide +kernel
theorem dX8_go_141 : decode cX8_go 141 = .ok (.istore 10, 2) := by decide +kernel
theorem dX8_go_143 : decode cX8_go 143 = .ok (.iinc 7 1, 3) := by decide +kernel
theorem dX8_go_146 : decode cX8_go 146 = .ok (.iload 9, 2) := by decide +kernel
theorem dX8_go_148 : decode cX8_go 148 = .ok (.iconst 2, 1) := by decide +kernel
theorem dX8_go_149 : decode cX8_go 149 = .ok (.if_icmp .ne 9, 3) := by decide +kernel
theorem dX8_go_152 : decode cX8_go 152 = .ok (.iconst 1, 1) := by decide +kernel
theorem dX8_go_153 : decode cX8_go 153 = .ok (.istore 8, 2) := by decide +kernel
theorem dX8_go_155 : decode cX8_go 155 = .ok (.goto 87, 3) := by decide +kernel
theorem dX8_go_158 : decode cX8_go 158 = .ok (.iload 9, 2) := by decide +kernel
theorem dX8_go_160 : decode cX8_go 160 = .ok (.ifCond .ne 30, 3) := by decide +kernel
theorem dX8_go_163 : decode cX8_go 163 = .ok (.aload_n 0, 1) := by decide +kernel
theorem dX8_go_164 : decode cX8_go 164 = .ok (.getfield 32, 3) := by decide +kernel
theorem dX8_go_167 : decode cX8_go 167 = .ok (.iload 10, 2) := by decide +kernel
theorem dX8_go_169 : decode cX8_go 169 = .ok (.dup2, 1) := by decide +kernel
theorem dX8_go_170 : decode cX8_go 170 = .ok (.laload, 1) := by decide +kernel
theorem dX8_go_171 : decode cX8_go 171 = .ok (.lconst 1, 1) := by decide +kernel
theorem dX8_go_172 : decode cX8_go 172 = .ok (.ladd, 1) := by decide +kernel
theorem dX8_go_173 : decode cX8_go 173 = .ok (.lastore, 1) := by decide +kernel
theorem dX8_go_174 : decode cX8_go 174 = .ok (.aload_n 0, 1) := by decide +kernel
theorem dX8_go_175 : decode cX8_go 175 = .ok (.getfield 58, 3) := by decide +kernel
theorem dX8_go_178 : decode cX8_go 178 = .ok (.iconst 4, 1) := by decide +kernel
theorem dX8_go_179 : decode cX8_go 179 = .ok (.iload 6, 2) := by decide +kernel
theorem dX8_go_181 : decode cX8_go 181 = .ok (.imul, 1) := by decide +kernel
theorem dX8_go_182 : decode cX8_go 182 = .ok (.iconst 2, 1) := by decide +kernel
theorem dX8_go_183 : decode cX8_go 183 = .ok (.iadd, 1) := by decide +kernel
theorem dX8_go_184 : decode cX8_go 184 = .ok (.iaload, 1) := by decide +kernel
theorem dX8_go_185 : decode cX8_go 185 = .ok (.istore 6, 2) := by decide +kernel
theorem dX8_go_187 : decode cX8_go 187 = .ok (.goto 55, 3) := by decide +kernel
theorem dX8_go_190 : decode cX8_go 190 = .ok (.aload_n 0, 1) := by decide +kernel
theorem dX8_go_191 : decode cX8_go 191 = .ok (.getfield 32, 3) := by decide +kernel
theorem dX8_go_194 : decode cX8_go 194 = .ok (.iload 10, 2) := by decide +kernel
theorem dX8_go_196 : decode cX8_go 196 = .ok (.laload, 1) := by decide +kernel
theorem dX8_go_197 : decode cX8_go 197 = .ok (.lconst 0, 1) := by decide +kernel
theorem dX8_go_198 : decode cX8_go 198 = .ok (.lcmp, 1) := by decide +kernel
theorem dX8_go_199 : decode cX8_go 199 = .ok (.ifCond .le 30, 3) := by decide +kernel
theorem dX8_go_202 : decode cX8_go 202 = .ok (.aload_n 0, 1) := by decide +kernel
theorem dX8_go_203 : decode cX8_go 203 = .ok (.getfield 32, 3) := by decide +kernel
theorem dX8_go_206 : decode cX8_go 206 = .ok (.iload 10, 2) := by decide +kernel
theorem dX8_go_208 : decode cX8_go 208 = .ok (.dup2, 1) := by decide +kernel
theorem dX8_go_209 : decode cX8_go 209 = .ok (.laload, 1) := by decide +kernel
theorem dX8_go_210 : decode cX8_go 210 = .ok (.lconst 1, 1) := by decide +kernel
theorem dX8_go_211 : decode cX8_go 211 = .ok (.lsub, 1) := by decide +kernel
theorem dX8_go_212 : decode cX8_go 212 = .ok (.lastore, 1) := by decide +kernel
theorem dX8_go_213 : decode cX8_go 213 = .ok (.aload_n 0, 1) := by decide +kernel
theorem dX8_go_214 : decode cX8_go 214 = .ok (.getfield 58, 3) := by decide +kernel
theorem dX8_go_217 : decode cX8_go 217 = .ok (.iconst 4, 1) := by decide +kernel
theorem dX8_go_218 : decode cX8_go 218 = .ok (.iload 6, 2) := by decide +kernel
theorem dX8_go_220 : decode cX8_go 220 = .ok (.imul, 1) := by decide +kernel
theorem dX8_go_221 : decode cX8_go 221 = .ok (.iconst 2, 1) := by decide +kernel
theorem dX8_go_222 : decode cX8_go 222 = .ok (.iadd, 1) := by decide +kernel
theorem dX8_go_223 : decode cX8_go 223 = .ok (.iaload, 1) := by decide +kernel
theorem dX8_go_224 : decode cX8_go 224 = .ok (.istore 6, 2) := by decide +kernel
theorem dX8_go_226 : decode cX8_go 226 = .ok (.goto 16, 3) := by decide +kernel
theorem dX8_go_229 : decode cX8_go 229 = .ok (.aload_n 0, 1) := by decide +kernel
theorem dX8_go_230 : decode cX8_go 230 = .ok (.getfield 58, 3) := by decide +kernel
theorem dX8_go_233 : decode cX8_go 233 = .ok (.iconst 4, 1) := by decide +kernel
theorem dX8_go_234 : decode cX8_go 234 = .ok (.iload 6, 2) := by decide +kernel
theorem dX8_go_236 : decode cX8_go 236 = .ok (.imul, 1) := by decide +kernel
theorem dX8_go_237 : decode cX8_go 237 = .ok (.iconst 3, 1) := by decide +kernel
theorem dX8_go_238 : decode cX8_go 238 = .ok (.iadd, 1) := by decide +kernel
theorem dX8_go_239 : decode cX8_go 239 = .ok (.iaload, 1) := by decide +kernel
theorem dX8_go_240 : decode cX8_go 240 = .ok (.istore 6, 2) := by decide +kernel
theorem dX8_go_242 : decode cX8_go 242 = .ok (.goto (-161), 3) := by decide +kernel
theorem dX8_go_245 : decode cX8_go 245 = .ok (.aload_n 0, 1) := by decide +kernel
theorem dX8_go_246 : decode cX8_go 246 = .ok (.getfield 32, 3) := by decide +kernel
theorem dX8_go_249 : decode cX8_go 249 = .ok (.iconst 4, 1) := by decide +kernel
theorem dX8_go_250 : decode cX8_go 250 = .ok (.iload 7, 2) := by decide +kernel
theorem dX8_go_252 : decode cX8_go 252 = .ok (.i2l, 1) := by decide +kernel
theorem dX8_go_253 : decode cX8_go 253 = .ok (.lastore, 1) := by decide +kernel
theorem dX8_go_254 : decode cX8_go 254 = .ok (.aload_n 0, 1) := by decide +kernel
theorem dX8_go_255 : decode cX8_go 255 = .ok (.iconst 5, 1) := by decide +kernel
theorem dX8_go_256 : decode cX8_go 256 = .ok (.invokevirtual 164, 3) := by decide +kernel
theorem dX8_go_259 : decode cX8_go 259 = .ok (.iload 8, 2) := by decide +kernel
theorem dX8_go_261 : decode cX8_go 261 = .ok (.ireturn, 1) := by decide +kernel
theorem dX8_isPrime_0 : decode cX8_isPrime 0 = .ok (.iconst 2, 1) := by decide +kernel
theorem dX8_isPrime_1 : decode cX8_isPrime 1 = .ok (.istore_n 1, 1) := by decide +kernel
theorem dX8_isPrime_2 : decode cX8_isPrime 2 = .ok (.iload_n 1, 1) := by decide +kernel
theorem dX8_isPrime_3 : decode cX8_isPrime 3 = .ok (.iload_n 1, 1) := by decide +kernel
theorem dX8_isPrime_4 : decode cX8_isPrime 4 = .ok (.imul, 1) := by decide +kernel
theorem dX8_isPrime_5 : decode cX8_isPrime 5 = .ok (.iload_n 0, 1) := by decide +kernel
theorem dX8_isPrime_6 : decode cX8_isPrime 6 = .ok (.if_icmp .gt 17, 3) := by decide +kernel
theorem dX8_isPrime_9 : decode cX8_isPrime 9 = .ok (.iload_n 0, 1) := by decide +kernel
theorem dX8_isPrime_10 : decode cX8_isPrime 10 = .ok (.iload_n 1, 1) := by decide +kernel
theorem dX8_isPrime_11 : decode cX8_isPrime 11 = .ok (.irem, 1) := by decide +kernel
theorem dX8_isPrime_12 : decode cX8_isPrime 12 = .ok (.ifCond .ne 5, 3) := by decide +kernel
theorem dX8_isPrime_15 : decode cX8_isPrime 15 = .ok (.iconst 0, 1) := by decide +kernel
theorem dX8_isPrime_16 : decode cX8_isPrime 16 = .ok (.ireturn, 1) := by decide +kernel
theorem dX8_isPrime_17 : decode cX8_isPrime 17 = .ok (.iinc 1 1, 3) := by decide +kernel
theorem dX8_isPrime_20 : decode cX8_isPrime 20 = .ok (.goto (-18), 3) := by decide +kernel
theorem dX8_isPrime_23 : decode cX8_isPrime 23 = .ok (.iconst 1, 1) := by decide +kernel
theorem dX8_isPrime_24 : decode cX8_isPrime 24 = .ok (.ireturn, 1) := by decide +kernel
set_option maxRecDepth 20000 in
theorem ggX8_prime_X8_isPrime : GoodIn wsX8_prime wsX8_isPrime := goodIn_ca (goodIn_r _ [4] (by decide +kernel) (by decide +kernel)) (goodIn_sub (fun _ h => List.mem_cons_of_mem _ (List.mem_append_right _ h)) (by decide +kernel))
set_option maxRecDepth 20000 in
theorem gX8_prime_X8_isPrime : GoodIn wsX8_prime (va_wsS RX8 253 yX8_isPrime wsX8_isPrime) := goodIn_app (goodIn_of _ (by decide +kernel)) ggX8_prime_X8_isPrime
theorem dX8_prime_0 : decode cX8_prime 0 = .ok (.iload_n 0, 1) := by decide +kernel
theorem dX8_prime_1 : decode cX8_prime 1 = .ok (.istore_n 1, 1) := by decide +kernel
theorem dX8_prime_2 : decode cX8_prime 2 = .ok (.bipush 11, 2) := by decide +kernel
theorem dX8_prime_4 : decode cX8_prime 4 = .ok (.istore_n 2, 1) := by decide +kernel
theorem dX8_prime_5 : decode cX8_prime 5 = .ok (.iload_n 1, 1) := by decide +kernel
theorem dX8_prime_6 : decode cX8_prime 6 = .ok (.ifCond .gt 10, 3) := by decide +kernel
theorem dX8_prime_9 : decode cX8_prime 9 = .ok (.iload_n 2, 1) := by decide +kernel
theorem dX8_prime_10 : decode cX8_prime 10 = .ok (.invokestatic 253, 3) := by decide +kernel
theorem dX8_prime_13 : decode cX8_prime 13 = .ok (.ifCond .ne 24, 3) := by decide +kernel
theorem dX8_prime_16 : decode cX8_prime 16 = .ok (.iload_n 1, 1) := by decide +kernel
theorem dX8_prime_17 : decode cX8_prime 17 = .ok (.iload_n 2, 1) := by decide +kernel
theorem dX8_prime_18 : decode cX8_prime 18 = .ok (.invokestatic 253, 3) := by decide +kernel
theorem dX8_prime_21 : decode cX8_prime 21 = .ok (.ifCond .eq 7, 3) := by decide +kernel
theorem dX8_prime_24 : decode cX8_prime 24 = .ok (.iconst 1, 1) := by decide +kernel
theorem dX8_prime_25 : decode cX8_prime 25 = .ok (.goto 4, 3) := by decide +kernel
theorem dX8_prime_28 : decode cX8_prime 28 = .ok (.iconst 0, 1) := by decide +kernel
theorem dX8_prime_29 : decode cX8_prime 29 = .ok (.isub, 1) := by decide +kernel
theorem dX8_prime_30 : decode cX8_prime 30 = .ok (.istore_n 1, 1) := by decide +kernel
theorem dX8_prime_31 : decode cX8_prime 31 = .ok (.iinc 2 1, 3) := by decide +kernel
theorem dX8_prime_34 : decode cX8_prime 34 = .ok (.goto (-29), 3) := by decide +kernel
theorem dX8_prime_37 : decode cX8_prime 37 = .ok (.iload_n 2, 1) := by decide +kernel
theorem dX8_prime_38 : decode cX8_prime 38 = .ok (.ireturn, 1) := by decide +kernel
theorem dX8_heapPrime_0 : decode cX8_heapPrime 0 = .ok (.iload_n 0, 1) := by decide +kernel
theorem dX8_heapPrime_1 : decode cX8_heapPrime 1 = .ok (.ifCond .ne 7, 3) := by decide +kernel
theorem dX8_heapPrime_4 : decode cX8_heapPrime 4 = .ok (.iconst 2, 1) := by decide +kernel
theorem dX8_heapPrime_5 : decode cX8_heapPrime 5 = .ok (.goto 23, 3) := by decide +kernel
theorem dX8_heapPrime_8 : decode cX8_heapPrime 8 = .ok (.iload_n 0, 1) := by decide +kernel
theorem dX8_heapPrime_9 : decode cX8_heapPrime 9 = .ok (.iconst 1, 1) := by decide +kernel
theorem dX8_heapPrime_10 : decode cX8_heapPrime 10 = .ok (.if_icmp .ne 7, 3) := by decide +kernel
theorem dX8_heapPrime_13 : decode cX8_heapPrime 13 = .ok (.iconst 3, 1) := by decide +kernel
theorem dX8_heapPrime_14 : decode cX8_heapPrime 14 = .ok (.goto 14, 3) := by decide +kernel
theorem dX8_heapPrime_17 : decode cX8_heapPrime 17 = .ok (.iload_n 0, 1) := by decide +kernel
theorem dX8_heapPrime_18 : decode cX8_heapPrime 18 = .ok (.iconst 2, 1) := by decide +kernel
theorem dX8_heapPrime_19 : decode cX8_heapPrime 19 = .ok (.if_icmp .ne 7, 3) := by decide +kernel
theorem dX8_heapPrime_22 : decode cX8_heapPrime 22 = .ok (.iconst 5, 1) := by decide +kernel
theorem dX8_heapPrime_23 : decode cX8_heapPrime 23 = .ok (.goto 5, 3) := by decide +kernel
theorem dX8_heapPrime_26 : decode cX8_heapPrime 26 = .ok (.bipush 7, 2) := by decide +kernel
theorem dX8_heapPrime_28 : decode cX8_heapPrime 28 = .ok (.ireturn, 1) := by decide +kernel
set_option maxRecDepth 20000 in
theorem ggX8_goPrime_X8_prime : GoodIn wsX8_goPrime wsX8_prime := goodIn_ca (goodIn_r _ [4, 5, 6, 3, 7] (by decide +kernel) (by decide +kernel)) (goodIn_sub (fun _ h => List.mem_cons_of_mem _ (List.mem_append_right _ h)) (by decide +kernel))
set_option maxRecDepth 20000 in
theorem gX8_goPrime_X8_prime : GoodIn wsX8_goPrime (va_wsS RX8 257 yX8_prime wsX8_prime) := goodIn_app (goodIn_of _ (by decide +kernel)) ggX8_goPrime_X8_prime
theorem dX8_goPrime_0 : decode cX8_goPrime 0 = .ok (.iconst 2, 1) := by decide +kernel
theorem dX8_goPrime_1 : decode cX8_goPrime 1 = .ok (.iload_n 0, 1) := by decide +kernel
theorem dX8_goPrime_2 : decode cX8_goPrime 2 = .ok (.imul, 1) := by decide +kernel
theorem dX8_goPrime_3 : decode cX8_goPrime 3 = .ok (.invokestatic 257, 3) := by decide +kernel
theorem dX8_goPrime_6 : decode cX8_goPrime 6 = .ok (.ireturn, 1) := by decide +kernel
set_option maxRecDepth 20000 in
theorem ggX8_waitPrime_X8_prime : GoodIn wsX8_waitPrime wsX8_prime := goodIn_ca (goodIn_r _ [4, 5, 6, 3, 7] (by decide +kernel) (by decide +kernel)) (goodIn_sub (fun _ h => List.mem_cons_of_mem _ (List.mem_append_right _ h)) (by decide +kernel))
set_option maxRecDepth 20000 in
theorem gX8_waitPrime_X8_prime : GoodIn wsX8_waitPrime (va_wsS RX8 257 yX8_prime wsX8_prime) := goodIn_app (goodIn_of _ (by decide +kernel)) ggX8_waitPrime_X8_prime
theorem dX8_waitPrime_0 : decode cX8_waitPrime 0 = .ok (.iconst 2, 1) := by decide +kernel
theorem dX8_waitPrime_1 : decode cX8_waitPrime 1 = .ok (.iload_n 0, 1) := by decide +kernel
theorem dX8_waitPrime_2 : decode cX8_waitPrime 2 = .ok (.imul, 1) := by decide +kernel
theorem dX8_waitPrime_3 : decode cX8_waitPrime 3 = .ok (.iconst 1, 1) := by decide +kernel
theorem dX8_waitPrime_4 : decode cX8_waitPrime 4 = .ok (.iadd, 1) := by decide +kernel
theorem dX8_waitPrime_5 : decode cX8_waitPrime 5 = .ok (.invokestatic 257, 3) := by decide +kernel
theorem dX8_waitPrime_8 : decode cX8_waitPrime 8 = .ok (.ireturn, 1) := by decide +kernel
set_option maxRecDepth 20000 in
theorem ggX8_made_X8_heapPrime : GoodIn wsX8_made wsX8_heapPrime := goodIn_r _ [9] (by decide +kernel) (by decide +kernel)
set_option maxRecDepth 20000 in
theorem gX8_made_X8_heapPrime : GoodIn wsX8_made (va_wsS RX8 260 yX8_heapPrime wsX8_heapPrime) := goodIn_app (goodIn_of _ (by decide +kernel)) ggX8_made_X8_heapPrime
set_option maxRecDepth 20000 in
theorem ggX8_made_X8_waitPrime : GoodIn wsX8_made wsX8_waitPrime := goodIn_ca (goodIn_r _ [12, 13, 14, 8, 15, 16, 17, 18] (by decide +kernel) (by decide +kernel)) (goodIn_sub (fun _ h => List.mem_cons_of_mem _ (List.mem_append_right _ h)) (by decide +kernel))
set_option maxRecDepth 20000 in
theorem gX8_made_X8_waitPrime : GoodIn wsX8_made (va_wsS RX8 263 yX8_waitPrime wsX8_waitPrime) := goodIn_app (goodIn_of _ (by decide +kernel)) ggX8_made_X8_waitPrime
set_option maxRecDepth 20000 in
theorem ggX8_made_X8_goPrime : GoodIn wsX8_made wsX8_goPrime := goodIn_ca (goodIn_r _ [21, 13, 14, 8, 15, 16, 17, 18] (by decide +kernel) (by decide +kernel)) (goodIn_sub (fun _ h => List.mem_cons_of_mem _ (List.mem_append_right _ h)) (by decide +kernel))
set_option maxRecDepth 20000 in
theorem gX8_made_X8_goPrime : GoodIn wsX8_made (va_wsS RX8 266 yX8_goPrime wsX8_goPrime) := goodIn_app (goodIn_of _ (by decide +kernel)) ggX8_made_X8_goPrime
set_option maxRecDepth 20000 in
theorem ggX8_made_X8_add : GoodIn wsX8_made wsX8_add := goodIn_ca (goodIn_r _ [25, 26, 5, 27, 28, 29, 8, 30, 31, 32, 33, 34, 35, 36, 37, 38, 39, 40, 41, 42, 43, 44, 45, 46, 47, 48, 49, 50, 51, 52, 53, 54, 55, 56, 57, 58, 59, 60, 61, 62, 63] (by decide +kernel) (by decide +kernel)) (goodIn_sub (fun _ h => List.mem_cons_of_mem _ (List.mem_append_right _ h)) (by decide +kernel))
set_option maxRecDepth 20000 in
theorem gX8_made_X8_add : GoodIn wsX8_made (wsV RX8 120 RX8 yX8_add wsX8_add) := goodIn_app (goodIn_of _ (by decide +kernel)) ggX8_made_X8_add
theorem dX8_made_0 : decode cX8_made 0 = .ok (.aload_n 0, 1) := by decide +kernel
theorem dX8_made_1 : decode cX8_made 1 = .ok (.iconst 0, 1) := by decide +kernel
theorem dX8_made_2 : decode cX8_made 2 = .ok (.putfield 61, 3) := by decide +kernel
theorem dX8_made_5 : decode cX8_made 5 = .ok (.iconst 0, 1) := by decide +kernel
theorem dX8_made_6 : decode cX8_made 6 = .ok (.istore_n 1, 1) := by decide +kernel
theorem dX8_made_7 : decode cX8_made 7 = .ok (.iconst 0, 1) := by decide +kernel
theorem dX8_made_8 : decode cX8_made 8 = .ok (.istore_n 2, 1) := by decide +kernel
theorem dX8_made_9 : decode cX8_made 9 = .ok (.iload_n 2, 1) := by decide +kernel
theorem dX8_made_10 : decode cX8_made 10 = .ok (.aload_n 0, 1) := by decide +kernel
theorem dX8_made_11 : decode cX8_made 11 = .ok (.getfield 130, 3) := by decide +kernel
theorem dX8_made_14 : decode cX8_made 14 = .ok (.if_icmp .ge 29, 3) := by decide +kernel
theorem dX8_made_17 : decode cX8_made 17 = .ok (.iload_n 1, 1) := by decide +kernel
theorem dX8_made_18 : decode cX8_made 18 = .ok (.aload_n 0, 1) := by decide +kernel
theorem dX8_made_19 : decode cX8_made 19 = .ok (.getfield 58, 3) := by decide +kernel
theorem dX8_made_22 : decode cX8_made 22 = .ok (.iconst 4, 1) := by decide +kernel
theorem dX8_made_23 : decode cX8_made 23 = .ok (.iload_n 2, 1) := by decide +kernel
theorem dX8_made_24 : decode cX8_made 24 = .ok (.imul, 1) := by decide +kernel
theorem dX8_made_25 : decode cX8_made 25 = .ok (.iaload, 1) := by decide +kernel
theorem dX8_made_26 : decode cX8_made 26 = .ok (.iconst 1, 1) := by decide +kernel
theorem dX8_made_27 : decode cX8_made 27 = .ok (.if_icmp .ne 7, 3) := by decide +kernel
theorem dX8_made_30 : decode cX8_made 30 = .ok (.iconst 3, 1) := by decide +kernel
theorem dX8_made_31 : decode cX8_made 31 = .ok (.goto 4, 3) := by decide +kernel
theorem dX8_made_34 : decode cX8_made 34 = .ok (.iconst 2, 1) := by decide +kernel
theorem dX8_made_35 : decode cX8_made 35 = .ok (.iadd, 1) := by decide +kernel
theorem dX8_made_36 : decode cX8_made 36 = .ok (.istore_n 1, 1) := by decide +kernel
theorem dX8_made_37 : decode cX8_made 37 = .ok (.iinc 2 1, 3) := by decide +kernel
theorem dX8_made_40 : decode cX8_made 40 = .ok (.goto (-31), 3) := by decide +kernel
theorem dX8_made_43 : decode cX8_made 43 = .ok (.aload_n 0, 1) := by decide +kernel
theorem dX8_made_44 : decode cX8_made 44 = .ok (.getfield 130, 3) := by decide +kernel
theorem dX8_made_47 : decode cX8_made 47 = .ok (.ifCond .eq 9, 3) := by decide +kernel
theorem dX8_made_50 : decode cX8_made 50 = .ok (.iload_n 1, 1) := by decide +kernel
theorem dX8_made_51 : decode cX8_made 51 = .ok (.bipush 40, 2) := by decide +kernel
theorem dX8_made_53 : decode cX8_made 53 = .ok (.if_icmp .le 5, 3) := by decide +kernel
theorem dX8_made_56 : decode cX8_made 56 = .ok (.iconst (-1), 1) := by decide +kernel
theorem dX8_made_57 : decode cX8_made 57 = .ok (.ireturn, 1) := by decide +kernel
theorem dX8_made_58 : decode cX8_made 58 = .ok (.aload_n 0, 1) := by decide +kernel
theorem dX8_made_59 : decode cX8_made 59 = .ok (.iconst 2, 1) := by decide +kernel
theorem dX8_made_60 : decode cX8_made 60 = .ok (.putfield 108, 3) := by decide +kernel
theorem dX8_made_63 : decode cX8_made 63 = .ok (.aload_n 0, 1) := by decide +kernel
theorem dX8_made_64 : decode cX8_made 64 = .ok (.iconst 0, 1) := by decide +kernel
theorem dX8_made_65 : decode cX8_made 65 = .ok (.putfield 111, 3) := by decide +kernel
theorem dX8_made_68 : decode cX8_made 68 = .ok (.iconst 0, 1) := by decide +kernel
theorem dX8_made_69 : decode cX8_made 69 = .ok (.istore_n 2, 1) := by decide +kernel
theorem dX8_made_70 : decode cX8_made 70 = .ok (.iload_n 2, 1) := by decide +kernel
theorem dX8_made_71 : decode cX8_made 71 = .ok (.aload_n 0, 1) := by decide +kernel
theorem dX8_made_72 : decode cX8_made 72 = .ok (.getfield 130, 3) := by decide +kernel
theorem dX8_made_75 : decode cX8_made 75 = .ok (.if_icmp .ge 137, 3) := by decide +kernel
theorem dX8_made_78 : decode cX8_made 78 = .ok (.aload_n 0, 1) := by decide +kernel
theorem dX8_made_79 : decode cX8_made 79 = .ok (.getfield 58, 3) := by decide +kernel
theorem dX8_made_82 : decode cX8_made 82 = .ok (.iconst 4, 1) := by decide +kernel
theorem dX8_made_83 : decode cX8_made 83 = .ok (.iload_n 2, 1) := by decide +kernel
theorem dX8_made_84 : decode cX8_made 84 = .ok (.imul, 1) := by decide +kernel
theorem dX8_made_85 : decode cX8_made 85 = .ok (.iconst 1, 1) := by decide +kernel
theorem dX8_made_86 : decode cX8_made 86 = .ok (.iadd, 1) := by decide +kernel
theorem dX8_made_87 : decode cX8_made 87 = .ok (.iaload, 1) := by decide +kernel
theorem dX8_made_88 : decode cX8_made 88 = .ok (.invokestatic 260, 3) := by decide +kernel
theorem dX8_made_91 : decode cX8_made 91 = .ok (.istore_n 3, 1) := by decide +kernel
theorem dX8_made_92 : decode cX8_made 92 = .ok (.aload_n 0, 1) := by decide +kernel
theorem dX8_made_93 : decode cX8_made 93 = .ok (.getfield 58, 3) := by decide +kernel
theorem dX8_made_96 : decode cX8_made 96 = .ok (.iconst 4, 1) := by decide +kernel
theorem dX8_made_97 : decode cX8_made 97 = .ok (.iload_n 2, 1) := by decide +kernel
theorem dX8_made_98 : decode cX8_made 98 = .ok (.imul, 1) := by decide +kernel
theorem dX8_made_99 : decode cX8_made 99 = .ok (.iaload, 1) := by decide +kernel
theorem dX8_made_100 : decode cX8_made 100 = .ok (.ifCond .ne 32, 3) := by decide +kernel
theorem dX8_made_103 : decode cX8_made 103 = .ok (.aload_n 0, 1) := by decide +kernel
theorem dX8_made_104 : decode cX8_made 104 = .ok (.aload_n 0, 1) := by decide +kernel
theorem dX8_made_105 : decode cX8_made 105 = .ok (.getfield 58, 3) := by decide +kernel
theorem dX8_made_108 : decode cX8_made 108 = .ok (.iconst 4, 1) := by decide +kernel
theorem dX8_made_109 : decode cX8_made 109 = .ok (.iload_n 2, 1) := by decide +kernel
theorem dX8_made_110 : decode cX8_made 110 = .ok (.imul, 1) := by decide +kernel
theorem dX8_made_111 : decode cX8_made 111 = .ok (.iconst 2, 1) := by decide +kernel
theorem dX8_made_112 : decode cX8_made 112 = .ok (.iadd, 1) := by decide +kernel
theorem dX8_made_113 : decode cX8_made 113 = .ok (.iaload, 1) := by decide +kernel
theorem dX8_made_114 : decode cX8_made 114 = .ok (.invokestatic 263, 3) := by decide +kernel
theorem dX8_made_117 : decode cX8_made 117 = .ok (.i2l, 1) := by decide +kernel
theorem dX8_made_118 : decode cX8_made 118 = .ok (.iload_n 3, 1) := by decide +kernel
theorem dX8_made_119 : decode cX8_made 119 = .ok (.i2l, 1) := by decide +kernel
theorem dX8_made_120 : decode cX8_made 120 = .ok (.lmul, 1) := by decide +kernel
theorem dX8_made_121 : decode cX8_made 121 = .ok (.iload_n 2, 1) := by decide +kernel
theorem dX8_made_122 : decode cX8_made 122 = .ok (.invokestatic 266, 3) := by decide +kernel
theorem dX8_made_125 : decode cX8_made 125 = .ok (.i2l, 1) := by decide +kernel
theorem dX8_made_126 : decode cX8_made 126 = .ok (.invokevirtual 120, 3) := by decide +kernel
theorem dX8_made_129 : decode cX8_made 129 = .ok (.goto 77, 3) := by decide +kernel
theorem dX8_made_132 : decode cX8_made 132 = .ok (.aload_n 0, 1) := by decide +kernel
theorem dX8_made_133 : decode cX8_made 133 = .ok (.getfield 58, 3) := by decide +kernel
theorem dX8_made_136 : decode cX8_made 136 = .ok (.iconst 4, 1) := by decide +kernel
theorem dX8_made_137 : decode cX8_made 137 = .ok (.iload_n 2, 1) := by decide +kernel
theorem dX8_made_138 : decode cX8_made 138 = .ok (.imul, 1) := by decide +kernel
theorem dX8_made_139 : decode cX8_made 139 = .ok (.iaload, 1) := by decide +kernel
theorem dX8_made_140 : decode cX8_made 140 = .ok (.iconst 1, 1) := by decide +kernel
theorem dX8_made_141 : decode cX8_made 141 = .ok (.if_icmp .ne 55, 3) := by decide +kernel
theorem dX8_made_144 : decode cX8_made 144 = .ok (.aload_n 0, 1) := by decide +kernel
theorem dX8_made_145 : decode cX8_made 145 = .ok (.aload_n 0, 1) := by decide +kernel
theorem dX8_made_146 : decode cX8_made 146 = .ok (.getfield 58, 3) := by decide +kernel
theorem dX8_made_149 : decode cX8_made 149 = .ok (.iconst 4, 1) := by decide +kernel
theorem dX8_made_150 : decode cX8_made 150 = .ok (.iload_n 2, 1) := by decide +kernel
theorem dX8_made_151 : decode cX8_made 151 = .ok (.imul, 1) := by decide +kernel
theorem dX8_made_152 : decode cX8_made 152 = .ok (.iconst 2, 1) := by decide +kernel
theorem dX8_made_153 : decode cX8_made 153 = .ok (.iadd, 1) := by decide +kernel
theorem dX8_made_154 : decode cX8_made 154 = .ok (.iaload, 1) := by decide +kernel
theorem dX8_made_155 : decode cX8_made 155 = .ok (.invokestatic 263, 3) := by decide +kernel
theorem dX8_made_158 : decode cX8_made 158 = .ok (.i2l, 1) := by decide +kernel
theorem dX8_made_159 : decode cX8_made 159 = .ok (.iload_n 2, 1) := by decide +kernel
theorem dX8_made_160 : decode cX8_made 160 = .ok (.invokestatic 266, 3) := by decide +kernel
theorem dX8_made_163 : decode cX8_made 163 = .ok (.i2l, 1) := by decide +kernel
theorem dX8_made_164 : decode cX8_made 164 = .ok (.iload_n 3, 1) := by decide +kernel
theorem dX8_made_165 : decode cX8_made 165 = .ok (.i2l, 1) := by decide +kernel
theorem dX8_made_166 : decode cX8_made 166 = .ok (.lmul, 1) := by decide +kernel
theorem dX8_made_167 : decode cX8_made 167 = .ok (.invokevirtual 120, 3) := by decide +kernel
theorem dX8_made_170 : decode cX8_made 170 = .ok (.aload_n 0, 1) := by decide +kernel
theorem dX8_made_171 : decode cX8_made 171 = .ok (.aload_n 0, 1) := by decide +kernel
theorem dX8_made_172 : decode cX8_made 172 = .ok (.getfield 58, 3) := by decide +kernel
theorem dX8_made_175 : decode cX8_made 175 = .ok (.iconst 4, 1) := by decide +kernel
theorem dX8_made_176 : decode cX8_made 176 = .ok (.iload_n 2, 1) := by decide +kernel
theorem dX8_made_177 : decode cX8_made 177 = .ok (.imul, 1) := by decide +kernel
theorem dX8_made_178 : decode cX8_made 178 = .ok (.iconst 3, 1) := by decide +kernel
theorem dX8_made_179 : decode cX8_made 179 = .ok (.iadd, 1) := by decide +kernel
theorem dX8_made_180 : decode cX8_made 180 = .ok (.iaload, 1) := by decide +kernel
theorem dX8_made_181 : decode cX8_made 181 = .ok (.invokestatic 263, 3) := by decide +kernel
theorem dX8_made_184 : decode cX8_made 184 = .ok (.i2l, 1) := by decide +kernel
theorem dX8_made_185 : decode cX8_made 185 = .ok (.iload_n 2, 1) := by decide +kernel
theorem dX8_made_186 : decode cX8_made 186 = .ok (.invokestatic 266, 3) := by decide +kernel
theorem dX8_made_189 : decode cX8_made 189 = .ok (.i2l, 1) := by decide +kernel
theorem dX8_made_190 : decode cX8_made 190 = .ok (.invokevirtual 120, 3) := by decide +kernel
theorem dX8_made_193 : decode cX8_made 193 = .ok (.goto 13, 3) := by decide +kernel
theorem dX8_made_196 : decode cX8_made 196 = .ok (.aload_n 0, 1) := by decide +kernel
theorem dX8_made_197 : decode cX8_made 197 = .ok (.lconst 1, 1) := by decide +kernel
theorem dX8_made_198 : decode cX8_made 198 = .ok (.iload_n 2, 1) := by decide +kernel
theorem dX8_made_199 : decode cX8_made 199 = .ok (.invokestatic 266, 3) := by decide +kernel
theorem dX8_made_202 : decode cX8_made 202 = .ok (.i2l, 1) := by decide +kernel
theorem dX8_made_203 : decode cX8_made 203 = .ok (.invokevirtual 120, 3) := by decide +kernel
theorem dX8_made_206 : decode cX8_made 206 = .ok (.iinc 2 1, 3) := by decide +kernel
theorem dX8_made_209 : decode cX8_made 209 = .ok (.goto (-139), 3) := by decide +kernel
theorem dX8_made_212 : decode cX8_made 212 = .ok (.iconst 0, 1) := by decide +kernel
theorem dX8_made_213 : decode cX8_made 213 = .ok (.istore_n 2, 1) := by decide +kernel
theorem dX8_made_214 : decode cX8_made 214 = .ok (.iload_n 2, 1) := by decide +kernel
theorem dX8_made_215 : decode cX8_made 215 = .ok (.aload_n 0, 1) := by decide +kernel
theorem dX8_made_216 : decode cX8_made 216 = .ok (.getfield 130, 3) := by decide +kernel
theorem dX8_made_219 : decode cX8_made 219 = .ok (.if_icmp .ge 23, 3) := by decide +kernel
theorem dX8_made_222 : decode cX8_made 222 = .ok (.aload_n 0, 1) := by decide +kernel
theorem dX8_made_223 : decode cX8_made 223 = .ok (.iload_n 2, 1) := by decide +kernel
theorem dX8_made_224 : decode cX8_made 224 = .ok (.invokestatic 266, 3) := by decide +kernel
theorem dX8_made_227 : decode cX8_made 227 = .ok (.i2l, 1) := by decide +kernel
theorem dX8_made_228 : decode cX8_made 228 = .ok (.iload_n 2, 1) := by decide +kernel
theorem dX8_made_229 : decode cX8_made 229 = .ok (.invokestatic 263, 3) := by decide +kernel
theorem dX8_made_232 : decode cX8_made 232 = .ok (.i2l, 1) := by decide +kernel
theorem dX8_made_233 : decode cX8_made 233 = .ok (.invokevirtual 120, 3) := by decide +kernel
theorem dX8_made_236 : decode cX8_made 236 = .ok (.iinc 2 1, 3) := by decide +kernel
theorem dX8_made_239 : decode cX8_made 239 = .ok (.goto (-25), 3) := by decide +kernel
theorem dX8_made_242 : decode cX8_made 242 = .ok (.aload_n 0, 1) := by decide +kernel
theorem dX8_made_243 : decode cX8_made 243 = .ok (.getfield 111, 3) := by decide +kernel
theorem dX8_made_246 : decode cX8_made 246 = .ok (.ireturn, 1) := by decide +kernel
set_option maxRecDepth 20000 in
theorem ggX8_begins_X8_areHeaps : GoodIn wsX8_begins wsX8_areHeaps := goodIn_r _ [7, 8, 9, 10, 6, 11] (by decide +kernel) (by decide +kernel)
set_option maxRecDepth 20000 in
theorem gX8_begins_X8_areHeaps : GoodIn wsX8_begins (va_wsS RX8 249 yX8_areHeaps wsX8_areHeaps) := goodIn_app (goodIn_of _ (by decide +kernel)) ggX8_begins_X8_areHeaps
set_option maxRecDepth 20000 in
theorem ggX8_begins_X8_refuse : GoodIn wsX8_begins wsX8_refuse := goodIn_r _ [15, 1, 28, 29, 30, 31, 32, 33, 34, 35, 36, 37, 38, 39, 40, 41, 42, 43, 44, 45, 46, 47, 48, 49, 50, 51, 52, 53, 54, 55, 56, 57, 58, 59, 60] (by decide +kernel) (by decide +kernel)
set_option maxRecDepth 20000 in
theorem gX8_begins_X8_refuse : GoodIn wsX8_begins (wsV RX8 98 RX8 yX8_refuse wsX8_refuse) := goodIn_app (goodIn_of _ (by decide +kernel)) ggX8_begins_X8_refuse
set_option maxRecDepth 20000 in
theorem ggX8_begins_X8_goPrime : GoodIn wsX8_begins wsX8_goPrime := goodIn_ca (goodIn_r _ [18, 19, 20, 6, 21, 22, 23, 24] (by decide +kernel) (by decide +kernel)) (goodIn_sub (fun _ h => List.mem_cons_of_mem _ (List.mem_append_right _ h)) (by decide +kernel))
set_option maxRecDepth 20000 in
theorem gX8_begins_X8_goPrime : GoodIn wsX8_begins (va_wsS RX8 266 yX8_goPrime wsX8_goPrime) := goodIn_app (goodIn_of _ (by decide +kernel)) ggX8_begins_X8_goPrime
set_option maxRecDepth 20000 in
theorem ggX8_begins_X8_heapPrime : GoodIn wsX8_begins wsX8_heapPrime := goodIn_r _ [27] (by decide +kernel) (by decide +kernel)
set_option maxRecDepth 20000 in
theorem gX8_begins_X8_heapPrime : GoodIn wsX8_begins (va_wsS RX8 260 yX8_heapPrime wsX8_heapPrime) := goodIn_app (goodIn_of _ (by decide +kernel)) ggX8_begins_X8_heapPrime
theorem dX8_begins_0 : decode cX8_begins 0 = .ok (.aload_n 0, 1) := by decide +kernel
theorem dX8_begins_1 : decode cX8_begins 1 = .ok (.iconst 0, 1) := by decide +kernel
theorem dX8_begins_2 : decode cX8_begins 2 = .ok (.putfield 61, 3) := by decide +kernel
theorem dX8_begins_5 : decode cX8_begins 5 = .ok (.iload_n 1, 1) := by decide +kernel
theorem dX8_begins_6 : decode cX8_begins 6 = .ok (.iload_n 2, 1) := by decide +kernel
theorem dX8_begins_7 : decode cX8_begins 7 = .ok (.iload_n 3, 1) := by decide +kernel
theorem dX8_begins_8 : decode cX8_begins 8 = .ok (.iload 4, 2) := by decide +kernel
theorem dX8_begins_10 : decode cX8_begins 10 = .ok (.invokestatic 249, 3) := by decide +kernel
theorem dX8_begins_13 : decode cX8_begins 13 = .ok (.ifCond .ne 9, 3) := by decide +kernel
theorem dX8_begins_16 : decode cX8_begins 16 = .ok (.aload_n 0, 1) := by decide +kernel
theorem dX8_begins_17 : decode cX8_begins 17 = .ok (.iconst 1, 1) := by decide +kernel
theorem dX8_begins_18 : decode cX8_begins 18 = .ok (.invokevirtual 98, 3) := by decide +kernel
theorem dX8_begins_21 : decode cX8_begins 21 = .ok (.lreturn, 1) := by decide +kernel
theorem dX8_begins_22 : decode cX8_begins 22 = .ok (.iconst 0, 1) := by decide +kernel
theorem dX8_begins_23 : decode cX8_begins 23 = .ok (.invokestatic 266, 3) := by decide +kernel
theorem dX8_begins_26 : decode cX8_begins 26 = .ok (.i2l, 1) := by decide +kernel
theorem dX8_begins_27 : decode cX8_begins 27 = .ok (.lstore 5, 2) := by decide +kernel
theorem dX8_begins_29 : decode cX8_begins 29 = .ok (.iconst 4, 1) := by decide +kernel
theorem dX8_begins_30 : decode cX8_begins 30 = .ok (.newarray .int, 2) := by decide +kernel
theorem dX8_begins_32 : decode cX8_begins 32 = .ok (.dup, 1) := by decide +kernel
theorem dX8_begins_33 : decode cX8_begins 33 = .ok (.iconst 0, 1) := by decide +kernel
theorem dX8_begins_34 : decode cX8_begins 34 = .ok (.iload_n 1, 1) := by decide +kernel
theorem dX8_begins_35 : decode cX8_begins 35 = .ok (.iastore, 1) := by decide +kernel
theorem dX8_begins_36 : decode cX8_begins 36 = .ok (.dup, 1) := by decide +kernel
theorem dX8_begins_37 : decode cX8_begins 37 = .ok (.iconst 1, 1) := by decide +kernel
theorem dX8_begins_38 : decode cX8_begins 38 = .ok (.iload_n 2, 1) := by decide +kernel
theorem dX8_begins_39 : decode cX8_begins 39 = .ok (.iastore, 1) := by decide +kernel
theorem dX8_begins_40 : decode cX8_begins 40 = .ok (.dup, 1) := by decide +kernel
theorem dX8_begins_41 : decode cX8_begins 41 = .ok (.iconst 2, 1) := by decide +kernel
theorem dX8_begins_42 : decode cX8_begins 42 = .ok (.iload_n 3, 1) := by decide +kernel
theorem dX8_begins_43 : decode cX8_begins 43 = .ok (.iastore, 1) := by decide +kernel
theorem dX8_begins_44 : decode cX8_begins 44 = .ok (.dup, 1) := by decide +kernel
theorem dX8_begins_45 : decode cX8_begins 45 = .ok (.iconst 3, 1) := by decide +kernel
theorem dX8_begins_46 : decode cX8_begins 46 = .ok (.iload 4, 2) := by decide +kernel
theorem dX8_begins_48 : decode cX8_begins 48 = .ok (.iastore, 1) := by decide +kernel
theorem dX8_begins_49 : decode cX8_begins 49 = .ok (.astore 7, 2) := by decide +kernel
theorem dX8_begins_51 : decode cX8_begins 51 = .ok (.iconst 0, 1) := by decide +kernel
theorem dX8_begins_52 : decode cX8_begins 52 = .ok (.istore 8, 2) := by decide +kernel
theorem dX8_begins_54 : decode cX8_begins 54 = .ok (.iload 8, 2) := by decide +kernel
theorem dX8_begins_56 : decode cX8_begins 56 = .ok (.iconst 4, 1) := by decide +kernel
theorem dX8_begins_57 : decode cX8_begins 57 = .ok (.if_icmp .ge 54, 3) := by decide +kernel
theorem dX8_begins_60 : decode cX8_begins 60 = .ok (.iconst 0, 1) := by decide +kernel
theorem dX8_begins_61 : decode cX8_begins 61 = .ok (.istore 9, 2) := by decide +kernel
theorem dX8_begins_63 : decode cX8_begins 63 = .ok (.iload 9, 2) := by decide +kernel
theorem dX8_begins_65 : decode cX8_begins 65 = .ok (.aload 7, 2) := by decide +kernel
theorem dX8_begins_67 : decode cX8_begins 67 = .ok (.iload 8, 2) := by decide +kernel
theorem dX8_begins_69 : decode cX8_begins 69 = .ok (.iaload, 1) := by decide +kernel
theorem dX8_begins_70 : decode cX8_begins 70 = .ok (.if_icmp .ge 35, 3) := by decide +kernel
theorem dX8_begins_73 : decode cX8_begins 73 = .ok (.lload 5, 2) := by decide +kernel
theorem dX8_begins_75 : decode cX8_begins 75 = .ok (.iload 8, 2) := by decide +kernel
theorem dX8_begins_77 : decode cX8_begins 77 = .ok (.invokestatic 260, 3) := by decide +kernel
theorem dX8_begins_80 : decode cX8_begins 80 = .ok (.i2l, 1) := by decide +kernel
theorem dX8_begins_81 : decode cX8_begins 81 = .ok (.lmul, 1) := by decide +kernel
theorem dX8_begins_82 : decode cX8_begins 82 = .ok (.lstore 5, 2) := by decide +kernel
theorem dX8_begins_84 : decode cX8_begins 84 = .ok (.lload 5, 2) := by decide +kernel
theorem dX8_begins_86 : decode cX8_begins 86 = .ok (.ldc2_w 66, 3) := by decide +kernel
theorem dX8_begins_89 : decode cX8_begins 89 = .ok (.lcmp, 1) := by decide +kernel
theorem dX8_begins_90 : decode cX8_begins 90 = .ok (.ifCond .le 9, 3) := by decide +kernel
theorem dX8_begins_93 : decode cX8_begins 93 = .ok (.aload_n 0, 1) := by decide +kernel
theorem dX8_begins_94 : decode cX8_begins 94 = .ok (.iconst 2, 1) := by decide +kernel
theorem dX8_begins_95 : decode cX8_begins 95 = .ok (.invokevirtual 98, 3) := by decide +kernel
theorem dX8_begins_98 : decode cX8_begins 98 = .ok (.lreturn, 1) := by decide +kernel
theorem dX8_begins_99 : decode cX8_begins 99 = .ok (.iinc 9 1, 3) := by decide +kernel
theorem dX8_begins_102 : decode cX8_begins 102 = .ok (.goto (-39), 3) := by decide +kernel
theorem dX8_begins_105 : decode cX8_begins 105 = .ok (.iinc 8 1, 3) := by decide +kernel
theorem dX8_begins_108 : decode cX8_begins 108 = .ok (.goto (-54), 3) := by decide +kernel
theorem dX8_begins_111 : decode cX8_begins 111 = .ok (.lload 5, 2) := by decide +kernel
theorem dX8_begins_113 : decode cX8_begins 113 = .ok (.lreturn, 1) := by decide +kernel
set_option maxRecDepth 20000 in
theorem ggX8_weight_X8_weightOf : GoodIn wsX8_weight wsX8_weightOf := goodIn_r _ [5, 1, 6, 7, 8] (by decide +kernel) (by decide +kernel)
set_option maxRecDepth 20000 in
theorem gX8_weight_X8_weightOf : GoodIn wsX8_weight (va_wsS RX8 269 yX8_weightOf wsX8_weightOf) := goodIn_app (goodIn_of _ (by decide +kernel)) ggX8_weight_X8_weightOf
theorem dX8_weight_0 : decode cX8_weight 0 = .ok (.lconst 0, 1) := by decide +kernel
theorem dX8_weight_1 : decode cX8_weight 1 = .ok (.lstore_n 3, 1) := by decide +kernel
theorem dX8_weight_2 : decode cX8_weight 2 = .ok (.lload_n 0, 1) := by decide +kernel
theorem dX8_weight_3 : decode cX8_weight 3 = .ok (.lstore 5, 2) := by decide +kernel
theorem dX8_weight_5 : decode cX8_weight 5 = .ok (.ldc2_w 72, 3) := by decide +kernel
theorem dX8_weight_8 : decode cX8_weight 8 = .ok (.lstore 7, 2) := by decide +kernel
theorem dX8_weight_10 : decode cX8_weight 10 = .ok (.lload 7, 2) := by decide +kernel
theorem dX8_weight_12 : decode cX8_weight 12 = .ok (.lload 7, 2) := by decide +kernel
theorem dX8_weight_14 : decode cX8_weight 14 = .ok (.lmul, 1) := by decide +kernel
theorem dX8_weight_15 : decode cX8_weight 15 = .ok (.lload 5, 2) := by decide +kernel
theorem dX8_weight_17 : decode cX8_weight 17 = .ok (.lcmp, 1) := by decide +kernel
theorem dX8_weight_18 : decode cX8_weight 18 = .ok (.ifCond .gt 41, 3) := by decide +kernel
theorem dX8_weight_21 : decode cX8_weight 21 = .ok (.lload 5, 2) := by decide +kernel
theorem dX8_weight_23 : decode cX8_weight 23 = .ok (.lload 7, 2) := by decide +kernel
theorem dX8_weight_25 : decode cX8_weight 25 = .ok (.lrem, 1) := by decide +kernel
theorem dX8_weight_26 : decode cX8_weight 26 = .ok (.lconst 0, 1) := by decide +kernel
theorem dX8_weight_27 : decode cX8_weight 27 = .ok (.lcmp, 1) := by decide +kernel
theorem dX8_weight_28 : decode cX8_weight 28 = .ok (.ifCond .ne 22, 3) := by decide +kernel
theorem dX8_weight_31 : decode cX8_weight 31 = .ok (.lload 5, 2) := by decide +kernel
theorem dX8_weight_33 : decode cX8_weight 33 = .ok (.lload 7, 2) := by decide +kernel
theorem dX8_weight_35 : decode cX8_weight 35 = .ok (.ldiv, 1) := by decide +kernel
theorem dX8_weight_36 : decode cX8_weight 36 = .ok (.lstore 5, 2) := by decide +kernel
theorem dX8_weight_38 : decode cX8_weight 38 = .ok (.lload_n 3, 1) := by decide +kernel
theorem dX8_weight_39 : decode cX8_weight 39 = .ok (.lload 7, 2) := by decide +kernel
theorem dX8_weight_41 : decode cX8_weight 41 = .ok (.aload_n 2, 1) := by decide +kernel
theorem dX8_weight_42 : decode cX8_weight 42 = .ok (.invokestatic 269, 3) := by decide +kernel
theorem dX8_weight_45 : decode cX8_weight 45 = .ok (.ladd, 1) := by decide +kernel
theorem dX8_weight_46 : decode cX8_weight 46 = .ok (.lstore_n 3, 1) := by decide +kernel
theorem dX8_weight_47 : decode cX8_weight 47 = .ok (.goto (-26), 3) := by decide +kernel
theorem dX8_weight_50 : decode cX8_weight 50 = .ok (.lload 7, 2) := by decide +kernel
theorem dX8_weight_52 : decode cX8_weight 52 = .ok (.lconst 1, 1) := by decide +kernel
theorem dX8_weight_53 : decode cX8_weight 53 = .ok (.ladd, 1) := by decide +kernel
theorem dX8_weight_54 : decode cX8_weight 54 = .ok (.lstore 7, 2) := by decide +kernel
theorem dX8_weight_56 : decode cX8_weight 56 = .ok (.goto (-46), 3) := by decide +kernel
theorem dX8_weight_59 : decode cX8_weight 59 = .ok (.lload 5, 2) := by decide +kernel
theorem dX8_weight_61 : decode cX8_weight 61 = .ok (.lconst 1, 1) := by decide +kernel
theorem dX8_weight_62 : decode cX8_weight 62 = .ok (.lcmp, 1) := by decide +kernel
theorem dX8_weight_63 : decode cX8_weight 63 = .ok (.ifCond .le 14, 3) := by decide +kernel
theorem dX8_weight_66 : decode cX8_weight 66 = .ok (.lload_n 3, 1) := by decide +kernel
theorem dX8_weight_67 : decode cX8_weight 67 = .ok (.lload 5, 2) := by decide +kernel
theorem dX8_weight_69 : decode cX8_weight 69 = .ok (.aload_n 2, 1) := by decide +kernel
theorem dX8_weight_70 : decode cX8_weight 70 = .ok (.invokestatic 269, 3) := by decide +kernel
theorem dX8_weight_73 : decode cX8_weight 73 = .ok (.ladd, 1) := by decide +kernel
theorem dX8_weight_74 : decode cX8_weight 74 = .ok (.goto 4, 3) := by decide +kernel
theorem dX8_weight_77 : decode cX8_weight 77 = .ok (.lload_n 3, 1) := by decide +kernel
theorem dX8_weight_78 : decode cX8_weight 78 = .ok (.lreturn, 1) := by decide +kernel
theorem dX8_weightOf_0 : decode cX8_weightOf 0 = .ok (.lload_n 0, 1) := by decide +kernel
theorem dX8_weightOf_1 : decode cX8_weightOf 1 = .ok (.ldc2_w 72, 3) := by decide +kernel
theorem dX8_weightOf_4 : decode cX8_weightOf 4 = .ok (.lcmp, 1) := by decide +kernel
theorem dX8_weightOf_5 : decode cX8_weightOf 5 = .ok (.ifCond .ne 10, 3) := by decide +kernel
theorem dX8_weightOf_8 : decode cX8_weightOf 8 = .ok (.aload_n 2, 1) := by decide +kernel
theorem dX8_weightOf_9 : decode cX8_weightOf 9 = .ok (.iconst 0, 1) := by decide +kernel
theorem dX8_weightOf_10 : decode cX8_weightOf 10 = .ok (.iaload, 1) := by decide +kernel
theorem dX8_weightOf_11 : decode cX8_weightOf 11 = .ok (.i2l, 1) := by decide +kernel
theorem dX8_weightOf_12 : decode cX8_weightOf 12 = .ok (.goto 52, 3) := by decide +kernel
theorem dX8_weightOf_15 : decode cX8_weightOf 15 = .ok (.lload_n 0, 1) := by decide +kernel
theorem dX8_weightOf_16 : decode cX8_weightOf 16 = .ok (.ldc2_w 83, 3) := by decide +kernel
theorem dX8_weightOf_19 : decode cX8_weightOf 19 = .ok (.lcmp, 1) := by decide +kernel
theorem dX8_weightOf_20 : decode cX8_weightOf 20 = .ok (.ifCond .ne 10, 3) := by decide +kernel
theorem dX8_weightOf_23 : decode cX8_weightOf 23 = .ok (.aload_n 2, 1) := by decide +kernel
theorem dX8_weightOf_24 : decode cX8_weightOf 24 = .ok (.iconst 1, 1) := by decide +kernel
theorem dX8_weightOf_25 : decode cX8_weightOf 25 = .ok (.iaload, 1) := by decide +kernel
theorem dX8_weightOf_26 : decode cX8_weightOf 26 = .ok (.i2l, 1) := by decide +kernel
theorem dX8_weightOf_27 : decode cX8_weightOf 27 = .ok (.goto 37, 3) := by decide +kernel
theorem dX8_weightOf_30 : decode cX8_weightOf 30 = .ok (.lload_n 0, 1) := by decide +kernel
theorem dX8_weightOf_31 : decode cX8_weightOf 31 = .ok (.ldc2_w 273, 3) := by decide +kernel
theorem dX8_weightOf_34 : decode cX8_weightOf 34 = .ok (.lcmp, 1) := by decide +kernel
theorem dX8_weightOf_35 : decode cX8_weightOf 35 = .ok (.ifCond .ne 10, 3) := by decide +kernel
theorem dX8_weightOf_38 : decode cX8_weightOf 38 = .ok (.aload_n 2, 1) := by decide +kernel
theorem dX8_weightOf_39 : decode cX8_weightOf 39 = .ok (.iconst 2, 1) := by decide +kernel
theorem dX8_weightOf_40 : decode cX8_weightOf 40 = .ok (.iaload, 1) := by decide +kernel
theorem dX8_weightOf_41 : decode cX8_weightOf 41 = .ok (.i2l, 1) := by decide +kernel
theorem dX8_weightOf_42 : decode cX8_weightOf 42 = .ok (.goto 22, 3) := by decide +kernel
theorem dX8_weightOf_45 : decode cX8_weightOf 45 = .ok (.lload_n 0, 1) := by decide +kernel
theorem dX8_weightOf_46 : decode cX8_weightOf 46 = .ok (.ldc2_w 275, 3) := by decide +kernel
theorem dX8_weightOf_49 : decode cX8_weightOf 49 = .ok (.lcmp, 1) := by decide +kernel
theorem dX8_weightOf_50 : decode cX8_weightOf 50 = .ok (.ifCond .ne 10, 3) := by decide +kernel
theorem dX8_weightOf_53 : decode cX8_weightOf 53 = .ok (.aload_n 2, 1) := by decide +kernel
theorem dX8_weightOf_54 : decode cX8_weightOf 54 = .ok (.iconst 3, 1) := by decide +kernel
theorem dX8_weightOf_55 : decode cX8_weightOf 55 = .ok (.iaload, 1) := by decide +kernel
theorem dX8_weightOf_56 : decode cX8_weightOf 56 = .ok (.i2l, 1) := by decide +kernel
theorem dX8_weightOf_57 : decode cX8_weightOf 57 = .ok (.goto 7, 3) := by decide +kernel
theorem dX8_weightOf_60 : decode cX8_weightOf 60 = .ok (.aload_n 2, 1) := by decide +kernel
theorem dX8_weightOf_61 : decode cX8_weightOf 61 = .ok (.iconst 4, 1) := by decide +kernel
theorem dX8_weightOf_62 : decode cX8_weightOf 62 = .ok (.iaload, 1) := by decide +kernel
theorem dX8_weightOf_63 : decode cX8_weightOf 63 = .ok (.i2l, 1) := by decide +kernel
theorem dX8_weightOf_64 : decode cX8_weightOf 64 = .ok (.lreturn, 1) := by decide +kernel
set_option maxRecDepth 20000 in
theorem ggX8_law_X8_weight : GoodIn wsX8_law wsX8_weight := goodIn_ca (goodIn_r _ [10, 11, 12, 13, 9, 14, 15, 16, 17] (by decide +kernel) (by decide +kernel)) (goodIn_sub (fun _ h => List.mem_cons_of_mem _ (List.mem_append_right _ h)) (by decide +kernel))
set_option maxRecDepth 20000 in
theorem gX8_law_X8_weight : GoodIn wsX8_law (va_wsS RX8 277 yX8_weight wsX8_weight) := goodIn_app (goodIn_of _ (by decide +kernel)) ggX8_law_X8_weight
theorem dX8_law_0 : decode cX8_law 0 = .ok (.aload_n 0, 1) := by decide +kernel
theorem dX8_law_1 : decode cX8_law 1 = .ok (.iconst 0, 1) := by decide +kernel
theorem dX8_law_2 : decode cX8_law 2 = .ok (.putfield 61, 3) := by decide +kernel
theorem dX8_law_5 : decode cX8_law 5 = .ok (.aload_n 0, 1) := by decide +kernel
theorem dX8_law_6 : decode cX8_law 6 = .ok (.getfield 108, 3) := by decide +kernel
theorem dX8_law_9 : decode cX8_law 9 = .ok (.iconst 2, 1) := by decide +kernel
theorem dX8_law_10 : decode cX8_law 10 = .ok (.if_icmp .eq 6, 3) := by decide +kernel
theorem dX8_law_13 : decode cX8_law 13 = .ok (.bipush (-2), 2) := by decide +kernel
theorem dX8_law_15 : decode cX8_law 15 = .ok (.ireturn, 1) := by decide +kernel
theorem dX8_law_16 : decode cX8_law 16 = .ok (.iconst 5, 1) := by decide +kernel
theorem dX8_law_17 : decode cX8_law 17 = .ok (.newarray .int, 2) := by decide +kernel
theorem dX8_law_19 : decode cX8_law 19 = .ok (.dup, 1) := by decide +kernel
theorem dX8_law_20 : decode cX8_law 20 = .ok (.iconst 0, 1) := by decide +kernel
theorem dX8_law_21 : decode cX8_law 21 = .ok (.iload_n 1, 1) := by decide +kernel
theorem dX8_law_22 : decode cX8_law 22 = .ok (.iastore, 1) := by decide +kernel
theorem dX8_law_23 : decode cX8_law 23 = .ok (.dup, 1) := by decide +kernel
theorem dX8_law_24 : decode cX8_law 24 = .ok (.iconst 1, 1) := by decide +kernel
theorem dX8_law_25 : decode cX8_law 25 = .ok (.iload_n 2, 1) := by decide +kernel
theorem dX8_law_26 : decode cX8_law 26 = .ok (.iastore, 1) := by decide +kernel
theorem dX8_law_27 : decode cX8_law 27 = .ok (.dup, 1) := by decide +kernel
theorem dX8_law_28 : decode cX8_law 28 = .ok (.iconst 2, 1) := by decide +kernel
theorem dX8_law_29 : decode cX8_law 29 = .ok (.iload_n 3, 1) := by decide +kernel
theorem dX8_law_30 : decode cX8_law 30 = .ok (.iastore, 1) := by decide +kernel
theorem dX8_law_31 : decode cX8_law 31 = .ok (.dup, 1) := by decide +kernel
theorem dX8_law_32 : decode cX8_law 32 = .ok (.iconst 3, 1) := by decide +kernel
theorem dX8_law_33 : decode cX8_law 33 = .ok (.iload 4, 2) := by decide +kernel
theorem dX8_law_35 : decode cX8_law 35 = .ok (.iastore, 1) := by decide +kernel
theorem dX8_law_36 : decode cX8_law 36 = .ok (.dup, 1) := by decide +kernel
theorem dX8_law_37 : decode cX8_law 37 = .ok (.iconst 4, 1) := by decide +kernel
theorem dX8_law_38 : decode cX8_law 38 = .ok (.iload 5, 2) := by decide +kernel
theorem dX8_law_40 : decode cX8_law 40 = .ok (.iastore, 1) := by decide +kernel
theorem dX8_law_41 : decode cX8_law 41 = .ok (.astore 6, 2) := by decide +kernel
theorem dX8_law_43 : decode cX8_law 43 = .ok (.iconst 0, 1) := by decide +kernel
theorem dX8_law_44 : decode cX8_law 44 = .ok (.istore 7, 2) := by decide +kernel
theorem dX8_law_46 : decode cX8_law 46 = .ok (.iload 7, 2) := by decide +kernel
theorem dX8_law_48 : decode cX8_law 48 = .ok (.aload_n 0, 1) := by decide +kernel
theorem dX8_law_49 : decode cX8_law 49 = .ok (.getfield 111, 3) := by decide +kernel
theorem dX8_law_52 : decode cX8_law 52 = .ok (.if_icmp .ge 96, 3) := by decide +kernel
theorem dX8_law_55 : decode cX8_law 55 = .ok (.iconst 1, 1) := by decide +kernel
theorem dX8_law_56 : decode cX8_law 56 = .ok (.istore 8, 2) := by decide +kernel
theorem dX8_law_58 : decode cX8_law 58 = .ok (.iconst 0, 1) := by decide +kernel
theorem dX8_law_59 : decode cX8_law 59 = .ok (.istore 9, 2) := by decide +kernel
theorem dX8_law_61 : decode cX8_law 61 = .ok (.iload 9, 2) := by decide +kernel
theorem dX8_law_63 : decode cX8_law 63 = .ok (.iload 7, 2) := by decide +kernel
theorem dX8_law_65 : decode cX8_law 65 = .ok (.if_icmp .ge 41, 3) := by decide +kernel
theorem dX8_law_68 : decode cX8_law 68 = .ok (.iload 8, 2) := by decide +kernel
theorem dX8_law_70 : decode cX8_law 70 = .ok (.ifCond .eq 27, 3) := by decide +kernel
theorem dX8_law_73 : decode cX8_law 73 = .ok (.aload_n 0, 1) := by decide +kernel
theorem dX8_law_74 : decode cX8_law 74 = .ok (.getfield 26, 3) := by decide +kernel
theorem dX8_law_77 : decode cX8_law 77 = .ok (.iload 7, 2) := by decide +kernel
theorem dX8_law_79 : decode cX8_law 79 = .ok (.laload, 1) := by decide +kernel
theorem dX8_law_80 : decode cX8_law 80 = .ok (.aload_n 0, 1) := by decide +kernel
theorem dX8_law_81 : decode cX8_law 81 = .ok (.getfield 26, 3) := by decide +kernel
theorem dX8_law_84 : decode cX8_law 84 = .ok (.iload 9, 2) := by decide +kernel
theorem dX8_law_86 : decode cX8_law 86 = .ok (.laload, 1) := by decide +kernel
theorem dX8_law_87 : decode cX8_law 87 = .ok (.lrem, 1) := by decide +kernel
theorem dX8_law_88 : decode cX8_law 88 = .ok (.lconst 0, 1) := by decide +kernel
theorem dX8_law_89 : decode cX8_law 89 = .ok (.lcmp, 1) := by decide +kernel
theorem dX8_law_90 : decode cX8_law 90 = .ok (.ifCond .eq 7, 3) := by decide +kernel
theorem dX8_law_93 : decode cX8_law 93 = .ok (.iconst 1, 1) := by decide +kernel
theorem dX8_law_94 : decode cX8_law 94 = .ok (.goto 4, 3) := by decide +kernel
theorem dX8_law_97 : decode cX8_law 97 = .ok (.iconst 0, 1) := by decide +kernel
theorem dX8_law_98 : decode cX8_law 98 = .ok (.istore 8, 2) := by decide +kernel
theorem dX8_law_100 : decode cX8_law 100 = .ok (.iinc 9 1, 3) := by decide +kernel
theorem dX8_law_103 : decode cX8_law 103 = .ok (.goto (-42), 3) := by decide +kernel
theorem dX8_law_106 : decode cX8_law 106 = .ok (.iload 8, 2) := by decide +kernel
theorem dX8_law_108 : decode cX8_law 108 = .ok (.ifCond .eq 34, 3) := by decide +kernel
theorem dX8_law_111 : decode cX8_law 111 = .ok (.aload_n 0, 1) := by decide +kernel
theorem dX8_law_112 : decode cX8_law 112 = .ok (.getfield 23, 3) := by decide +kernel
theorem dX8_law_115 : decode cX8_law 115 = .ok (.iload 7, 2) := by decide +kernel
theorem dX8_law_117 : decode cX8_law 117 = .ok (.laload, 1) := by decide +kernel
theorem dX8_law_118 : decode cX8_law 118 = .ok (.aload 6, 2) := by decide +kernel
theorem dX8_law_120 : decode cX8_law 120 = .ok (.invokestatic 277, 3) := by decide +kernel
theorem dX8_law_123 : decode cX8_law 123 = .ok (.aload_n 0, 1) := by decide +kernel
theorem dX8_law_124 : decode cX8_law 124 = .ok (.getfield 26, 3) := by decide +kernel
theorem dX8_law_127 : decode cX8_law 127 = .ok (.iload 7, 2) := by decide +kernel
theorem dX8_law_129 : decode cX8_law 129 = .ok (.laload, 1) := by decide +kernel
theorem dX8_law_130 : decode cX8_law 130 = .ok (.aload 6, 2) := by decide +kernel
theorem dX8_law_132 : decode cX8_law 132 = .ok (.invokestatic 277, 3) := by decide +kernel
theorem dX8_law_135 : decode cX8_law 135 = .ok (.lcmp, 1) := by decide +kernel
theorem dX8_law_136 : decode cX8_law 136 = .ok (.ifCond .eq 6, 3) := by decide +kernel
theorem dX8_law_139 : decode cX8_law 139 = .ok (.iload 7, 2) := by decide +kernel
theorem dX8_law_141 : decode cX8_law 141 = .ok (.ireturn, 1) := by decide +kernel
theorem dX8_law_142 : decode cX8_law 142 = .ok (.iinc 7 1, 3) := by decide +kernel
theorem dX8_law_145 : decode cX8_law 145 = .ok (.goto (-99), 3) := by decide +kernel
theorem dX8_law_148 : decode cX8_law 148 = .ok (.iconst (-1), 1) := by decide +kernel
theorem dX8_law_149 : decode cX8_law 149 = .ok (.ireturn, 1) := by decide +kernel
theorem dJ9_floorMod_f86c9_0 : decode cJ9_floorMod_f86c9 0 = .ok (.lload_n 0, 1) := by decide +kernel
theorem dJ9_floorMod_f86c9_1 : decode cJ9_floorMod_f86c9 1 = .ok (.lload_n 2, 1) := by decide +kernel
theorem dJ9_floorMod_f86c9_2 : decode cJ9_floorMod_f86c9 2 = .ok (.lrem, 1) := by decide +kernel
theorem dJ9_floorMod_f86c9_3 : decode cJ9_floorMod_f86c9 3 = .ok (.lstore 4, 2) := by decide +kernel
theorem dJ9_floorMod_f86c9_5 : decode cJ9_floorMod_f86c9 5 = .ok (.lload_n 0, 1) := by decide +kernel
theorem dJ9_floorMod_f86c9_6 : decode cJ9_floorMod_f86c9 6 = .ok (.lload_n 2, 1) := by decide +kernel
theorem dJ9_floorMod_f86c9_7 : decode cJ9_floorMod_f86c9 7 = .ok (.lxor, 1) := by decide +kernel
theorem dJ9_floorMod_f86c9_8 : decode cJ9_floorMod_f86c9 8 = .ok (.lconst 0, 1) := by decide +kernel
theorem dJ9_floorMod_f86c9_9 : decode cJ9_floorMod_f86c9 9 = .ok (.lcmp, 1) := by decide +kernel
theorem dJ9_floorMod_f86c9_10 : decode cJ9_floorMod_f86c9 10 = .ok (.ifCond .ge 15, 3) := by decide +kernel
theorem dJ9_floorMod_f86c9_13 : decode cJ9_floorMod_f86c9 13 = .ok (.lload 4, 2) := by decide +kernel
theorem dJ9_floorMod_f86c9_15 : decode cJ9_floorMod_f86c9 15 = .ok (.lconst 0, 1) := by decide +kernel
theorem dJ9_floorMod_f86c9_16 : decode cJ9_floorMod_f86c9 16 = .ok (.lcmp, 1) := by decide +kernel
theorem dJ9_floorMod_f86c9_17 : decode cJ9_floorMod_f86c9 17 = .ok (.ifCond .eq 8, 3) := by decide +kernel
theorem dJ9_floorMod_f86c9_20 : decode cJ9_floorMod_f86c9 20 = .ok (.lload 4, 2) := by decide +kernel
theorem dJ9_floorMod_f86c9_22 : decode cJ9_floorMod_f86c9 22 = .ok (.lload_n 2, 1) := by decide +kernel
theorem dJ9_floorMod_f86c9_23 : decode cJ9_floorMod_f86c9 23 = .ok (.ladd, 1) := by decide +kernel
theorem dJ9_floorMod_f86c9_24 : decode cJ9_floorMod_f86c9 24 = .ok (.lreturn, 1) := by decide +kernel
theorem dJ9_floorMod_f86c9_25 : decode cJ9_floorMod_f86c9 25 = .ok (.lload 4, 2) := by decide +kernel
theorem dJ9_floorMod_f86c9_27 : decode cJ9_floorMod_f86c9 27 = .ok (.lreturn, 1) := by decide +kernel
theorem dJ9_abs_067f4_0 : decode cJ9_abs_067f4 0 = .ok (.lload_n 0, 1) := by decide +kernel
theorem dJ9_abs_067f4_1 : decode cJ9_abs_067f4 1 = .ok (.lconst 0, 1) := by decide +kernel
theorem dJ9_abs_067f4_2 : decode cJ9_abs_067f4 2 = .ok (.lcmp, 1) := by decide +kernel
theorem dJ9_abs_067f4_3 : decode cJ9_abs_067f4 3 = .ok (.ifCond .ge 8, 3) := by decide +kernel
theorem dJ9_abs_067f4_6 : decode cJ9_abs_067f4 6 = .ok (.lload_n 0, 1) := by decide +kernel
theorem dJ9_abs_067f4_7 : decode cJ9_abs_067f4 7 = .ok (.lneg, 1) := by decide +kernel
theorem dJ9_abs_067f4_8 : decode cJ9_abs_067f4 8 = .ok (.goto 4, 3) := by decide +kernel
theorem dJ9_abs_067f4_11 : decode cJ9_abs_067f4 11 = .ok (.lload_n 0, 1) := by decide +kernel
theorem dJ9_abs_067f4_12 : decode cJ9_abs_067f4 12 = .ok (.lreturn, 1) := by decide +kernel
theorem dJ9_max_7cf53_0 : decode cJ9_max_7cf53 0 = .ok (.iload_n 0, 1) := by decide +kernel
theorem dJ9_max_7cf53_1 : decode cJ9_max_7cf53 1 = .ok (.iload_n 1, 1) := by decide +kernel
theorem dJ9_max_7cf53_2 : decode cJ9_max_7cf53 2 = .ok (.if_icmp .lt 7, 3) := by decide +kernel
theorem dJ9_max_7cf53_5 : decode cJ9_max_7cf53 5 = .ok (.iload_n 0, 1) := by decide +kernel
theorem dJ9_max_7cf53_6 : decode cJ9_max_7cf53 6 = .ok (.goto 4, 3) := by decide +kernel
theorem dJ9_max_7cf53_9 : decode cJ9_max_7cf53 9 = .ok (.iload_n 1, 1) := by decide +kernel
theorem dJ9_max_7cf53_10 : decode cJ9_max_7cf53 10 = .ok (.ireturn, 1) := by decide +kernel
theorem dJ9_max_f86c9_0 : decode cJ9_max_f86c9 0 = .ok (.lload_n 0, 1) := by decide +kernel
theorem dJ9_max_f86c9_1 : decode cJ9_max_f86c9 1 = .ok (.lload_n 2, 1) := by decide +kernel
theorem dJ9_max_f86c9_2 : decode cJ9_max_f86c9 2 = .ok (.lcmp, 1) := by decide +kernel
theorem dJ9_max_f86c9_3 : decode cJ9_max_f86c9 3 = .ok (.ifCond .lt 7, 3) := by decide +kernel
theorem dJ9_max_f86c9_6 : decode cJ9_max_f86c9 6 = .ok (.lload_n 0, 1) := by decide +kernel
theorem dJ9_max_f86c9_7 : decode cJ9_max_f86c9 7 = .ok (.goto 4, 3) := by decide +kernel
theorem dJ9_max_f86c9_10 : decode cJ9_max_f86c9 10 = .ok (.lload_n 2, 1) := by decide +kernel
theorem dJ9_max_f86c9_11 : decode cJ9_max_f86c9 11 = .ok (.lreturn, 1) := by decide +kernel
theorem dJ9_min_7cf53_0 : decode cJ9_min_7cf53 0 = .ok (.iload_n 0, 1) := by decide +kernel
theorem dJ9_min_7cf53_1 : decode cJ9_min_7cf53 1 = .ok (.iload_n 1, 1) := by decide +kernel
theorem dJ9_min_7cf53_2 : decode cJ9_min_7cf53 2 = .ok (.if_icmp .gt 7, 3) := by decide +kernel
theorem dJ9_min_7cf53_5 : decode cJ9_min_7cf53 5 = .ok (.iload_n 0, 1) := by decide +kernel
theorem dJ9_min_7cf53_6 : decode cJ9_min_7cf53 6 = .ok (.goto 4, 3) := by decide +kernel
theorem dJ9_min_7cf53_9 : decode cJ9_min_7cf53 9 = .ok (.iload_n 1, 1) := by decide +kernel
theorem dJ9_min_7cf53_10 : decode cJ9_min_7cf53 10 = .ok (.ireturn, 1) := by decide +kernel
theorem dJ9_min_f86c9_0 : decode cJ9_min_f86c9 0 = .ok (.lload_n 0, 1) := by decide +kernel
theorem dJ9_min_f86c9_1 : decode cJ9_min_f86c9 1 = .ok (.lload_n 2, 1) := by decide +kernel
theorem dJ9_min_f86c9_2 : decode cJ9_min_f86c9 2 = .ok (.lcmp, 1) := by decide +kernel
theorem dJ9_min_f86c9_3 : decode cJ9_min_f86c9 3 = .ok (.ifCond .gt 7, 3) := by decide +kernel
theorem dJ9_min_f86c9_6 : decode cJ9_min_f86c9 6 = .ok (.lload_n 0, 1) := by decide +kernel
theorem dJ9_min_f86c9_7 : decode cJ9_min_f86c9 7 = .ok (.goto 4, 3) := by decide +kernel
theorem dJ9_min_f86c9_10 : decode cJ9_min_f86c9 10 = .ok (.lload_n 2, 1) := by decide +kernel
theorem dJ9_min_f86c9_11 : decode cJ9_min_f86c9 11 = .ok (.lreturn, 1) := by decide +kernel
theorem dJ7_fill_d0a16_0 : decode cJ7_fill_d0a16 0 = .ok (.iconst 0, 1) := by decide +kernel
theorem dJ7_fill_d0a16_1 : decode cJ7_fill_d0a16 1 = .ok (.istore_n 3, 1) := by decide +kernel
theorem dJ7_fill_d0a16_2 : decode cJ7_fill_d0a16 2 = .ok (.aload_n 0, 1) := by decide +kernel
theorem dJ7_fill_d0a16_3 : decode cJ7_fill_d0a16 3 = .ok (.arraylength, 1) := by decide +kernel
theorem dJ7_fill_d0a16_4 : decode cJ7_fill_d0a16 4 = .ok (.istore 4, 2) := by decide +kernel
theorem dJ7_fill_d0a16_6 : decode cJ7_fill_d0a16 6 = .ok (.iload_n 3, 1) := by decide +kernel
theorem dJ7_fill_d0a16_7 : decode cJ7_fill_d0a16 7 = .ok (.iload 4, 2) := by decide +kernel
theorem dJ7_fill_d0a16_9 : decode cJ7_fill_d0a16 9 = .ok (.if_icmp .ge 13, 3) := by decide +kernel
theorem dJ7_fill_d0a16_12 : decode cJ7_fill_d0a16 12 = .ok (.aload_n 0, 1) := by decide +kernel
theorem dJ7_fill_d0a16_13 : decode cJ7_fill_d0a16 13 = .ok (.iload_n 3, 1) := by decide +kernel
theorem dJ7_fill_d0a16_14 : decode cJ7_fill_d0a16 14 = .ok (.lload_n 1, 1) := by decide +kernel
theorem dJ7_fill_d0a16_15 : decode cJ7_fill_d0a16 15 = .ok (.lastore, 1) := by decide +kernel
theorem dJ7_fill_d0a16_16 : decode cJ7_fill_d0a16 16 = .ok (.iinc 3 1, 3) := by decide +kernel
theorem dJ7_fill_d0a16_19 : decode cJ7_fill_d0a16 19 = .ok (.goto (-13), 3) := by decide +kernel
theorem dJ7_fill_d0a16_22 : decode cJ7_fill_d0a16 22 = .ok (.return_, 1) := by decide +kernel
set_option maxRecDepth 20000 in
theorem ggL_seal_X7_seal : GoodIn wsL_seal wsX7_seal := goodIn_ca (goodIn_ca (goodIn_r _ [6, 7, 8, 9, 10, 11, 12, 13, 14, 15, 16, 17, 18, 19, 20, 21, 22, 23, 24, 25, 26, 27, 28, 29, 30, 31, 32, 33, 34, 35, 36, 37, 38, 39, 40, 41, 42, 43, 44, 45, 46, 47, 48, 49, 50, 51, 52, 53, 54, 55, 56, 57, 58, 59, 60, 61, 62, 63, 64, 65, 66, 67, 68, 69, 70, 71, 72, 73, 74, 75, 76, 77, 78, 79, 80, 81, 82, 83, 84] (by decide +kernel) (by decide +kernel)) (goodIn_sub (fun _ h => List.mem_cons_of_mem _ (List.mem_append_left _ (List.mem_append_right _ h))) (by decide +kernel))) (goodIn_sub (fun _ h => List.mem_cons_of_mem _ (List.mem_append_right _ h)) (by decide +kernel))
set_option maxRecDepth 20000 in
theorem gL_seal_X7_seal : GoodIn wsL_seal (wsV RL 7 RX7 yX7_seal wsX7_seal) := goodIn_app (goodIn_of _ (by decide +kernel)) ggL_seal_X7_seal
