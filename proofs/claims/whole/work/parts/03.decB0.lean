theorem dX7_init_0 : decode cX7_init 0 = .ok (.aload_n 0, 1) := by decide +kernel
theorem dX7_init_1 : decode cX7_init 1 = .ok (.invokespecial 1, 3) := by decide +kernel
theorem dX7_init_4 : decode cX7_init 4 = .ok (.aload_n 0, 1) := by decide +kernel
theorem dX7_init_5 : decode cX7_init 5 = .ok (.iconst 0, 1) := by decide +kernel
theorem dX7_init_6 : decode cX7_init 6 = .ok (.putfield 9, 3) := by decide +kernel
theorem dX7_init_9 : decode cX7_init 9 = .ok (.aload_n 0, 1) := by decide +kernel
theorem dX7_init_10 : decode cX7_init 10 = .ok (.new 13, 3) := by decide +kernel
theorem dX7_init_13 : decode cX7_init 13 = .ok (.dup, 1) := by decide +kernel
theorem dX7_init_14 : decode cX7_init 14 = .ok (.invokespecial 15, 3) := by decide +kernel
theorem dX7_init_17 : decode cX7_init 17 = .ok (.putfield 16, 3) := by decide +kernel
theorem dX7_init_20 : decode cX7_init 20 = .ok (.aload_n 0, 1) := by decide +kernel
theorem dX7_init_21 : decode cX7_init 21 = .ok (.new 13, 3) := by decide +kernel
theorem dX7_init_24 : decode cX7_init 24 = .ok (.dup, 1) := by decide +kernel
theorem dX7_init_25 : decode cX7_init 25 = .ok (.invokespecial 15, 3) := by decide +kernel
theorem dX7_init_28 : decode cX7_init 28 = .ok (.putfield 20, 3) := by decide +kernel
theorem dX7_init_31 : decode cX7_init 31 = .ok (.aload_n 0, 1) := by decide +kernel
theorem dX7_init_32 : decode cX7_init 32 = .ok (.new 13, 3) := by decide +kernel
theorem dX7_init_35 : decode cX7_init 35 = .ok (.dup, 1) := by decide +kernel
theorem dX7_init_36 : decode cX7_init 36 = .ok (.invokespecial 15, 3) := by decide +kernel
theorem dX7_init_39 : decode cX7_init 39 = .ok (.putfield 23, 3) := by decide +kernel
theorem dX7_init_42 : decode cX7_init 42 = .ok (.aload_n 0, 1) := by decide +kernel
theorem dX7_init_43 : decode cX7_init 43 = .ok (.new 26, 3) := by decide +kernel
theorem dX7_init_46 : decode cX7_init 46 = .ok (.dup, 1) := by decide +kernel
theorem dX7_init_47 : decode cX7_init 47 = .ok (.invokespecial 28, 3) := by decide +kernel
theorem dX7_init_50 : decode cX7_init 50 = .ok (.putfield 29, 3) := by decide +kernel
theorem dX7_init_53 : decode cX7_init 53 = .ok (.aload_n 0, 1) := by decide +kernel
theorem dX7_init_54 : decode cX7_init 54 = .ok (.new 33, 3) := by decide +kernel
theorem dX7_init_57 : decode cX7_init 57 = .ok (.dup, 1) := by decide +kernel
theorem dX7_init_58 : decode cX7_init 58 = .ok (.invokespecial 35, 3) := by decide +kernel
theorem dX7_init_61 : decode cX7_init 61 = .ok (.putfield 36, 3) := by decide +kernel
theorem dX7_init_64 : decode cX7_init 64 = .ok (.aload_n 0, 1) := by decide +kernel
theorem dX7_init_65 : decode cX7_init 65 = .ok (.new 40, 3) := by decide +kernel
theorem dX7_init_68 : decode cX7_init 68 = .ok (.dup, 1) := by decide +kernel
theorem dX7_init_69 : decode cX7_init 69 = .ok (.sipush 1000, 3) := by decide +kernel
theorem dX7_init_72 : decode cX7_init 72 = .ok (.invokespecial 42, 3) := by decide +kernel
theorem dX7_init_75 : decode cX7_init 75 = .ok (.putfield 45, 3) := by decide +kernel
theorem dX7_init_78 : decode cX7_init 78 = .ok (.aload_n 0, 1) := by decide +kernel
theorem dX7_init_79 : decode cX7_init 79 = .ok (.new 40, 3) := by decide +kernel
theorem dX7_init_82 : decode cX7_init 82 = .ok (.dup, 1) := by decide +kernel
theorem dX7_init_83 : decode cX7_init 83 = .ok (.sipush 1000, 3) := by decide +kernel
theorem dX7_init_86 : decode cX7_init 86 = .ok (.invokespecial 42, 3) := by decide +kernel
theorem dX7_init_89 : decode cX7_init 89 = .ok (.putfield 49, 3) := by decide +kernel
theorem dX7_init_92 : decode cX7_init 92 = .ok (.aload_n 0, 1) := by decide +kernel
theorem dX7_init_93 : decode cX7_init 93 = .ok (.new 40, 3) := by decide +kernel
theorem dX7_init_96 : decode cX7_init 96 = .ok (.dup, 1) := by decide +kernel
theorem dX7_init_97 : decode cX7_init 97 = .ok (.sipush 1000, 3) := by decide +kernel
theorem dX7_init_100 : decode cX7_init 100 = .ok (.invokespecial 42, 3) := by decide +kernel
theorem dX7_init_103 : decode cX7_init 103 = .ok (.putfield 52, 3) := by decide +kernel
theorem dX7_init_106 : decode cX7_init 106 = .ok (.aload_n 0, 1) := by decide +kernel
theorem dX7_init_107 : decode cX7_init 107 = .ok (.new 40, 3) := by decide +kernel
theorem dX7_init_110 : decode cX7_init 110 = .ok (.dup, 1) := by decide +kernel
theorem dX7_init_111 : decode cX7_init 111 = .ok (.bipush 40, 2) := by decide +kernel
theorem dX7_init_113 : decode cX7_init 113 = .ok (.invokespecial 42, 3) := by decide +kernel
theorem dX7_init_116 : decode cX7_init 116 = .ok (.putfield 55, 3) := by decide +kernel
theorem dX7_init_119 : decode cX7_init 119 = .ok (.aload_n 0, 1) := by decide +kernel
theorem dX7_init_120 : decode cX7_init 120 = .ok (.new 40, 3) := by decide +kernel
theorem dX7_init_123 : decode cX7_init 123 = .ok (.dup, 1) := by decide +kernel
theorem dX7_init_124 : decode cX7_init 124 = .ok (.bipush 12, 2) := by decide +kernel
theorem dX7_init_126 : decode cX7_init 126 = .ok (.invokespecial 42, 3) := by decide +kernel
theorem dX7_init_129 : decode cX7_init 129 = .ok (.putfield 58, 3) := by decide +kernel
theorem dX7_init_132 : decode cX7_init 132 = .ok (.aload_n 0, 1) := by decide +kernel
theorem dX7_init_133 : decode cX7_init 133 = .ok (.new 61, 3) := by decide +kernel
theorem dX7_init_136 : decode cX7_init 136 = .ok (.dup, 1) := by decide +kernel
theorem dX7_init_137 : decode cX7_init 137 = .ok (.invokespecial 63, 3) := by decide +kernel
theorem dX7_init_140 : decode cX7_init 140 = .ok (.putfield 64, 3) := by decide +kernel
theorem dX7_init_143 : decode cX7_init 143 = .ok (.aload_n 0, 1) := by decide +kernel
theorem dX7_init_144 : decode cX7_init 144 = .ok (.new 68, 3) := by decide +kernel
theorem dX7_init_147 : decode cX7_init 147 = .ok (.dup, 1) := by decide +kernel
theorem dX7_init_148 : decode cX7_init 148 = .ok (.invokespecial 70, 3) := by decide +kernel
theorem dX7_init_151 : decode cX7_init 151 = .ok (.putfield 71, 3) := by decide +kernel
theorem dX7_init_154 : decode cX7_init 154 = .ok (.aload_n 0, 1) := by decide +kernel
theorem dX7_init_155 : decode cX7_init 155 = .ok (.new 68, 3) := by decide +kernel
theorem dX7_init_158 : decode cX7_init 158 = .ok (.dup, 1) := by decide +kernel
theorem dX7_init_159 : decode cX7_init 159 = .ok (.invokespecial 70, 3) := by decide +kernel
theorem dX7_init_162 : decode cX7_init 162 = .ok (.putfield 75, 3) := by decide +kernel
theorem dX7_init_165 : decode cX7_init 165 = .ok (.aload_n 0, 1) := by decide +kernel
theorem dX7_init_166 : decode cX7_init 166 = .ok (.new 78, 3) := by decide +kernel
theorem dX7_init_169 : decode cX7_init 169 = .ok (.dup, 1) := by decide +kernel
theorem dX7_init_170 : decode cX7_init 170 = .ok (.invokespecial 80, 3) := by decide +kernel
theorem dX7_init_173 : decode cX7_init 173 = .ok (.putfield 81, 3) := by decide +kernel
theorem dX7_init_176 : decode cX7_init 176 = .ok (.return_, 1) := by decide +kernel
set_option maxRecDepth 20000 in
theorem ggX7_draft_X5_begin : GoodIn wsX7_draft wsX5_begin := goodIn_r _ [6, 7, 8, 9, 10, 11, 12, 13, 14, 30, 31, 32, 33] (by decide +kernel) (by decide +kernel)
set_option maxRecDepth 20000 in
theorem gX7_draft_X5_begin : GoodIn wsX7_draft (wsV RX7 85 RX5 yX5_begin wsX5_begin) := goodIn_app (goodIn_of _ (by decide +kernel)) ggX7_draft_X5_begin
theorem dX7_draft_0 : decode cX7_draft 0 = .ok (.iload_n 1, 1) := by decide +kernel
theorem dX7_draft_1 : decode cX7_draft 1 = .ok (.iconst 2, 1) := by decide +kernel
theorem dX7_draft_2 : decode cX7_draft 2 = .ok (.if_icmp .lt 9, 3) := by decide +kernel
theorem dX7_draft_5 : decode cX7_draft 5 = .ok (.iload_n 1, 1) := by decide +kernel
theorem dX7_draft_6 : decode cX7_draft 6 = .ok (.bipush 64, 2) := by decide +kernel
theorem dX7_draft_8 : decode cX7_draft 8 = .ok (.if_icmp .le 5, 3) := by decide +kernel
theorem dX7_draft_11 : decode cX7_draft 11 = .ok (.iconst 0, 1) := by decide +kernel
theorem dX7_draft_12 : decode cX7_draft 12 = .ok (.ireturn, 1) := by decide +kernel
theorem dX7_draft_13 : decode cX7_draft 13 = .ok (.aload_n 0, 1) := by decide +kernel
theorem dX7_draft_14 : decode cX7_draft 14 = .ok (.getfield 20, 3) := by decide +kernel
theorem dX7_draft_17 : decode cX7_draft 17 = .ok (.iload_n 1, 1) := by decide +kernel
theorem dX7_draft_18 : decode cX7_draft 18 = .ok (.invokevirtual 85, 3) := by decide +kernel
theorem dX7_draft_21 : decode cX7_draft 21 = .ok (.iconst 1, 1) := by decide +kernel
theorem dX7_draft_22 : decode cX7_draft 22 = .ok (.ireturn, 1) := by decide +kernel
set_option maxRecDepth 20000 in
theorem ggX7_sheet_X6_begin : GoodIn wsX7_sheet wsX6_begin := goodIn_r _ [6, 7, 8, 9, 10, 11, 12, 13, 14, 15, 16, 17, 18, 19, 35, 36, 37, 38] (by decide +kernel) (by decide +kernel)
set_option maxRecDepth 20000 in
theorem gX7_sheet_X6_begin : GoodIn wsX7_sheet (wsV RX7 88 RX6 yX6_begin wsX6_begin) := goodIn_app (goodIn_of _ (by decide +kernel)) ggX7_sheet_X6_begin
theorem dX7_sheet_0 : decode cX7_sheet 0 = .ok (.aload_n 0, 1) := by decide +kernel
theorem dX7_sheet_1 : decode cX7_sheet 1 = .ok (.getfield 36, 3) := by decide +kernel
theorem dX7_sheet_4 : decode cX7_sheet 4 = .ok (.iload_n 1, 1) := by decide +kernel
theorem dX7_sheet_5 : decode cX7_sheet 5 = .ok (.iload_n 2, 1) := by decide +kernel
theorem dX7_sheet_6 : decode cX7_sheet 6 = .ok (.invokevirtual 88, 3) := by decide +kernel
theorem dX7_sheet_9 : decode cX7_sheet 9 = .ok (.ireturn, 1) := by decide +kernel
set_option maxRecDepth 20000 in
theorem ggX7_entry_X6_write : GoodIn wsX7_entry wsX6_write := goodIn_r _ [6, 7, 8, 9, 10, 11, 12, 13, 14, 15, 16, 17, 18, 19, 20, 36, 37, 38, 39] (by decide +kernel) (by decide +kernel)
set_option maxRecDepth 20000 in
theorem gX7_entry_X6_write : GoodIn wsX7_entry (wsV RX7 91 RX6 yX6_write wsX6_write) := goodIn_app (goodIn_of _ (by decide +kernel)) ggX7_entry_X6_write
theorem dX7_entry_0 : decode cX7_entry 0 = .ok (.aload_n 0, 1) := by decide +kernel
theorem dX7_entry_1 : decode cX7_entry 1 = .ok (.getfield 36, 3) := by decide +kernel
theorem dX7_entry_4 : decode cX7_entry 4 = .ok (.iload_n 1, 1) := by decide +kernel
theorem dX7_entry_5 : decode cX7_entry 5 = .ok (.lload_n 2, 1) := by decide +kernel
theorem dX7_entry_6 : decode cX7_entry 6 = .ok (.invokevirtual 91, 3) := by decide +kernel
theorem dX7_entry_9 : decode cX7_entry 9 = .ok (.ireturn, 1) := by decide +kernel
set_option maxRecDepth 20000 in
theorem ggX7_lay_X6_isThere : GoodIn wsX7_lay wsX6_isThere := goodIn_r _ [11, 12, 77, 78] (by decide +kernel) (by decide +kernel)
set_option maxRecDepth 20000 in
theorem gX7_lay_X6_isThere : GoodIn wsX7_lay (wsV RX7 95 RX6 yX6_isThere wsX6_isThere) := goodIn_app (goodIn_of _ (by decide +kernel)) ggX7_lay_X6_isThere
set_option maxRecDepth 20000 in
theorem ggX7_lay_X5_measure : GoodIn wsX7_lay wsX5_measure := goodIn_r _ [17, 18, 79, 80, 81, 82] (by decide +kernel) (by decide +kernel)
set_option maxRecDepth 20000 in
theorem gX7_lay_X5_measure : GoodIn wsX7_lay (wsV RX7 99 RX5 yX5_measure wsX5_measure) := goodIn_app (goodIn_of _ (by decide +kernel)) ggX7_lay_X5_measure
set_option maxRecDepth 20000 in
theorem ggX7_lay_X6_entries : GoodIn wsX7_lay wsX6_entries := goodIn_r _ [22, 23, 24, 25, 26, 27, 28, 29, 77, 78, 83, 84] (by decide +kernel) (by decide +kernel)
set_option maxRecDepth 20000 in
theorem gX7_lay_X6_entries : GoodIn wsX7_lay (wsV RX7 103 RX6 yX6_entries wsX6_entries) := goodIn_app (goodIn_of _ (by decide +kernel)) ggX7_lay_X6_entries
set_option maxRecDepth 20000 in
theorem ggX7_lay_X6_read : GoodIn wsX7_lay wsX6_read := goodIn_r _ [33, 23, 34, 35, 36, 27, 37, 38, 39, 40, 41, 42, 29, 77, 78, 83, 84] (by decide +kernel) (by decide +kernel)
set_option maxRecDepth 20000 in
theorem gX7_lay_X6_read : GoodIn wsX7_lay (wsV RX7 112 RX6 yX6_read wsX6_read) := goodIn_app (goodIn_of _ (by decide +kernel)) ggX7_lay_X6_read
set_option maxRecDepth 20000 in
theorem ggX7_lay_X5_write : GoodIn wsX7_lay wsX5_write := goodIn_r _ [46, 47, 48, 49, 50, 51, 52, 16, 53, 18, 79, 80, 81, 82] (by decide +kernel) (by decide +kernel)
set_option maxRecDepth 20000 in
theorem gX7_lay_X5_write : GoodIn wsX7_lay (wsV RX7 116 RX5 yX5_write wsX5_write) := goodIn_app (goodIn_of _ (by decide +kernel)) ggX7_lay_X5_write
set_option maxRecDepth 20000 in
theorem ggX7_lay_X6_drop : GoodIn wsX7_lay wsX6_drop := goodIn_r _ [57, 12, 23, 58, 59, 60, 27, 61, 29, 77, 78, 83, 84] (by decide +kernel) (by decide +kernel)
set_option maxRecDepth 20000 in
theorem gX7_lay_X6_drop : GoodIn wsX7_lay (wsV RX7 119 RX6 yX6_drop wsX6_drop) := goodIn_app (goodIn_of _ (by decide +kernel)) ggX7_lay_X6_drop
theorem dX7_lay_0 : decode cX7_lay 0 = .ok (.aload_n 0, 1) := by decide +kernel
theorem dX7_lay_1 : decode cX7_lay 1 = .ok (.getfield 36, 3) := by decide +kernel
theorem dX7_lay_4 : decode cX7_lay 4 = .ok (.invokevirtual 95, 3) := by decide +kernel
theorem dX7_lay_7 : decode cX7_lay 7 = .ok (.ifCond .eq 22, 3) := by decide +kernel
theorem dX7_lay_10 : decode cX7_lay 10 = .ok (.aload_n 0, 1) := by decide +kernel
theorem dX7_lay_11 : decode cX7_lay 11 = .ok (.getfield 20, 3) := by decide +kernel
theorem dX7_lay_14 : decode cX7_lay 14 = .ok (.invokevirtual 99, 3) := by decide +kernel
theorem dX7_lay_17 : decode cX7_lay 17 = .ok (.ifCond .eq 12, 3) := by decide +kernel
theorem dX7_lay_20 : decode cX7_lay 20 = .ok (.iload_n 1, 1) := by decide +kernel
theorem dX7_lay_21 : decode cX7_lay 21 = .ok (.ifCond .lt 8, 3) := by decide +kernel
theorem dX7_lay_24 : decode cX7_lay 24 = .ok (.iload_n 1, 1) := by decide +kernel
theorem dX7_lay_25 : decode cX7_lay 25 = .ok (.iconst 2, 1) := by decide +kernel
theorem dX7_lay_26 : decode cX7_lay 26 = .ok (.if_icmp .le 5, 3) := by decide +kernel
theorem dX7_lay_29 : decode cX7_lay 29 = .ok (.iconst (-1), 1) := by decide +kernel
theorem dX7_lay_30 : decode cX7_lay 30 = .ok (.ireturn, 1) := by decide +kernel
theorem dX7_lay_31 : decode cX7_lay 31 = .ok (.aload_n 0, 1) := by decide +kernel
theorem dX7_lay_32 : decode cX7_lay 32 = .ok (.getfield 36, 3) := by decide +kernel
theorem dX7_lay_35 : decode cX7_lay 35 = .ok (.invokevirtual 103, 3) := by decide +kernel
theorem dX7_lay_38 : decode cX7_lay 38 = .ok (.aload_n 0, 1) := by decide +kernel
theorem dX7_lay_39 : decode cX7_lay 39 = .ok (.getfield 20, 3) := by decide +kernel
theorem dX7_lay_42 : decode cX7_lay 42 = .ok (.invokevirtual 99, 3) := by decide +kernel
theorem dX7_lay_45 : decode cX7_lay 45 = .ok (.invokestatic 106, 3) := by decide +kernel
theorem dX7_lay_48 : decode cX7_lay 48 = .ok (.istore_n 2, 1) := by decide +kernel
theorem dX7_lay_49 : decode cX7_lay 49 = .ok (.iconst 0, 1) := by decide +kernel
theorem dX7_lay_50 : decode cX7_lay 50 = .ok (.istore_n 3, 1) := by decide +kernel
theorem dX7_lay_51 : decode cX7_lay 51 = .ok (.iload_n 3, 1) := by decide +kernel
theorem dX7_lay_52 : decode cX7_lay 52 = .ok (.iload_n 2, 1) := by decide +kernel
theorem dX7_lay_53 : decode cX7_lay 53 = .ok (.if_icmp .ge 26, 3) := by decide +kernel
theorem dX7_lay_56 : decode cX7_lay 56 = .ok (.aload_n 0, 1) := by decide +kernel
theorem dX7_lay_57 : decode cX7_lay 57 = .ok (.getfield 20, 3) := by decide +kernel
theorem dX7_lay_60 : decode cX7_lay 60 = .ok (.iload_n 3, 1) := by decide +kernel
theorem dX7_lay_61 : decode cX7_lay 61 = .ok (.iload_n 1, 1) := by decide +kernel
theorem dX7_lay_62 : decode cX7_lay 62 = .ok (.aload_n 0, 1) := by decide +kernel
theorem dX7_lay_63 : decode cX7_lay 63 = .ok (.getfield 36, 3) := by decide +kernel
theorem dX7_lay_66 : decode cX7_lay 66 = .ok (.iload_n 3, 1) := by decide +kernel
theorem dX7_lay_67 : decode cX7_lay 67 = .ok (.invokevirtual 112, 3) := by decide +kernel
theorem dX7_lay_70 : decode cX7_lay 70 = .ok (.invokevirtual 116, 3) := by decide +kernel
theorem dX7_lay_73 : decode cX7_lay 73 = .ok (.iinc 3 1, 3) := by decide +kernel
theorem dX7_lay_76 : decode cX7_lay 76 = .ok (.goto (-25), 3) := by decide +kernel
theorem dX7_lay_79 : decode cX7_lay 79 = .ok (.aload_n 0, 1) := by decide +kernel
theorem dX7_lay_80 : decode cX7_lay 80 = .ok (.getfield 36, 3) := by decide +kernel
theorem dX7_lay_83 : decode cX7_lay 83 = .ok (.invokevirtual 119, 3) := by decide +kernel
theorem dX7_lay_86 : decode cX7_lay 86 = .ok (.iload_n 2, 1) := by decide +kernel
theorem dX7_lay_87 : decode cX7_lay 87 = .ok (.ireturn, 1) := by decide +kernel
set_option maxRecDepth 20000 in
theorem ggX7_seal_X5_measure : GoodIn wsX7_seal wsX5_measure := goodIn_r _ [10, 11, 75, 76, 77, 78] (by decide +kernel) (by decide +kernel)
set_option maxRecDepth 20000 in
theorem gX7_seal_X5_measure : GoodIn wsX7_seal (wsV RX7 99 RX5 yX5_measure wsX5_measure) := goodIn_app (goodIn_of _ (by decide +kernel)) ggX7_seal_X5_measure
set_option maxRecDepth 20000 in
theorem ggX7_seal_X5_firstUnsound : GoodIn wsX7_seal wsX5_firstUnsound := goodIn_ca (goodIn_r _ [15, 11, 16, 17, 18, 9, 19, 20, 21, 22, 23, 24, 25, 26, 27, 28, 29, 30, 31, 32, 33, 34, 35, 36, 37, 38, 39, 40, 41, 42, 43, 44, 45, 46, 47, 75, 76, 77, 78] (by decide +kernel) (by decide +kernel)) (goodIn_sub (fun _ h => List.mem_cons_of_mem _ (List.mem_append_right _ h)) (by decide +kernel))
set_option maxRecDepth 20000 in
theorem gX7_seal_X5_firstUnsound : GoodIn wsX7_seal (wsV RX7 129 RX5 yX5_firstUnsound wsX5_firstUnsound) := goodIn_app (goodIn_of _ (by decide +kernel)) ggX7_seal_X5_firstUnsound
set_option maxRecDepth 20000 in
theorem ggX7_seal_X5_become : GoodIn wsX7_seal wsX5_become := goodIn_r _ [51, 11, 24, 52, 53, 54, 55, 25, 26, 75, 76, 77, 78] (by decide +kernel) (by decide +kernel)
set_option maxRecDepth 20000 in
theorem gX7_seal_X5_become : GoodIn wsX7_seal (wsV RX7 132 RX5 yX5_become wsX5_become) := goodIn_app (goodIn_of _ (by decide +kernel)) ggX7_seal_X5_become
set_option maxRecDepth 20000 in
theorem ggX7_seal_X5_drop : GoodIn wsX7_seal wsX5_drop := goodIn_r _ [59, 11, 75, 76, 77, 78] (by decide +kernel) (by decide +kernel)
set_option maxRecDepth 20000 in
theorem gX7_seal_X5_drop : GoodIn wsX7_seal (wsV RX7 136 RX5 yX5_drop wsX5_drop) := goodIn_app (goodIn_of _ (by decide +kernel)) ggX7_seal_X5_drop
theorem dX7_seal_0 : decode cX7_seal 0 = .ok (.aload_n 0, 1) := by decide +kernel
theorem dX7_seal_1 : decode cX7_seal 1 = .ok (.getfield 20, 3) := by decide +kernel
theorem dX7_seal_4 : decode cX7_seal 4 = .ok (.invokevirtual 99, 3) := by decide +kernel
theorem dX7_seal_7 : decode cX7_seal 7 = .ok (.ifCond .ne 13, 3) := by decide +kernel
theorem dX7_seal_10 : decode cX7_seal 10 = .ok (.new 122, 3) := by decide +kernel
theorem dX7_seal_13 : decode cX7_seal 13 = .ok (.dup, 1) := by decide +kernel
theorem dX7_seal_14 : decode cX7_seal 14 = .ok (.ldc 124, 2) := by decide +kernel
theorem dX7_seal_16 : decode cX7_seal 16 = .ok (.invokespecial 126, 3) := by decide +kernel
theorem dX7_seal_19 : decode cX7_seal 19 = .ok (.athrow, 1) := by decide +kernel
theorem dX7_seal_20 : decode cX7_seal 20 = .ok (.aload_n 0, 1) := by decide +kernel
theorem dX7_seal_21 : decode cX7_seal 21 = .ok (.getfield 20, 3) := by decide +kernel
theorem dX7_seal_24 : decode cX7_seal 24 = .ok (.invokevirtual 129, 3) := by decide +kernel
theorem dX7_seal_27 : decode cX7_seal 27 = .ok (.istore_n 1, 1) := by decide +kernel
theorem dX7_seal_28 : decode cX7_seal 28 = .ok (.iload_n 1, 1) := by decide +kernel
theorem dX7_seal_29 : decode cX7_seal 29 = .ok (.ifCond .lt 7, 3) := by decide +kernel
theorem dX7_seal_32 : decode cX7_seal 32 = .ok (.iconst (-1), 1) := by decide +kernel
theorem dX7_seal_33 : decode cX7_seal 33 = .ok (.iload_n 1, 1) := by decide +kernel
theorem dX7_seal_34 : decode cX7_seal 34 = .ok (.isub, 1) := by decide +kernel
theorem dX7_seal_35 : decode cX7_seal 35 = .ok (.ireturn, 1) := by decide +kernel
theorem dX7_seal_36 : decode cX7_seal 36 = .ok (.aload_n 0, 1) := by decide +kernel
theorem dX7_seal_37 : decode cX7_seal 37 = .ok (.getfield 16, 3) := by decide +kernel
theorem dX7_seal_40 : decode cX7_seal 40 = .ok (.aload_n 0, 1) := by decide +kernel
theorem dX7_seal_41 : decode cX7_seal 41 = .ok (.getfield 20, 3) := by decide +kernel
theorem dX7_seal_44 : decode cX7_seal 44 = .ok (.invokevirtual 132, 3) := by decide +kernel
theorem dX7_seal_47 : decode cX7_seal 47 = .ok (.aload_n 0, 1) := by decide +kernel
theorem dX7_seal_48 : decode cX7_seal 48 = .ok (.getfield 20, 3) := by decide +kernel
theorem dX7_seal_51 : decode cX7_seal 51 = .ok (.invokevirtual 136, 3) := by decide +kernel
theorem dX7_seal_54 : decode cX7_seal 54 = .ok (.aload_n 0, 1) := by decide +kernel
theorem dX7_seal_55 : decode cX7_seal 55 = .ok (.iconst 1, 1) := by decide +kernel
theorem dX7_seal_56 : decode cX7_seal 56 = .ok (.putfield 9, 3) := by decide +kernel
theorem dX7_seal_59 : decode cX7_seal 59 = .ok (.iconst 0, 1) := by decide +kernel
theorem dX7_seal_60 : decode cX7_seal 60 = .ok (.ireturn, 1) := by decide +kernel
set_option maxRecDepth 20000 in
theorem ggX7_list_X0_empty : GoodIn wsX7_list wsX0_empty := goodIn_r _ [7, 8, 24, 25, 26] (by decide +kernel) (by decide +kernel)
set_option maxRecDepth 20000 in
theorem gX7_list_X0_empty : GoodIn wsX7_list (wsV RX7 137 RX0 yX0_empty wsX0_empty) := goodIn_app (goodIn_of _ (by decide +kernel)) ggX7_list_X0_empty
theorem dX7_list_0 : decode cX7_list 0 = .ok (.aload_n 0, 1) := by decide +kernel
theorem dX7_list_1 : decode cX7_list 1 = .ok (.getfield 29, 3) := by decide +kernel
theorem dX7_list_4 : decode cX7_list 4 = .ok (.invokevirtual 137, 3) := by decide +kernel
theorem dX7_list_7 : decode cX7_list 7 = .ok (.aload_n 0, 1) := by decide +kernel
theorem dX7_list_8 : decode cX7_list 8 = .ok (.iconst 2, 1) := by decide +kernel
theorem dX7_list_9 : decode cX7_list 9 = .ok (.putfield 9, 3) := by decide +kernel
theorem dX7_list_12 : decode cX7_list 12 = .ok (.iconst 1, 1) := by decide +kernel
theorem dX7_list_13 : decode cX7_list 13 = .ok (.ireturn, 1) := by decide +kernel
set_option maxRecDepth 20000 in
theorem ggX7_fraction_X0_add : GoodIn wsX7_fraction wsX0_add := goodIn_ca (goodIn_r _ [8, 9, 10, 11, 12, 13, 14, 15, 16, 17, 18, 38, 39, 40] (by decide +kernel) (by decide +kernel)) (goodIn_sub (fun _ h => List.mem_cons_of_mem _ (List.mem_append_right _ h)) (by decide +kernel))
set_option maxRecDepth 20000 in
theorem gX7_fraction_X0_add : GoodIn wsX7_fraction (wsV RX7 142 RX0 yX0_add wsX0_add) := goodIn_app (goodIn_of _ (by decide +kernel)) ggX7_fraction_X0_add
set_option maxRecDepth 20000 in
theorem ggX7_fraction_X0_size : GoodIn wsX7_fraction wsX0_size := goodIn_r _ [22, 9, 38, 39, 40] (by decide +kernel) (by decide +kernel)
set_option maxRecDepth 20000 in
theorem gX7_fraction_X0_size : GoodIn wsX7_fraction (wsV RX7 146 RX0 yX0_size wsX0_size) := goodIn_app (goodIn_of _ (by decide +kernel)) ggX7_fraction_X0_size
theorem dX7_fraction_0 : decode cX7_fraction 0 = .ok (.aload_n 0, 1) := by decide +kernel
theorem dX7_fraction_1 : decode cX7_fraction 1 = .ok (.getfield 9, 3) := by decide +kernel
theorem dX7_fraction_4 : decode cX7_fraction 4 = .ok (.iconst 2, 1) := by decide +kernel
theorem dX7_fraction_5 : decode cX7_fraction 5 = .ok (.if_icmp .ne 31, 3) := by decide +kernel
theorem dX7_fraction_8 : decode cX7_fraction 8 = .ok (.lload_n 1, 1) := by decide +kernel
theorem dX7_fraction_9 : decode cX7_fraction 9 = .ok (.lconst 1, 1) := by decide +kernel
theorem dX7_fraction_10 : decode cX7_fraction 10 = .ok (.lcmp, 1) := by decide +kernel
theorem dX7_fraction_11 : decode cX7_fraction 11 = .ok (.ifCond .lt 25, 3) := by decide +kernel
theorem dX7_fraction_14 : decode cX7_fraction 14 = .ok (.lload_n 1, 1) := by decide +kernel
theorem dX7_fraction_15 : decode cX7_fraction 15 = .ok (.ldc2_w 140, 3) := by decide +kernel
theorem dX7_fraction_18 : decode cX7_fraction 18 = .ok (.lcmp, 1) := by decide +kernel
theorem dX7_fraction_19 : decode cX7_fraction 19 = .ok (.ifCond .gt 17, 3) := by decide +kernel
theorem dX7_fraction_22 : decode cX7_fraction 22 = .ok (.lload_n 3, 1) := by decide +kernel
theorem dX7_fraction_23 : decode cX7_fraction 23 = .ok (.lconst 1, 1) := by decide +kernel
theorem dX7_fraction_24 : decode cX7_fraction 24 = .ok (.lcmp, 1) := by decide +kernel
theorem dX7_fraction_25 : decode cX7_fraction 25 = .ok (.ifCond .lt 11, 3) := by decide +kernel
theorem dX7_fraction_28 : decode cX7_fraction 28 = .ok (.lload_n 3, 1) := by decide +kernel
theorem dX7_fraction_29 : decode cX7_fraction 29 = .ok (.ldc2_w 140, 3) := by decide +kernel
theorem dX7_fraction_32 : decode cX7_fraction 32 = .ok (.lcmp, 1) := by decide +kernel
theorem dX7_fraction_33 : decode cX7_fraction 33 = .ok (.ifCond .le 5, 3) := by decide +kernel
theorem dX7_fraction_36 : decode cX7_fraction 36 = .ok (.iconst (-1), 1) := by decide +kernel
theorem dX7_fraction_37 : decode cX7_fraction 37 = .ok (.ireturn, 1) := by decide +kernel
theorem dX7_fraction_38 : decode cX7_fraction 38 = .ok (.aload_n 0, 1) := by decide +kernel
theorem dX7_fraction_39 : decode cX7_fraction 39 = .ok (.getfield 29, 3) := by decide +kernel
theorem dX7_fraction_42 : decode cX7_fraction 42 = .ok (.lload_n 1, 1) := by decide +kernel
theorem dX7_fraction_43 : decode cX7_fraction 43 = .ok (.lload_n 3, 1) := by decide +kernel
theorem dX7_fraction_44 : decode cX7_fraction 44 = .ok (.invokevirtual 142, 3) := by decide +kernel
theorem dX7_fraction_47 : decode cX7_fraction 47 = .ok (.ifCond .eq 13, 3) := by decide +kernel
theorem dX7_fraction_50 : decode cX7_fraction 50 = .ok (.aload_n 0, 1) := by decide +kernel
theorem dX7_fraction_51 : decode cX7_fraction 51 = .ok (.getfield 29, 3) := by decide +kernel
theorem dX7_fraction_54 : decode cX7_fraction 54 = .ok (.invokevirtual 146, 3) := by decide +kernel
theorem dX7_fraction_57 : decode cX7_fraction 57 = .ok (.goto 4, 3) := by decide +kernel
theorem dX7_fraction_60 : decode cX7_fraction 60 = .ok (.iconst (-1), 1) := by decide +kernel
theorem dX7_fraction_61 : decode cX7_fraction 61 = .ok (.ireturn, 1) := by decide +kernel
set_option maxRecDepth 20000 in
theorem ggX7_count_X5_measure : GoodIn wsX7_count wsX5_measure := goodIn_r _ [12, 13, 60, 61, 62, 63] (by decide +kernel) (by decide +kernel)
set_option maxRecDepth 20000 in
theorem gX7_count_X5_measure : GoodIn wsX7_count (wsV RX7 99 RX5 yX5_measure wsX5_measure) := goodIn_app (goodIn_of _ (by decide +kernel)) ggX7_count_X5_measure
set_option maxRecDepth 20000 in
theorem ggX7_count_X0_size : GoodIn wsX7_count wsX0_size := goodIn_r _ [18, 19, 64, 65, 66] (by decide +kernel) (by decide +kernel)
set_option maxRecDepth 20000 in
theorem gX7_count_X0_size : GoodIn wsX7_count (wsV RX7 146 RX0 yX0_size wsX0_size) := goodIn_app (goodIn_of _ (by decide +kernel)) ggX7_count_X0_size
set_option maxRecDepth 20000 in
theorem ggX7_count_X2_size : GoodIn wsX7_count wsX2_size := goodIn_r _ [24, 25, 67, 68] (by decide +kernel) (by decide +kernel)
set_option maxRecDepth 20000 in
theorem gX7_count_X2_size : GoodIn wsX7_count (wsV RX7 149 RX2 yX2_size wsX2_size) := goodIn_app (goodIn_of _ (by decide +kernel)) ggX7_count_X2_size
set_option maxRecDepth 20000 in
theorem ggX7_count_X1_size : GoodIn wsX7_count wsX1_size := goodIn_r _ [30, 31, 32, 21, 22, 23, 24, 25, 69, 70, 71, 72, 73, 74, 67, 68] (by decide +kernel) (by decide +kernel)
set_option maxRecDepth 20000 in
theorem gX7_count_X1_size : GoodIn wsX7_count (wsV RX7 150 RX1 yX1_size wsX1_size) := goodIn_app (goodIn_of _ (by decide +kernel)) ggX7_count_X1_size
set_option maxRecDepth 20000 in
theorem ggX7_count_X6_isThere : GoodIn wsX7_count wsX6_isThere := goodIn_r _ [37, 38, 75, 76] (by decide +kernel) (by decide +kernel)
set_option maxRecDepth 20000 in
theorem gX7_count_X6_isThere : GoodIn wsX7_count (wsV RX7 95 RX6 yX6_isThere wsX6_isThere) := goodIn_app (goodIn_of _ (by decide +kernel)) ggX7_count_X6_isThere
set_option maxRecDepth 20000 in
theorem ggX7_count_X6_entries : GoodIn wsX7_count wsX6_entries := goodIn_r _ [42, 43, 44, 21, 22, 23, 24, 25, 75, 76, 67, 68] (by decide +kernel) (by decide +kernel)
set_option maxRecDepth 20000 in
theorem gX7_count_X6_entries : GoodIn wsX7_count (wsV RX7 103 RX6 yX6_entries wsX6_entries) := goodIn_app (goodIn_of _ (by decide +kernel)) ggX7_count_X6_entries
theorem dX7_count_0 : decode cX7_count 0 = .ok (.iload_n 1, 1) := by decide +kernel
theorem dX7_count_1 : decode cX7_count 1 = .ok (.tableswitch 134 0 6 #[43, 48, 68, 88, 96, 104, 112], 43) := by decide +kernel
theorem dX7_count_44 : decode cX7_count 44 = .ok (.aload_n 0, 1) := by decide +kernel
theorem dX7_count_45 : decode cX7_count 45 = .ok (.getfield 9, 3) := by decide +kernel
theorem dX7_count_48 : decode cX7_count 48 = .ok (.ireturn, 1) := by decide +kernel
theorem dX7_count_49 : decode cX7_count 49 = .ok (.aload_n 0, 1) := by decide +kernel
theorem dX7_count_50 : decode cX7_count 50 = .ok (.getfield 9, 3) := by decide +kernel
theorem dX7_count_53 : decode cX7_count 53 = .ok (.iconst 1, 1) := by decide +kernel
theorem dX7_count_54 : decode cX7_count 54 = .ok (.if_icmp .ne 13, 3) := by decide +kernel
theorem dX7_count_57 : decode cX7_count 57 = .ok (.aload_n 0, 1) := by decide +kernel
theorem dX7_count_58 : decode cX7_count 58 = .ok (.getfield 16, 3) := by decide +kernel
theorem dX7_count_61 : decode cX7_count 61 = .ok (.invokevirtual 99, 3) := by decide +kernel
theorem dX7_count_64 : decode cX7_count 64 = .ok (.goto 4, 3) := by decide +kernel
theorem dX7_count_67 : decode cX7_count 67 = .ok (.iconst 0, 1) := by decide +kernel
theorem dX7_count_68 : decode cX7_count 68 = .ok (.ireturn, 1) := by decide +kernel
theorem dX7_count_69 : decode cX7_count 69 = .ok (.aload_n 0, 1) := by decide +kernel
theorem dX7_count_70 : decode cX7_count 70 = .ok (.getfield 9, 3) := by decide +kernel
theorem dX7_count_73 : decode cX7_count 73 = .ok (.iconst 2, 1) := by decide +kernel
theorem dX7_count_74 : decode cX7_count 74 = .ok (.if_icmp .ne 13, 3) := by decide +kernel
theorem dX7_count_77 : decode cX7_count 77 = .ok (.aload_n 0, 1) := by decide +kernel
theorem dX7_count_78 : decode cX7_count 78 = .ok (.getfield 29, 3) := by decide +kernel
theorem dX7_count_81 : decode cX7_count 81 = .ok (.invokevirtual 146, 3) := by decide +kernel
theorem dX7_count_84 : decode cX7_count 84 = .ok (.goto 4, 3) := by decide +kernel
theorem dX7_count_87 : decode cX7_count 87 = .ok (.iconst 0, 1) := by decide +kernel
theorem dX7_count_88 : decode cX7_count 88 = .ok (.ireturn, 1) := by decide +kernel
theorem dX7_count_89 : decode cX7_count 89 = .ok (.aload_n 0, 1) := by decide +kernel
theorem dX7_count_90 : decode cX7_count 90 = .ok (.getfield 45, 3) := by decide +kernel
theorem dX7_count_93 : decode cX7_count 93 = .ok (.invokevirtual 149, 3) := by decide +kernel
theorem dX7_count_96 : decode cX7_count 96 = .ok (.ireturn, 1) := by decide +kernel
theorem dX7_count_97 : decode cX7_count 97 = .ok (.aload_n 0, 1) := by decide +kernel
theorem dX7_count_98 : decode cX7_count 98 = .ok (.getfield 55, 3) := by decide +kernel
theorem dX7_count_101 : decode cX7_count 101 = .ok (.invokevirtual 149, 3) := by decide +kernel
theorem dX7_count_104 : decode cX7_count 104 = .ok (.ireturn, 1) := by decide +kernel
theorem dX7_count_105 : decode cX7_count 105 = .ok (.aload_n 0, 1) := by decide +kernel
theorem dX7_count_106 : decode cX7_count 106 = .ok (.getfield 81, 3) := by decide +kernel
theorem dX7_count_109 : decode cX7_count 109 = .ok (.invokevirtual 150, 3) := by decide +kernel
theorem dX7_count_112 : decode cX7_count 112 = .ok (.ireturn, 1) := by decide +kernel
theorem dX7_count_113 : decode cX7_count 113 = .ok (.aload_n 0, 1) := by decide +kernel
theorem dX7_count_114 : decode cX7_count 114 = .ok (.getfield 36, 3) := by decide +kernel
theorem dX7_count_117 : decode cX7_count 117 = .ok (.invokevirtual 95, 3) := by decide +kernel
theorem dX7_count_120 : decode cX7_count 120 = .ok (.ifCond .eq 13, 3) := by decide +kernel
theorem dX7_count_123 : decode cX7_count 123 = .ok (.aload_n 0, 1) := by decide +kernel
theorem dX7_count_124 : decode cX7_count 124 = .ok (.getfield 36, 3) := by decide +kernel
theorem dX7_count_127 : decode cX7_count 127 = .ok (.invokevirtual 103, 3) := by decide +kernel
theorem dX7_count_130 : decode cX7_count 130 = .ok (.goto 4, 3) := by decide +kernel
theorem dX7_count_133 : decode cX7_count 133 = .ok (.iconst (-1), 1) := by decide +kernel
theorem dX7_count_134 : decode cX7_count 134 = .ok (.ireturn, 1) := by decide +kernel
theorem dX7_count_135 : decode cX7_count 135 = .ok (.iconst (-1), 1) := by decide +kernel
theorem dX7_count_136 : decode cX7_count 136 = .ok (.ireturn, 1) := by decide +kernel
set_option maxRecDepth 20000 in
theorem ggX7_told_X5_has : GoodIn wsX7_told wsX5_has := goodIn_r _ [10, 11, 52, 53, 54, 55] (by decide +kernel) (by decide +kernel)
set_option maxRecDepth 20000 in
theorem gX7_told_X5_has : GoodIn wsX7_told (wsV RX7 151 RX5 yX5_has wsX5_has) := goodIn_app (goodIn_of _ (by decide +kernel)) ggX7_told_X5_has
set_option maxRecDepth 20000 in
theorem ggX7_told_X5_read : GoodIn wsX7_told wsX5_read := goodIn_r _ [15, 16, 17, 18, 19, 7, 8, 9, 10, 11, 52, 53, 54, 55] (by decide +kernel) (by decide +kernel)
set_option maxRecDepth 20000 in
theorem gX7_told_X5_read : GoodIn wsX7_told (wsV RX7 155 RX5 yX5_read wsX5_read) := goodIn_app (goodIn_of _ (by decide +kernel)) ggX7_told_X5_read
set_option maxRecDepth 20000 in
theorem ggX7_told_X0_has : GoodIn wsX7_told wsX0_has := goodIn_r _ [24, 25, 56, 57, 58] (by decide +kernel) (by decide +kernel)
set_option maxRecDepth 20000 in
theorem gX7_told_X0_has : GoodIn wsX7_told (wsV RX7 158 RX0 yX0_has wsX0_has) := goodIn_app (goodIn_of _ (by decide +kernel)) ggX7_told_X0_has
set_option maxRecDepth 20000 in
theorem ggX7_told_X0_over : GoodIn wsX7_told wsX0_over := goodIn_r _ [29, 30, 31, 21, 22, 23, 24, 25, 56, 57, 58] (by decide +kernel) (by decide +kernel)
set_option maxRecDepth 20000 in
theorem gX7_told_X0_over : GoodIn wsX7_told (wsV RX7 159 RX0 yX0_over wsX0_over) := goodIn_app (goodIn_of _ (by decide +kernel)) ggX7_told_X0_over
set_option maxRecDepth 20000 in
theorem ggX7_told_X0_under : GoodIn wsX7_told wsX0_under := goodIn_r _ [35, 36, 31, 21, 22, 23, 24, 25, 56, 57, 58] (by decide +kernel) (by decide +kernel)
set_option maxRecDepth 20000 in
theorem gX7_told_X0_under : GoodIn wsX7_told (wsV RX7 162 RX0 yX0_under wsX0_under) := goodIn_app (goodIn_of _ (by decide +kernel)) ggX7_told_X0_under
theorem dX7_told_0 : decode cX7_told 0 = .ok (.aload_n 0, 1) := by decide +kernel
theorem dX7_told_1 : decode cX7_told 1 = .ok (.getfield 9, 3) := by decide +kernel
theorem dX7_told_4 : decode cX7_told 4 = .ok (.iconst 1, 1) := by decide +kernel
theorem dX7_told_5 : decode cX7_told 5 = .ok (.if_icmp .ne 33, 3) := by decide +kernel
theorem dX7_told_8 : decode cX7_told 8 = .ok (.aload_n 0, 1) := by decide +kernel
theorem dX7_told_9 : decode cX7_told 9 = .ok (.getfield 16, 3) := by decide +kernel
theorem dX7_told_12 : decode cX7_told 12 = .ok (.iload_n 1, 1) := by decide +kernel
theorem dX7_told_13 : decode cX7_told 13 = .ok (.invokevirtual 151, 3) := by decide +kernel
theorem dX7_told_16 : decode cX7_told 16 = .ok (.ifCond .eq 22, 3) := by decide +kernel
theorem dX7_told_19 : decode cX7_told 19 = .ok (.iload_n 2, 1) := by decide +kernel
theorem dX7_told_20 : decode cX7_told 20 = .ok (.ifCond .lt 18, 3) := by decide +kernel
theorem dX7_told_23 : decode cX7_told 23 = .ok (.iload_n 2, 1) := by decide +kernel
theorem dX7_told_24 : decode cX7_told 24 = .ok (.iconst 2, 1) := by decide +kernel
theorem dX7_told_25 : decode cX7_told 25 = .ok (.if_icmp .gt 13, 3) := by decide +kernel
theorem dX7_told_28 : decode cX7_told 28 = .ok (.aload_n 0, 1) := by decide +kernel
theorem dX7_told_29 : decode cX7_told 29 = .ok (.getfield 16, 3) := by decide +kernel
theorem dX7_told_32 : decode cX7_told 32 = .ok (.iload_n 1, 1) := by decide +kernel
theorem dX7_told_33 : decode cX7_told 33 = .ok (.iload_n 2, 1) := by decide +kernel
theorem dX7_told_34 : decode cX7_told 34 = .ok (.invokevirtual 155, 3) := by decide +kernel
theorem dX7_told_37 : decode cX7_told 37 = .ok (.lreturn, 1) := by decide +kernel
theorem dX7_told_38 : decode cX7_told 38 = .ok (.aload_n 0, 1) := by decide +kernel
theorem dX7_told_39 : decode cX7_told 39 = .ok (.getfield 9, 3) := by decide +kernel
theorem dX7_told_42 : decode cX7_told 42 = .ok (.iconst 2, 1) := by decide +kernel
theorem dX7_told_43 : decode cX7_told 43 = .ok (.if_icmp .ne 47, 3) := by decide +kernel
theorem dX7_told_46 : decode cX7_told 46 = .ok (.aload_n 0, 1) := by decide +kernel
theorem dX7_told_47 : decode cX7_told 47 = .ok (.getfield 29, 3) := by decide +kernel
theorem dX7_told_50 : decode cX7_told 50 = .ok (.iload_n 1, 1) := by decide +kernel
theorem dX7_told_51 : decode cX7_told 51 = .ok (.invokevirtual 158, 3) := by decide +kernel
theorem dX7_told_54 : decode cX7_told 54 = .ok (.ifCond .eq 36, 3) := by decide +kernel
theorem dX7_told_57 : decode cX7_told 57 = .ok (.iload_n 2, 1) := by decide +kernel
theorem dX7_told_58 : decode cX7_told 58 = .ok (.ifCond .lt 32, 3) := by decide +kernel
theorem dX7_told_61 : decode cX7_told 61 = .ok (.iload_n 2, 1) := by decide +kernel
theorem dX7_told_62 : decode cX7_told 62 = .ok (.iconst 1, 1) := by decide +kernel
theorem dX7_told_63 : decode cX7_told 63 = .ok (.if_icmp .gt 27, 3) := by decide +kernel
theorem dX7_told_66 : decode cX7_told 66 = .ok (.iload_n 2, 1) := by decide +kernel
theorem dX7_told_67 : decode cX7_told 67 = .ok (.ifCond .ne 14, 3) := by decide +kernel
theorem dX7_told_70 : decode cX7_told 70 = .ok (.aload_n 0, 1) := by decide +kernel
theorem dX7_told_71 : decode cX7_told 71 = .ok (.getfield 29, 3) := by decide +kernel
theorem dX7_told_74 : decode cX7_told 74 = .ok (.iload_n 1, 1) := by decide +kernel
theorem dX7_told_75 : decode cX7_told 75 = .ok (.invokevirtual 159, 3) := by decide +kernel
theorem dX7_told_78 : decode cX7_told 78 = .ok (.goto 11, 3) := by decide +kernel
theorem dX7_told_81 : decode cX7_told 81 = .ok (.aload_n 0, 1) := by decide +kernel
theorem dX7_told_82 : decode cX7_told 82 = .ok (.getfield 29, 3) := by decide +kernel
theorem dX7_told_85 : decode cX7_told 85 = .ok (.iload_n 1, 1) := by decide +kernel
theorem dX7_told_86 : decode cX7_told 86 = .ok (.invokevirtual 162, 3) := by decide +kernel
theorem dX7_told_89 : decode cX7_told 89 = .ok (.lreturn, 1) := by decide +kernel
theorem dX7_told_90 : decode cX7_told 90 = .ok (.new 165, 3) := by decide +kernel
theorem dX7_told_93 : decode cX7_told 93 = .ok (.dup, 1) := by decide +kernel
theorem dX7_told_94 : decode cX7_told 94 = .ok (.ldc 167, 2) := by decide +kernel
theorem dX7_told_96 : decode cX7_told 96 = .ok (.invokespecial 169, 3) := by decide +kernel
theorem dX7_told_99 : decode cX7_told 99 = .ok (.athrow, 1) := by decide +kernel
set_option maxRecDepth 20000 in
theorem ggX7_step_X7_run : GoodIn wsX7_step wsX7_run := goodIn_ca (goodIn_ca (goodIn_ca (goodIn_ca (goodIn_ca (goodIn_r _ [5, 6, 7, 8, 9, 10, 11, 12, 13, 14, 4, 15, 16, 17, 18, 19, 20, 21, 22, 23, 24, 25, 26, 27, 28, 29, 30, 31, 32, 33, 34, 35, 36, 37, 38, 39, 40, 41, 42, 43, 44, 45, 46, 47, 48, 49, 50, 51, 52, 53, 54, 55, 56, 57, 58, 59, 60, 61, 62, 63, 64, 65, 66, 67, 68, 69, 70, 71, 72, 73, 74, 75, 76, 77, 78, 79, 80, 81, 82, 83, 84, 85, 86, 87, 88, 89, 90, 91, 92, 93, 94, 95, 96, 97, 98, 99, 100, 101, 102, 103, 104, 105, 106, 107, 108, 109, 110, 111, 112, 113, 114, 115, 116, 117, 118] (by decide +kernel) (by decide +kernel)) (goodIn_sub (fun _ h => List.mem_cons_of_mem _ (List.mem_append_left _ (List.mem_append_left _ (List.mem_append_left _ (List.mem_append_left _ (List.mem_append_right _ h)))))) (by decide +kernel))) (goodIn_sub (fun _ h => List.mem_cons_of_mem _ (List.mem_append_left _ (List.mem_append_left _ (List.mem_append_left _ (List.mem_append_right _ h))))) (by decide +kernel))) (goodIn_sub (fun _ h => List.mem_cons_of_mem _ (List.mem_append_left _ (List.mem_append_left _ (List.mem_append_right _ h)))) (by decide +kernel))) (goodIn_sub (fun _ h => List.mem_cons_of_mem _ (List.mem_append_left _ (List.mem_append_right _ h))) (by decide +kernel))) (goodIn_sub (fun _ h => List.mem_cons_of_mem _ (List.mem_append_right _ h)) (by decide +kernel))
set_option maxRecDepth 20000 in
theorem gX7_step_X7_run : GoodIn wsX7_step (wsV RX7 170 RX7 yX7_run wsX7_run) := goodIn_app (goodIn_of _ (by decide +kernel)) ggX7_step_X7_run
theorem dX7_step_0 : decode cX7_step 0 = .ok (.aload_n 0, 1) := by decide +kernel
theorem dX7_step_1 : decode cX7_step 1 = .ok (.lload_n 1, 1) := by decide +kernel
theorem dX7_step_2 : decode cX7_step 2 = .ok (.iconst 1, 1) := by decide +kernel
theorem dX7_step_3 : decode cX7_step 3 = .ok (.invokevirtual 170, 3) := by decide +kernel
theorem dX7_step_6 : decode cX7_step 6 = .ok (.lreturn, 1) := by decide +kernel
set_option maxRecDepth 20000 in
theorem ggX7_run_X7_refuseWrongStart : GoodIn wsX7_run wsX7_refuseWrongStart := goodIn_ca (goodIn_ca (goodIn_ca (goodIn_r _ [11, 12, 13, 14, 15, 3, 4, 16, 17, 18, 10, 19, 20, 21, 22, 23, 24, 25, 93, 94, 95, 96, 97, 98, 99, 100, 101, 102, 103, 104, 105, 106, 107] (by decide +kernel) (by decide +kernel)) (goodIn_sub (fun _ h => List.mem_cons_of_mem _ (List.mem_append_left _ (List.mem_append_left _ (List.mem_append_right _ h)))) (by decide +kernel))) (goodIn_sub (fun _ h => List.mem_cons_of_mem _ (List.mem_append_left _ (List.mem_append_right _ h))) (by decide +kernel))) (goodIn_sub (fun _ h => List.mem_cons_of_mem _ (List.mem_append_left _ (List.mem_append_left _ (List.mem_append_left _ (List.mem_append_right _ h))))) (by decide +kernel))
set_option maxRecDepth 20000 in
theorem gX7_run_X7_refuseWrongStart : GoodIn wsX7_run (wsV RX7 174 RX7 yX7_refuseWrongStart wsX7_refuseWrongStart) := goodIn_app (goodIn_of _ (by decide +kernel)) ggX7_run_X7_refuseWrongStart
set_option maxRecDepth 20000 in
theorem ggX7_run_X7_isNumber : GoodIn wsX7_run wsX7_isNumber := goodIn_r _ [23, 24, 25] (by decide +kernel) (by decide +kernel)
set_option maxRecDepth 20000 in
theorem gX7_run_X7_isNumber : GoodIn wsX7_run (va_wsS RX7 178 yX7_isNumber wsX7_isNumber) := goodIn_app (goodIn_of _ (by decide +kernel)) ggX7_run_X7_isNumber
set_option maxRecDepth 20000 in
theorem ggX7_run_X7_after : GoodIn wsX7_run wsX7_after := goodIn_ca (goodIn_r _ [29, 16, 30, 31, 32, 33, 34, 35, 36, 37, 38, 39, 40, 41, 42, 43, 44, 45, 46, 47, 48, 49, 50, 51, 52, 53, 54, 55, 56, 57, 58, 59, 60, 61, 62, 63, 64, 65, 22, 10, 23, 24, 25, 66, 67, 68, 69, 70, 71, 72, 73, 74, 75, 76, 77, 78, 79, 80, 81, 82, 83, 84, 85, 86, 87, 88, 89, 90, 91, 92, 93, 94, 95, 96, 97, 98, 99, 100, 101, 102, 103, 104, 105, 106, 107, 108, 109, 110, 111, 112, 113, 114] (by decide +kernel) (by decide +kernel)) (goodIn_sub (fun _ h => List.mem_cons_of_mem _ (List.mem_append_right _ h)) (by decide +kernel))
set_option maxRecDepth 20000 in
theorem gX7_run_X7_after : GoodIn wsX7_run (wsV RX7 182 RX7 yX7_after wsX7_after) := goodIn_app (goodIn_of _ (by decide +kernel)) ggX7_run_X7_after
theorem dX7_run_0 : decode cX7_run 0 = .ok (.aload_n 0, 1) := by decide +kernel
theorem dX7_run_1 : decode cX7_run 1 = .ok (.lload_n 1, 1) := by decide +kernel
theorem dX7_run_2 : decode cX7_run 2 = .ok (.iload_n 3, 1) := by decide +kernel
theorem dX7_run_3 : decode cX7_run 3 = .ok (.invokevirtual 174, 3) := by decide +kernel
theorem dX7_run_6 : decode cX7_run 6 = .ok (.lload_n 1, 1) := by decide +kernel
theorem dX7_run_7 : decode cX7_run 7 = .ok (.lstore 4, 2) := by decide +kernel
theorem dX7_run_9 : decode cX7_run 9 = .ok (.iconst 0, 1) := by decide +kernel
theorem dX7_run_10 : decode cX7_run 10 = .ok (.istore 6, 2) := by decide +kernel
theorem dX7_run_12 : decode cX7_run 12 = .ok (.iload 6, 2) := by decide +kernel
theorem dX7_run_14 : decode cX7_run 14 = .ok (.iload_n 3, 1) := by decide +kernel
theorem dX7_run_15 : decode cX7_run 15 = .ok (.if_icmp .ge 25, 3) := by decide +kernel
theorem dX7_run_18 : decode cX7_run 18 = .ok (.lload 4, 2) := by decide +kernel
theorem dX7_run_20 : decode cX7_run 20 = .ok (.invokestatic 178, 3) := by decide +kernel
theorem dX7_run_23 : decode cX7_run 23 = .ok (.ifCond .eq 17, 3) := by decide +kernel
theorem dX7_run_26 : decode cX7_run 26 = .ok (.aload_n 0, 1) := by decide +kernel
theorem dX7_run_27 : decode cX7_run 27 = .ok (.lload 4, 2) := by decide +kernel
theorem dX7_run_29 : decode cX7_run 29 = .ok (.invokevirtual 182, 3) := by decide +kernel
theorem dX7_run_32 : decode cX7_run 32 = .ok (.lstore 4, 2) := by decide +kernel
theorem dX7_run_34 : decode cX7_run 34 = .ok (.iinc 6 1, 3) := by decide +kernel
theorem dX7_run_37 : decode cX7_run 37 = .ok (.goto (-25), 3) := by decide +kernel
theorem dX7_run_40 : decode cX7_run 40 = .ok (.lload 4, 2) := by decide +kernel
theorem dX7_run_42 : decode cX7_run 42 = .ok (.ldc2_w 186, 3) := by decide +kernel
theorem dX7_run_45 : decode cX7_run 45 = .ok (.lcmp, 1) := by decide +kernel
theorem dX7_run_46 : decode cX7_run 46 = .ok (.ifCond .ne 13, 3) := by decide +kernel
theorem dX7_run_49 : decode cX7_run 49 = .ok (.new 165, 3) := by decide +kernel
theorem dX7_run_52 : decode cX7_run 52 = .ok (.dup, 1) := by decide +kernel
theorem dX7_run_53 : decode cX7_run 53 = .ok (.ldc 188, 2) := by decide +kernel
theorem dX7_run_55 : decode cX7_run 55 = .ok (.invokespecial 169, 3) := by decide +kernel
theorem dX7_run_58 : decode cX7_run 58 = .ok (.athrow, 1) := by decide +kernel
theorem dX7_run_59 : decode cX7_run 59 = .ok (.lload 4, 2) := by decide +kernel
theorem dX7_run_61 : decode cX7_run 61 = .ok (.ldc2_w 190, 3) := by decide +kernel
theorem dX7_run_64 : decode cX7_run 64 = .ok (.lcmp, 1) := by decide +kernel
theorem dX7_run_65 : decode cX7_run 65 = .ok (.ifCond .ne 13, 3) := by decide +kernel
theorem dX7_run_68 : decode cX7_run 68 = .ok (.new 192, 3) := by decide +kernel
theorem dX7_run_71 : decode cX7_run 71 = .ok (.dup, 1) := by decide +kernel
theorem dX7_run_72 : decode cX7_run 72 = .ok (.ldc 194, 2) := by decide +kernel
theorem dX7_run_74 : decode cX7_run 74 = .ok (.invokespecial 196, 3) := by decide +kernel
theorem dX7_run_77 : decode cX7_run 77 = .ok (.athrow, 1) := by decide +kernel
theorem dX7_run_78 : decode cX7_run 78 = .ok (.lload 4, 2) := by decide +kernel
theorem dX7_run_80 : decode cX7_run 80 = .ok (.lreturn, 1) := by decide +kernel
set_option maxRecDepth 20000 in
theorem ggX7_until_X7_isNumber : GoodIn wsX7_until wsX7_isNumber := goodIn_r _ [5, 6, 7] (by decide +kernel) (by decide +kernel)
set_option maxRecDepth 20000 in
theorem gX7_until_X7_isNumber : GoodIn wsX7_until (va_wsS RX7 178 yX7_isNumber wsX7_isNumber) := goodIn_app (goodIn_of _ (by decide +kernel)) ggX7_until_X7_isNumber
set_option maxRecDepth 20000 in
theorem ggX7_until_X7_isStepCount : GoodIn wsX7_until wsX7_isStepCount := goodIn_r _ [10, 11] (by decide +kernel) (by decide +kernel)
set_option maxRecDepth 20000 in
theorem gX7_until_X7_isStepCount : GoodIn wsX7_until (va_wsS RX7 197 yX7_isStepCount wsX7_isStepCount) := goodIn_app (goodIn_of _ (by decide +kernel)) ggX7_until_X7_isStepCount
set_option maxRecDepth 20000 in
theorem ggX7_until_X7_after : GoodIn wsX7_until wsX7_after := goodIn_ca (goodIn_r _ [15, 1, 16, 17, 18, 19, 20, 21, 22, 23, 24, 25, 26, 27, 28, 29, 30, 31, 32, 33, 34, 35, 36, 37, 38, 39, 40, 41, 42, 43, 44, 45, 46, 47, 48, 49, 50, 51, 3, 4, 5, 6, 7, 52, 53, 54, 55, 56, 57, 58, 59, 60, 61, 62, 63, 64, 65, 66, 67, 68, 69, 70, 71, 72, 73, 74, 75, 76, 77, 78, 79, 80, 81, 82, 83, 84, 85, 86, 87, 88, 89, 90, 91, 92, 93, 94, 95, 96, 97, 98, 99, 100] (by decide +kernel) (by decide +kernel)) (goodIn_sub (fun _ h => List.mem_cons_of_mem _ (List.mem_append_right _ h)) (by decide +kernel))
set_option maxRecDepth 20000 in
theorem gX7_until_X7_after : GoodIn wsX7_until (wsV RX7 182 RX7 yX7_after wsX7_after) := goodIn_app (goodIn_of _ (by decide +kernel)) ggX7_until_X7_after
theorem dX7_until_0 : decode cX7_until 0 = .ok (.aload_n 0, 1) := by decide +kernel
theorem dX7_until_1 : decode cX7_until 1 = .ok (.getfield 9, 3) := by decide +kernel
theorem dX7_until_4 : decode cX7_until 4 = .ok (.ifCond .eq 25, 3) := by decide +kernel
theorem dX7_until_7 : decode cX7_until 7 = .ok (.lload_n 1, 1) := by decide +kernel
theorem dX7_until_8 : decode cX7_until 8 = .ok (.invokestatic 178, 3) := by decide +kernel
theorem dX7_until_11 : decode cX7_until 11 = .ok (.ifCond .eq 18, 3) := by decide +kernel
theorem dX7_until_14 : decode cX7_until 14 = .ok (.lload_n 3, 1) := by decide +kernel
theorem dX7_until_15 : decode cX7_until 15 = .ok (.invokestatic 178, 3) := by decide +kernel
theorem dX7_until_18 : decode cX7_until 18 = .ok (.ifCond .eq 11, 3) := by decide +kernel
theorem dX7_until_21 : decode cX7_until 21 = .ok (.iload 5, 2) := by decide +kernel
theorem dX7_until_23 : decode cX7_until 23 = .ok (.invokestatic 197, 3) := by decide +kernel
theorem dX7_until_26 : decode cX7_until 26 = .ok (.ifCond .ne 5, 3) := by decide +kernel
theorem dX7_until_29 : decode cX7_until 29 = .ok (.iconst (-1), 1) := by decide +kernel
theorem dX7_until_30 : decode cX7_until 30 = .ok (.ireturn, 1) := by decide +kernel
theorem dX7_until_31 : decode cX7_until 31 = .ok (.lload_n 1, 1) := by decide +kernel
theorem dX7_until_32 : decode cX7_until 32 = .ok (.lload_n 3, 1) := by decide +kernel
theorem dX7_until_33 : decode cX7_until 33 = .ok (.lcmp, 1) := by decide +kernel
theorem dX7_until_34 : decode cX7_until 34 = .ok (.ifCond .ne 5, 3) := by decide +kernel
theorem dX7_until_37 : decode cX7_until 37 = .ok (.iconst 0, 1) := by decide +kernel
theorem dX7_until_38 : decode cX7_until 38 = .ok (.ireturn, 1) := by decide +kernel
theorem dX7_until_39 : decode cX7_until 39 = .ok (.lload_n 1, 1) := by decide +kernel
theorem dX7_until_40 : decode cX7_until 40 = .ok (.lstore 6, 2) := by decide +kernel
theorem dX7_until_42 : decode cX7_until 42 = .ok (.iconst 1, 1) := by decide +kernel
theorem dX7_until_43 : decode cX7_until 43 = .ok (.istore 8, 2) := by decide +kernel
theorem dX7_until_45 : decode cX7_until 45 = .ok (.iload 8, 2) := by decide +kernel
theorem dX7_until_47 : decode cX7_until 47 = .ok (.iload 5, 2) := by decide +kernel
theorem dX7_until_49 : decode cX7_until 49 = .ok (.if_icmp .gt 37, 3) := by decide +kernel
theorem dX7_until_52 : decode cX7_until 52 = .ok (.aload_n 0, 1) := by decide +kernel
theorem dX7_until_53 : decode cX7_until 53 = .ok (.lload 6, 2) := by decide +kernel
theorem dX7_until_55 : decode cX7_until 55 = .ok (.invokevirtual 182, 3) := by decide +kernel
theorem dX7_until_58 : decode cX7_until 58 = .ok (.lstore 6, 2) := by decide +kernel
theorem dX7_until_60 : decode cX7_until 60 = .ok (.lload 6, 2) := by decide +kernel
theorem dX7_until_62 : decode cX7_until 62 = .ok (.invokestatic 178, 3) := by decide +kernel
theorem dX7_until_65 : decode cX7_until 65 = .ok (.ifCond .ne 5, 3) := by decide +kernel
theorem dX7_until_68 : decode cX7_until 68 = .ok (.iconst (-1), 1) := by decide +kernel
theorem dX7_until_69 : decode cX7_until 69 = .ok (.ireturn, 1) := by decide +kernel
theorem dX7_until_70 : decode cX7_until 70 = .ok (.lload 6, 2) := by decide +kernel
theorem dX7_until_72 : decode cX7_until 72 = .ok (.lload_n 3, 1) := by decide +kernel
theorem dX7_until_73 : decode cX7_until 73 = .ok (.lcmp, 1) := by decide +kernel
theorem dX7_until_74 : decode cX7_until 74 = .ok (.ifCond .ne 6, 3) := by decide +kernel
theorem dX7_until_77 : decode cX7_until 77 = .ok (.iload 8, 2) := by decide +kernel
theorem dX7_until_79 : decode cX7_until 79 = .ok (.ireturn, 1) := by decide +kernel
theorem dX7_until_80 : decode cX7_until 80 = .ok (.iinc 8 1, 3) := by decide +kernel
theorem dX7_until_83 : decode cX7_until 83 = .ok (.goto (-38), 3) := by decide +kernel
theorem dX7_until_86 : decode cX7_until 86 = .ok (.bipush (-2), 2) := by decide +kernel
theorem dX7_until_88 : decode cX7_until 88 = .ok (.ireturn, 1) := by decide +kernel
set_option maxRecDepth 20000 in
theorem ggX7_height_X7_isNumber : GoodIn wsX7_height wsX7_isNumber := goodIn_r _ [5, 6, 7] (by decide +kernel) (by decide +kernel)
set_option maxRecDepth 20000 in
theorem gX7_height_X7_isNumber : GoodIn wsX7_height (va_wsS RX7 178 yX7_isNumber wsX7_isNumber) := goodIn_app (goodIn_of _ (by decide +kernel)) ggX7_height_X7_isNumber
set_option maxRecDepth 20000 in
theorem ggX7_height_X7_isStepCount : GoodIn wsX7_height wsX7_isStepCount := goodIn_r _ [10, 11] (by decide +kernel) (by decide +kernel)
set_option maxRecDepth 20000 in
theorem gX7_height_X7_isStepCount : GoodIn wsX7_height (va_wsS RX7 197 yX7_isStepCount wsX7_isStepCount) := goodIn_app (goodIn_of _ (by decide +kernel)) ggX7_height_X7_isStepCount
set_option maxRecDepth 20000 in
theorem ggX7_height_X7_stepsTillBelow : GoodIn wsX7_height wsX7_stepsTillBelow := goodIn_ca (goodIn_r _ [15, 16, 17, 18, 4, 19, 1, 20, 21, 22, 23, 24, 25, 26, 27, 28, 29, 30, 31, 32, 33, 34, 35, 36, 37, 38, 39, 40, 41, 42, 43, 44, 45, 46, 47, 48, 49, 50, 51, 52, 53, 54, 55, 3, 5, 6, 7, 56, 57, 58, 59, 60, 61, 62, 63, 64, 65, 66, 67, 68, 69, 70, 71, 72, 73, 74, 75, 76, 77, 78, 79, 80, 81, 82, 2, 83, 84, 85, 86, 87, 88, 89, 90, 91, 92, 93, 94, 95, 96, 97, 98, 99, 100, 101, 102, 103, 104] (by decide +kernel) (by decide +kernel)) (goodIn_sub (fun _ h => List.mem_cons_of_mem _ (List.mem_append_right _ h)) (by decide +kernel))
set_option maxRecDepth 20000 in
theorem gX7_height_X7_stepsTillBelow : GoodIn wsX7_height (wsV RX7 200 RX7 yX7_stepsTillBelow wsX7_stepsTillBelow) := goodIn_app (goodIn_of _ (by decide +kernel)) ggX7_height_X7_stepsTillBelow
theorem dX7_height_0 : decode cX7_height 0 = .ok (.aload_n 0, 1) := by decide +kernel
theorem dX7_height_1 : decode cX7_height 1 = .ok (.getfield 9, 3) := by decide +kernel
theorem dX7_height_4 : decode cX7_height 4 = .ok (.ifCond .eq 17, 3) := by decide +kernel
theorem dX7_height_7 : decode cX7_height 7 = .ok (.lload_n 1, 1) := by decide +kernel
theorem dX7_height_8 : decode cX7_height 8 = .ok (.invokestatic 178, 3) := by decide +kernel
theorem dX7_height_11 : decode cX7_height 11 = .ok (.ifCond .eq 10, 3) := by decide +kernel
theorem dX7_height_14 : decode cX7_height 14 = .ok (.iload_n 3, 1) := by decide +kernel
theorem dX7_height_15 : decode cX7_height 15 = .ok (.invokestatic 197, 3) := by decide +kernel
theorem dX7_height_18 : decode cX7_height 18 = .ok (.ifCond .ne 5, 3) := by decide +kernel
theorem dX7_height_21 : decode cX7_height 21 = .ok (.iconst (-1), 1) := by decide +kernel
theorem dX7_height_22 : decode cX7_height 22 = .ok (.ireturn, 1) := by decide +kernel
theorem dX7_height_23 : decode cX7_height 23 = .ok (.aload_n 0, 1) := by decide +kernel
theorem dX7_height_24 : decode cX7_height 24 = .ok (.lload_n 1, 1) := by decide +kernel
theorem dX7_height_25 : decode cX7_height 25 = .ok (.iload_n 3, 1) := by decide +kernel
theorem dX7_height_26 : decode cX7_height 26 = .ok (.invokevirtual 200, 3) := by decide +kernel
theorem dX7_height_29 : decode cX7_height 29 = .ok (.ireturn, 1) := by decide +kernel
set_option maxRecDepth 20000 in
theorem ggX7_peak_X7_refuseWrongStart : GoodIn wsX7_peak wsX7_refuseWrongStart := goodIn_ca (goodIn_ca (goodIn_ca (goodIn_r _ [9, 10, 11, 12, 13, 14, 15, 16, 17, 18, 8, 19, 20, 21, 22, 23, 24, 25, 93, 94, 95, 96, 97, 98, 99, 100, 101, 102, 103, 104, 105, 106, 107] (by decide +kernel) (by decide +kernel)) (goodIn_sub (fun _ h => List.mem_cons_of_mem _ (List.mem_append_left _ (List.mem_append_left _ (List.mem_append_left _ (List.mem_append_right _ h))))) (by decide +kernel))) (goodIn_sub (fun _ h => List.mem_cons_of_mem _ (List.mem_append_left _ (List.mem_append_left _ (List.mem_append_right _ h)))) (by decide +kernel))) (goodIn_sub (fun _ h => List.mem_cons_of_mem _ (List.mem_append_left _ (List.mem_append_right _ h))) (by decide +kernel))
set_option maxRecDepth 20000 in
theorem gX7_peak_X7_refuseWrongStart : GoodIn wsX7_peak (wsV RX7 174 RX7 yX7_refuseWrongStart wsX7_refuseWrongStart) := goodIn_app (goodIn_of _ (by decide +kernel)) ggX7_peak_X7_refuseWrongStart
set_option maxRecDepth 20000 in
theorem ggX7_peak_X7_after : GoodIn wsX7_peak wsX7_after := goodIn_ca (goodIn_r _ [29, 16, 30, 31, 32, 33, 34, 35, 36, 37, 38, 39, 40, 41, 42, 43, 44, 45, 46, 47, 48, 49, 50, 51, 52, 53, 54, 55, 56, 57, 58, 59, 60, 61, 62, 63, 64, 65, 22, 8, 23, 24, 25, 66, 67, 68, 69, 70, 71, 72, 73, 74, 75, 76, 77, 78, 79, 80, 81, 82, 83, 84, 85, 86, 87, 88, 89, 90, 91, 92, 93, 94, 95, 96, 97, 98, 99, 100, 101, 102, 103, 104, 105, 106, 107, 108, 109, 110, 111, 112, 113, 114] (by decide +kernel) (by decide +kernel)) (goodIn_sub (fun _ h => List.mem_cons_of_mem _ (List.mem_append_right _ h)) (by decide +kernel))
set_option maxRecDepth 20000 in
theorem gX7_peak_X7_after : GoodIn wsX7_peak (wsV RX7 182 RX7 yX7_after wsX7_after) := goodIn_app (goodIn_of _ (by decide +kernel)) ggX7_peak_X7_after
set_option maxRecDepth 20000 in
theorem ggX7_peak_X7_isNumber : GoodIn wsX7_peak wsX7_isNumber := goodIn_r _ [23, 24, 25] (by decide +kernel) (by decide +kernel)
set_option maxRecDepth 20000 in
theorem gX7_peak_X7_isNumber : GoodIn wsX7_peak (va_wsS RX7 178 yX7_isNumber wsX7_isNumber) := goodIn_app (goodIn_of _ (by decide +kernel)) ggX7_peak_X7_isNumber
theorem dX7_peak_0 : decode cX7_peak 0 = .ok (.aload_n 0, 1) := by decide +kernel
theorem dX7_peak_1 : decode cX7_peak 1 = .ok (.lload_n 1, 1) := by decide +kernel
theorem dX7_peak_2 : decode cX7_peak 2 = .ok (.iload_n 3, 1) := by decide +kernel
theorem dX7_peak_3 : decode cX7_peak 3 = .ok (.invokevirtual 174, 3) := by decide +kernel
theorem dX7_peak_6 : decode cX7_peak 6 = .ok (.lload_n 1, 1) := by decide +kernel
theorem dX7_peak_7 : decode cX7_peak 7 = .ok (.lstore 4, 2) := by decide +kernel
theorem dX7_peak_9 : decode cX7_peak 9 = .ok (.lload_n 1, 1) := by decide +kernel
theorem dX7_peak_10 : decode cX7_peak 10 = .ok (.lstore 6, 2) := by decide +kernel
theorem dX7_peak_12 : decode cX7_peak 12 = .ok (.iconst 0, 1) := by decide +kernel
theorem dX7_peak_13 : decode cX7_peak 13 = .ok (.istore 8, 2) := by decide +kernel
theorem dX7_peak_15 : decode cX7_peak 15 = .ok (.iload 8, 2) := by decide +kernel
theorem dX7_peak_17 : decode cX7_peak 17 = .ok (.iload_n 3, 1) := by decide +kernel
theorem dX7_peak_18 : decode cX7_peak 18 = .ok (.if_icmp .ge 37, 3) := by decide +kernel
theorem dX7_peak_21 : decode cX7_peak 21 = .ok (.aload_n 0, 1) := by decide +kernel
theorem dX7_peak_22 : decode cX7_peak 22 = .ok (.lload 6, 2) := by decide +kernel
theorem dX7_peak_24 : decode cX7_peak 24 = .ok (.invokevirtual 182, 3) := by decide +kernel
theorem dX7_peak_27 : decode cX7_peak 27 = .ok (.lstore 6, 2) := by decide +kernel
theorem dX7_peak_29 : decode cX7_peak 29 = .ok (.lload 6, 2) := by decide +kernel
theorem dX7_peak_31 : decode cX7_peak 31 = .ok (.invokestatic 178, 3) := by decide +kernel
theorem dX7_peak_34 : decode cX7_peak 34 = .ok (.ifCond .ne 6, 3) := by decide +kernel
theorem dX7_peak_37 : decode cX7_peak 37 = .ok (.lload 4, 2) := by decide +kernel
theorem dX7_peak_39 : decode cX7_peak 39 = .ok (.lreturn, 1) := by decide +kernel
theorem dX7_peak_40 : decode cX7_peak 40 = .ok (.lload 4, 2) := by decide +kernel
theorem dX7_peak_42 : decode cX7_peak 42 = .ok (.lload 6, 2) := by decide +kernel
theorem dX7_peak_44 : decode cX7_peak 44 = .ok (.invokestatic 204, 3) := by decide +kernel
theorem dX7_peak_47 : decode cX7_peak 47 = .ok (.lstore 4, 2) := by decide +kernel
theorem dX7_peak_49 : decode cX7_peak 49 = .ok (.iinc 8 1, 3) := by decide +kernel
theorem dX7_peak_52 : decode cX7_peak 52 = .ok (.goto (-37), 3) := by decide +kernel
theorem dX7_peak_55 : decode cX7_peak 55 = .ok (.lload 4, 2) := by decide +kernel
theorem dX7_peak_57 : decode cX7_peak 57 = .ok (.lreturn, 1) := by decide +kernel
set_option maxRecDepth 20000 in
theorem ggX7_word_X7_isNumber : GoodIn wsX7_word wsX7_isNumber := goodIn_r _ [8, 9, 10] (by decide +kernel) (by decide +kernel)
set_option maxRecDepth 20000 in
theorem gX7_word_X7_isNumber : GoodIn wsX7_word (va_wsS RX7 178 yX7_isNumber wsX7_isNumber) := goodIn_app (goodIn_of _ (by decide +kernel)) ggX7_word_X7_isNumber
set_option maxRecDepth 20000 in
theorem ggX7_word_X2_empty : GoodIn wsX7_word wsX2_empty := goodIn_r _ [15, 16, 127, 128] (by decide +kernel) (by decide +kernel)
set_option maxRecDepth 20000 in
theorem gX7_word_X2_empty : GoodIn wsX7_word (wsV RX7 208 RX2 yX2_empty wsX2_empty) := goodIn_app (goodIn_of _ (by decide +kernel)) ggX7_word_X2_empty
set_option maxRecDepth 20000 in
theorem ggX7_word_X7_after : GoodIn wsX7_word wsX7_after := goodIn_ca (goodIn_r _ [20, 1, 21, 22, 23, 24, 25, 26, 27, 28, 29, 30, 31, 32, 33, 34, 35, 36, 37, 38, 39, 40, 41, 42, 43, 44, 45, 46, 47, 48, 49, 50, 51, 52, 53, 54, 55, 56, 6, 7, 8, 9, 10, 57, 58, 59, 60, 61, 62, 63, 64, 65, 66, 67, 68, 69, 70, 71, 72, 73, 74, 75, 76, 77, 78, 79, 80, 81, 82, 83, 112, 113, 114, 115, 116, 117, 118, 119, 120, 121, 122, 123, 124, 125, 126, 129, 130, 131, 132, 133, 134, 135] (by decide +kernel) (by decide +kernel)) (goodIn_sub (fun _ h => List.mem_cons_of_mem _ (List.mem_append_right _ h)) (by decide +kernel))
set_option maxRecDepth 20000 in
theorem gX7_word_X7_after : GoodIn wsX7_word (wsV RX7 182 RX7 yX7_after wsX7_after) := goodIn_app (goodIn_of _ (by decide +kernel)) ggX7_word_X7_after
set_option maxRecDepth 20000 in
theorem ggX7_word_X7_signOf : GoodIn wsX7_word wsX7_signOf := goodIn_ca (goodIn_r _ [87, 1, 21, 22, 88, 30, 31, 26, 32, 33, 34, 35, 36, 37, 89, 66, 67, 60, 68, 69, 70, 71, 72, 73, 74, 75, 76, 77, 78, 112, 113, 114, 115, 116, 117, 118, 119, 120, 121, 122, 123, 124, 125, 126, 129, 130, 131, 132, 133, 134, 135] (by decide +kernel) (by decide +kernel)) (goodIn_sub (fun _ h => List.mem_cons_of_mem _ (List.mem_append_right _ h)) (by decide +kernel))
set_option maxRecDepth 20000 in
theorem gX7_word_X7_signOf : GoodIn wsX7_word (wsV RX7 209 RX7 yX7_signOf wsX7_signOf) := goodIn_app (goodIn_of _ (by decide +kernel)) ggX7_word_X7_signOf
set_option maxRecDepth 20000 in
theorem ggX7_word_X2_add : GoodIn wsX7_word wsX2_add := goodIn_r _ [93, 16, 94, 127, 128] (by decide +kernel) (by decide +kernel)
set_option maxRecDepth 20000 in
theorem gX7_word_X2_add : GoodIn wsX7_word (wsV RX7 213 RX2 yX2_add wsX2_add) := goodIn_app (goodIn_of _ (by decide +kernel)) ggX7_word_X2_add
set_option maxRecDepth 20000 in
theorem ggX7_word_X2_become : GoodIn wsX7_word wsX2_become := goodIn_r _ [98, 16, 99, 100, 101, 14, 102, 94, 103, 104, 105, 106, 107, 91, 92, 93, 127, 128] (by decide +kernel) (by decide +kernel)
set_option maxRecDepth 20000 in
theorem gX7_word_X2_become : GoodIn wsX7_word (wsV RX7 215 RX2 yX2_become wsX2_become) := goodIn_app (goodIn_of _ (by decide +kernel)) ggX7_word_X2_become
set_option maxRecDepth 20000 in
theorem ggX7_word_X2_size : GoodIn wsX7_word wsX2_size := goodIn_r _ [111, 16, 127, 128] (by decide +kernel) (by decide +kernel)
set_option maxRecDepth 20000 in
theorem gX7_word_X2_size : GoodIn wsX7_word (wsV RX7 149 RX2 yX2_size wsX2_size) := goodIn_app (goodIn_of _ (by decide +kernel)) ggX7_word_X2_size
theorem dX7_word_0 : decode cX7_word 0 = .ok (.aload_n 0, 1) := by decide +kernel
theorem dX7_word_1 : decode cX7_word 1 = .ok (.getfield 9, 3) := by decide +kernel
theorem dX7_word_4 : decode cX7_word 4 = .ok (.ifCond .eq 21, 3) := by decide +kernel
theorem dX7_word_7 : decode cX7_word 7 = .ok (.lload_n 1, 1) := by decide +kernel
theorem dX7_word_8 : decode cX7_word 8 = .ok (.invokestatic 178, 3) := by decide +kernel
theorem dX7_word_11 : decode cX7_word 11 = .ok (.ifCond .eq 14, 3) := by decide +kernel
theorem dX7_word_14 : decode cX7_word 14 = .ok (.iload_n 3, 1) := by decide +kernel
theorem dX7_word_15 : decode cX7_word 15 = .ok (.iconst 1, 1) := by decide +kernel
theorem dX7_word_16 : decode cX7_word 16 = .ok (.if_icmp .lt 9, 3) := by decide +kernel
theorem dX7_word_19 : decode cX7_word 19 = .ok (.iload_n 3, 1) := by decide +kernel
theorem dX7_word_20 : decode cX7_word 20 = .ok (.bipush 40, 2) := by decide +kernel
theorem dX7_word_22 : decode cX7_word 22 = .ok (.if_icmp .le 5, 3) := by decide +kernel
theorem dX7_word_25 : decode cX7_word 25 = .ok (.iconst (-1), 1) := by decide +kernel
theorem dX7_word_26 : decode cX7_word 26 = .ok (.ireturn, 1) := by decide +kernel
theorem dX7_word_27 : decode cX7_word 27 = .ok (.aload_n 0, 1) := by decide +kernel
theorem dX7_word_28 : decode cX7_word 28 = .ok (.getfield 49, 3) := by decide +kernel
theorem dX7_word_31 : decode cX7_word 31 = .ok (.invokevirtual 208, 3) := by decide +kernel
theorem dX7_word_34 : decode cX7_word 34 = .ok (.lload_n 1, 1) := by decide +kernel
theorem dX7_word_35 : decode cX7_word 35 = .ok (.lstore 4, 2) := by decide +kernel
theorem dX7_word_37 : decode cX7_word 37 = .ok (.iconst 0, 1) := by decide +kernel
theorem dX7_word_38 : decode cX7_word 38 = .ok (.istore 6, 2) := by decide +kernel
theorem dX7_word_40 : decode cX7_word 40 = .ok (.iload 6, 2) := by decide +kernel
theorem dX7_word_42 : decode cX7_word 42 = .ok (.iload_n 3, 1) := by decide +kernel
theorem dX7_word_43 : decode cX7_word 43 = .ok (.if_icmp .ge 60, 3) := by decide +kernel
theorem dX7_word_46 : decode cX7_word 46 = .ok (.iload 6, 2) := by decide +kernel
theorem dX7_word_48 : decode cX7_word 48 = .ok (.ifCond .le 11, 3) := by decide +kernel
theorem dX7_word_51 : decode cX7_word 51 = .ok (.aload_n 0, 1) := by decide +kernel
theorem dX7_word_52 : decode cX7_word 52 = .ok (.lload 4, 2) := by decide +kernel
theorem dX7_word_54 : decode cX7_word 54 = .ok (.invokevirtual 182, 3) := by decide +kernel
theorem dX7_word_57 : decode cX7_word 57 = .ok (.lstore 4, 2) := by decide +kernel
theorem dX7_word_59 : decode cX7_word 59 = .ok (.lload 4, 2) := by decide +kernel
theorem dX7_word_61 : decode cX7_word 61 = .ok (.ldc2_w 190, 3) := by decide +kernel
theorem dX7_word_64 : decode cX7_word 64 = .ok (.lcmp, 1) := by decide +kernel
theorem dX7_word_65 : decode cX7_word 65 = .ok (.ifCond .ne 5, 3) := by decide +kernel
theorem dX7_word_68 : decode cX7_word 68 = .ok (.iconst (-1), 1) := by decide +kernel
theorem dX7_word_69 : decode cX7_word 69 = .ok (.ireturn, 1) := by decide +kernel
theorem dX7_word_70 : decode cX7_word 70 = .ok (.aload_n 0, 1) := by decide +kernel
theorem dX7_word_71 : decode cX7_word 71 = .ok (.lload 4, 2) := by decide +kernel
theorem dX7_word_73 : decode cX7_word 73 = .ok (.invokevirtual 209, 3) := by decide +kernel
theorem dX7_word_76 : decode cX7_word 76 = .ok (.istore 7, 2) := by decide +kernel
theorem dX7_word_78 : decode cX7_word 78 = .ok (.iload 7, 2) := by decide +kernel
theorem dX7_word_80 : decode cX7_word 80 = .ok (.ifCond .ge 6, 3) := by decide +kernel
theorem dX7_word_83 : decode cX7_word 83 = .ok (.goto 20, 3) := by decide +kernel
theorem dX7_word_86 : decode cX7_word 86 = .ok (.aload_n 0, 1) := by decide +kernel
theorem dX7_word_87 : decode cX7_word 87 = .ok (.getfield 49, 3) := by decide +kernel
theorem dX7_word_90 : decode cX7_word 90 = .ok (.iload 7, 2) := by decide +kernel
theorem dX7_word_92 : decode cX7_word 92 = .ok (.i2l, 1) := by decide +kernel
theorem dX7_word_93 : decode cX7_word 93 = .ok (.invokevirtual 213, 3) := by decide +kernel
theorem dX7_word_96 : decode cX7_word 96 = .ok (.pop, 1) := by decide +kernel
theorem dX7_word_97 : decode cX7_word 97 = .ok (.iinc 6 1, 3) := by decide +kernel
theorem dX7_word_100 : decode cX7_word 100 = .ok (.goto (-60), 3) := by decide +kernel
theorem dX7_word_103 : decode cX7_word 103 = .ok (.aload_n 0, 1) := by decide +kernel
theorem dX7_word_104 : decode cX7_word 104 = .ok (.getfield 45, 3) := by decide +kernel
theorem dX7_word_107 : decode cX7_word 107 = .ok (.aload_n 0, 1) := by decide +kernel
theorem dX7_word_108 : decode cX7_word 108 = .ok (.getfield 49, 3) := by decide +kernel
theorem dX7_word_111 : decode cX7_word 111 = .ok (.invokevirtual 215, 3) := by decide +kernel
theorem dX7_word_114 : decode cX7_word 114 = .ok (.aload_n 0, 1) := by decide +kernel
theorem dX7_word_115 : decode cX7_word 115 = .ok (.getfield 45, 3) := by decide +kernel
theorem dX7_word_118 : decode cX7_word 118 = .ok (.invokevirtual 149, 3) := by decide +kernel
theorem dX7_word_121 : decode cX7_word 121 = .ok (.ireturn, 1) := by decide +kernel
set_option maxRecDepth 20000 in
theorem ggX7_rest_X2_add : GoodIn wsX7_rest wsX2_add := goodIn_r _ [6, 7, 8, 28, 29] (by decide +kernel) (by decide +kernel)
set_option maxRecDepth 20000 in
theorem gX7_rest_X2_add : GoodIn wsX7_rest (wsV RX7 213 RX2 yX2_add wsX2_add) := goodIn_app (goodIn_of _ (by decide +kernel)) ggX7_rest_X2_add
set_option maxRecDepth 20000 in
theorem ggX7_rest_X2_size : GoodIn wsX7_rest wsX2_size := goodIn_r _ [12, 7, 28, 29] (by decide +kernel) (by decide +kernel)
set_option maxRecDepth 20000 in
theorem gX7_rest_X2_size : GoodIn wsX7_rest (wsV RX7 149 RX2 yX2_size wsX2_size) := goodIn_app (goodIn_of _ (by decide +kernel)) ggX7_rest_X2_size
theorem dX7_rest_0 : decode cX7_rest 0 = .ok (.iload_n 1, 1) := by decide +kernel
theorem dX7_rest_1 : decode cX7_rest 1 = .ok (.ifCond .lt 9, 3) := by decide +kernel
theorem dX7_rest_4 : decode cX7_rest 4 = .ok (.iload_n 1, 1) := by decide +kernel
theorem dX7_rest_5 : decode cX7_rest 5 = .ok (.bipush 64, 2) := by decide +kernel
theorem dX7_rest_7 : decode cX7_rest 7 = .ok (.if_icmp .lt 5, 3) := by decide +kernel
theorem dX7_rest_10 : decode cX7_rest 10 = .ok (.iconst (-1), 1) := by decide +kernel
theorem dX7_rest_11 : decode cX7_rest 11 = .ok (.ireturn, 1) := by decide +kernel
theorem dX7_rest_12 : decode cX7_rest 12 = .ok (.aload_n 0, 1) := by decide +kernel
theorem dX7_rest_13 : decode cX7_rest 13 = .ok (.getfield 55, 3) := by decide +kernel
theorem dX7_rest_16 : decode cX7_rest 16 = .ok (.iload_n 1, 1) := by decide +kernel
theorem dX7_rest_17 : decode cX7_rest 17 = .ok (.i2l, 1) := by decide +kernel
theorem dX7_rest_18 : decode cX7_rest 18 = .ok (.invokevirtual 213, 3) := by decide +kernel
theorem dX7_rest_21 : decode cX7_rest 21 = .ok (.ifCond .eq 13, 3) := by decide +kernel
theorem dX7_rest_24 : decode cX7_rest 24 = .ok (.aload_n 0, 1) := by decide +kernel
theorem dX7_rest_25 : decode cX7_rest 25 = .ok (.getfield 55, 3) := by decide +kernel
theorem dX7_rest_28 : decode cX7_rest 28 = .ok (.invokevirtual 149, 3) := by decide +kernel
theorem dX7_rest_31 : decode cX7_rest 31 = .ok (.goto 4, 3) := by decide +kernel
theorem dX7_rest_34 : decode cX7_rest 34 = .ok (.iconst (-1), 1) := by decide +kernel
theorem dX7_rest_35 : decode cX7_rest 35 = .ok (.ireturn, 1) := by decide +kernel
set_option maxRecDepth 20000 in
theorem ggX7_clear_X2_size : GoodIn wsX7_clear wsX2_size := goodIn_r _ [6, 7, 27, 28] (by decide +kernel) (by decide +kernel)
set_option maxRecDepth 20000 in
theorem gX7_clear_X2_size : GoodIn wsX7_clear (wsV RX7 149 RX2 yX2_size wsX2_size) := goodIn_app (goodIn_of _ (by decide +kernel)) ggX7_clear_X2_size
set_option maxRecDepth 20000 in
theorem ggX7_clear_X2_empty : GoodIn wsX7_clear wsX2_empty := goodIn_r _ [11, 7, 27, 28] (by decide +kernel) (by decide +kernel)
set_option maxRecDepth 20000 in
theorem gX7_clear_X2_empty : GoodIn wsX7_clear (wsV RX7 208 RX2 yX2_empty wsX2_empty) := goodIn_app (goodIn_of _ (by decide +kernel)) ggX7_clear_X2_empty
theorem dX7_clear_0 : decode cX7_clear 0 = .ok (.aload_n 0, 1) := by decide +kernel
theorem dX7_clear_1 : decode cX7_clear 1 = .ok (.getfield 55, 3) := by decide +kernel
theorem dX7_clear_4 : decode cX7_clear 4 = .ok (.invokevirtual 149, 3) := by decide +kernel
theorem dX7_clear_7 : decode cX7_clear 7 = .ok (.istore_n 1, 1) := by decide +kernel
theorem dX7_clear_8 : decode cX7_clear 8 = .ok (.aload_n 0, 1) := by decide +kernel
theorem dX7_clear_9 : decode cX7_clear 9 = .ok (.getfield 55, 3) := by decide +kernel
theorem dX7_clear_12 : decode cX7_clear 12 = .ok (.invokevirtual 208, 3) := by decide +kernel
theorem dX7_clear_15 : decode cX7_clear 15 = .ok (.iload_n 1, 1) := by decide +kernel
theorem dX7_clear_16 : decode cX7_clear 16 = .ok (.ireturn, 1) := by decide +kernel
set_option maxRecDepth 20000 in
theorem ggX7_shape_X7_shapeTold : GoodIn wsX7_shape wsX7_shapeTold := goodIn_ca (goodIn_r _ [8, 9, 1, 10, 11, 12, 13, 14, 15, 16, 17, 18, 19, 20, 21, 22, 23, 24, 25, 26, 27, 28, 29, 30, 31, 32, 33, 34, 7, 35, 2, 36, 37, 38, 39, 40, 41, 42, 43, 44, 45, 46, 47, 48, 49, 50, 51, 52, 53, 54, 55, 56, 57, 58, 59, 60, 61, 62, 63, 64, 65, 66, 67, 68, 69, 70, 71, 72, 73, 74, 75, 76, 77, 78, 79, 80, 81, 82, 83, 105, 106, 107, 108, 109, 110, 111, 112, 113, 114, 115, 116, 117, 118, 119, 120, 121, 122, 123, 124, 125, 126, 127, 128] (by decide +kernel) (by decide +kernel)) (goodIn_sub (fun _ h => List.mem_cons_of_mem _ (List.mem_append_right _ h)) (by decide +kernel))
set_option maxRecDepth 20000 in
theorem gX7_shape_X7_shapeTold : GoodIn wsX7_shape (wsV RX7 218 RX7 yX7_shapeTold wsX7_shapeTold) := goodIn_app (goodIn_of _ (by decide +kernel)) ggX7_shape_X7_shapeTold
set_option maxRecDepth 20000 in
theorem ggX7_shape_X2_size : GoodIn wsX7_shape wsX2_size := goodIn_r _ [15, 16, 120, 121] (by decide +kernel) (by decide +kernel)
set_option maxRecDepth 20000 in
theorem gX7_shape_X2_size : GoodIn wsX7_shape (wsV RX7 149 RX2 yX2_size wsX2_size) := goodIn_app (goodIn_of _ (by decide +kernel)) ggX7_shape_X2_size
set_option maxRecDepth 20000 in
theorem ggX7_shape_X4_reduce : GoodIn wsX7_shape wsX4_reduce := goodIn_ca (goodIn_r _ [77, 41, 43, 42, 44, 45, 39, 46, 78, 7, 79, 80, 81, 82, 83, 126, 127, 128] (by decide +kernel) (by decide +kernel)) (goodIn_sub (fun _ h => List.mem_cons_of_mem _ (List.mem_append_right _ h)) (by decide +kernel))
set_option maxRecDepth 20000 in
theorem gX7_shape_X4_reduce : GoodIn wsX7_shape (wsV RX7 221 RX4 yX4_reduce wsX4_reduce) := goodIn_app (goodIn_of _ (by decide +kernel)) ggX7_shape_X4_reduce
set_option maxRecDepth 20000 in
theorem ggX7_shape_X2_empty : GoodIn wsX7_shape wsX2_empty := goodIn_r _ [88, 16, 120, 121] (by decide +kernel) (by decide +kernel)
set_option maxRecDepth 20000 in
theorem gX7_shape_X2_empty : GoodIn wsX7_shape (wsV RX7 208 RX2 yX2_empty wsX2_empty) := goodIn_app (goodIn_of _ (by decide +kernel)) ggX7_shape_X2_empty
set_option maxRecDepth 20000 in
theorem ggX7_shape_X4_factor : GoodIn wsX7_shape wsX4_factor := goodIn_r _ [92, 41, 44, 45, 39, 46, 126, 127, 128] (by decide +kernel) (by decide +kernel)
set_option maxRecDepth 20000 in
theorem gX7_shape_X4_factor : GoodIn wsX7_shape (wsV RX7 224 RX4 yX4_factor wsX4_factor) := goodIn_app (goodIn_of _ (by decide +kernel)) ggX7_shape_X4_factor
set_option maxRecDepth 20000 in
theorem ggX7_shape_X2_add : GoodIn wsX7_shape wsX2_add := goodIn_r _ [96, 16, 21, 120, 121] (by decide +kernel) (by decide +kernel)
set_option maxRecDepth 20000 in
theorem gX7_shape_X2_add : GoodIn wsX7_shape (wsV RX7 213 RX2 yX2_add wsX2_add) := goodIn_app (goodIn_of _ (by decide +kernel)) ggX7_shape_X2_add
set_option maxRecDepth 20000 in
theorem ggX7_shape_X4_addend : GoodIn wsX7_shape wsX4_addend := goodIn_r _ [100, 42, 44, 45, 39, 46, 126, 127, 128] (by decide +kernel) (by decide +kernel)
set_option maxRecDepth 20000 in
theorem gX7_shape_X4_addend : GoodIn wsX7_shape (wsV RX7 227 RX4 yX4_addend wsX4_addend) := goodIn_app (goodIn_of _ (by decide +kernel)) ggX7_shape_X4_addend
set_option maxRecDepth 20000 in
theorem ggX7_shape_X4_divisor : GoodIn wsX7_shape wsX4_divisor := goodIn_r _ [104, 43, 44, 45, 39, 46, 126, 127, 128] (by decide +kernel) (by decide +kernel)
set_option maxRecDepth 20000 in
theorem gX7_shape_X4_divisor : GoodIn wsX7_shape (wsV RX7 230 RX4 yX4_divisor wsX4_divisor) := goodIn_app (goodIn_of _ (by decide +kernel)) ggX7_shape_X4_divisor
theorem dX7_shape_0 : decode cX7_shape 0 = .ok (.aload_n 0, 1) := by decide +kernel
theorem dX7_shape_1 : decode cX7_shape 1 = .ok (.invokevirtual 218, 3) := by decide +kernel
theorem dX7_shape_4 : decode cX7_shape 4 = .ok (.istore_n 1, 1) := by decide +kernel
theorem dX7_shape_5 : decode cX7_shape 5 = .ok (.iload_n 1, 1) := by decide +kernel
theorem dX7_shape_6 : decode cX7_shape 6 = .ok (.iconst 1, 1) := by decide +kernel
theorem dX7_shape_7 : decode cX7_shape 7 = .ok (.if_icmp .ne 74, 3) := by decide +kernel
theorem dX7_shape_10 : decode cX7_shape 10 = .ok (.aload_n 0, 1) := by decide +kernel
theorem dX7_shape_11 : decode cX7_shape 11 = .ok (.getfield 55, 3) := by decide +kernel
theorem dX7_shape_14 : decode cX7_shape 14 = .ok (.invokevirtual 149, 3) := by decide +kernel
theorem dX7_shape_17 : decode cX7_shape 17 = .ok (.istore_n 2, 1) := by decide +kernel
theorem dX7_shape_18 : decode cX7_shape 18 = .ok (.aload_n 0, 1) := by decide +kernel
theorem dX7_shape_19 : decode cX7_shape 19 = .ok (.getfield 64, 3) := by decide +kernel
theorem dX7_shape_22 : decode cX7_shape 22 = .ok (.iload_n 2, 1) := by decide +kernel
theorem dX7_shape_23 : decode cX7_shape 23 = .ok (.invokevirtual 221, 3) := by decide +kernel
theorem dX7_shape_26 : decode cX7_shape 26 = .ok (.aload_n 0, 1) := by decide +kernel
theorem dX7_shape_27 : decode cX7_shape 27 = .ok (.getfield 45, 3) := by decide +kernel
theorem dX7_shape_30 : decode cX7_shape 30 = .ok (.invokevirtual 208, 3) := by decide +kernel
theorem dX7_shape_33 : decode cX7_shape 33 = .ok (.aload_n 0, 1) := by decide +kernel
theorem dX7_shape_34 : decode cX7_shape 34 = .ok (.getfield 45, 3) := by decide +kernel
theorem dX7_shape_37 : decode cX7_shape 37 = .ok (.aload_n 0, 1) := by decide +kernel
theorem dX7_shape_38 : decode cX7_shape 38 = .ok (.getfield 64, 3) := by decide +kernel
theorem dX7_shape_41 : decode cX7_shape 41 = .ok (.iload_n 2, 1) := by decide +kernel
theorem dX7_shape_42 : decode cX7_shape 42 = .ok (.invokevirtual 224, 3) := by decide +kernel
theorem dX7_shape_45 : decode cX7_shape 45 = .ok (.invokevirtual 213, 3) := by decide +kernel
theorem dX7_shape_48 : decode cX7_shape 48 = .ok (.pop, 1) := by decide +kernel
theorem dX7_shape_49 : decode cX7_shape 49 = .ok (.aload_n 0, 1) := by decide +kernel
theorem dX7_shape_50 : decode cX7_shape 50 = .ok (.getfield 45, 3) := by decide +kernel
theorem dX7_shape_53 : decode cX7_shape 53 = .ok (.aload_n 0, 1) := by decide +kernel
theorem dX7_shape_54 : decode cX7_shape 54 = .ok (.getfield 64, 3) := by decide +kernel
theorem dX7_shape_57 : decode cX7_shape 57 = .ok (.iload_n 2, 1) := by decide +kernel
theorem dX7_shape_58 : decode cX7_shape 58 = .ok (.invokevirtual 227, 3) := by decide +kernel
theorem dX7_shape_61 : decode cX7_shape 61 = .ok (.invokevirtual 213, 3) := by decide +kernel
theorem dX7_shape_64 : decode cX7_shape 64 = .ok (.pop, 1) := by decide +kernel
theorem dX7_shape_65 : decode cX7_shape 65 = .ok (.aload_n 0, 1) := by decide +kernel
theorem dX7_shape_66 : decode cX7_shape 66 = .ok (.getfield 45, 3) := by decide +kernel
theorem dX7_shape_69 : decode cX7_shape 69 = .ok (.aload_n 0, 1) := by decide +kernel
theorem dX7_shape_70 : decode cX7_shape 70 = .ok (.getfield 64, 3) := by decide +kernel
theorem dX7_shape_73 : decode cX7_shape 73 = .ok (.iload_n 2, 1) := by decide +kernel
theorem dX7_shape_74 : decode cX7_shape 74 = .ok (.invokevirtual 230, 3) := by decide +kernel
theorem dX7_shape_77 : decode cX7_shape 77 = .ok (.invokevirtual 213, 3) := by decide +kernel
theorem dX7_shape_80 : decode cX7_shape 80 = .ok (.pop, 1) := by decide +kernel
theorem dX7_shape_81 : decode cX7_shape 81 = .ok (.iload_n 1, 1) := by decide +kernel
theorem dX7_shape_82 : decode cX7_shape 82 = .ok (.ireturn, 1) := by decide +kernel
set_option maxRecDepth 20000 in
theorem ggX7_ring_X7_shapeTold : GoodIn wsX7_ring wsX7_shapeTold := goodIn_ca (goodIn_r _ [8, 9, 1, 10, 11, 12, 13, 14, 15, 16, 17, 18, 19, 20, 21, 22, 23, 24, 25, 26, 27, 28, 29, 30, 31, 32, 33, 34, 7, 35, 2, 36, 37, 38, 39, 40, 41, 42, 43, 44, 45, 46, 47, 48, 49, 50, 51, 52, 53, 54, 55, 56, 57, 58, 59, 60, 61, 62, 63, 64, 65, 66, 67, 68, 69, 70, 71, 72, 73, 74, 75, 76, 77, 78, 79, 80, 81, 82, 83, 127, 128, 129, 130, 131, 132, 133, 134, 135, 136, 137, 138, 139, 140, 141, 142, 143, 144, 145, 146, 147, 148, 149, 150] (by decide +kernel) (by decide +kernel)) (goodIn_sub (fun _ h => List.mem_cons_of_mem _ (List.mem_append_right _ h)) (by decide +kernel))
set_option maxRecDepth 20000 in
theorem gX7_ring_X7_shapeTold : GoodIn wsX7_ring (wsV RX7 218 RX7 yX7_shapeTold wsX7_shapeTold) := goodIn_app (goodIn_of _ (by decide +kernel)) ggX7_ring_X7_shapeTold
set_option maxRecDepth 20000 in
theorem ggX7_ring_X2_size : GoodIn wsX7_ring wsX2_size := goodIn_r _ [15, 16, 142, 143] (by decide +kernel) (by decide +kernel)
set_option maxRecDepth 20000 in
theorem gX7_ring_X2_size : GoodIn wsX7_ring (wsV RX7 149 RX2 yX2_size wsX2_size) := goodIn_app (goodIn_of _ (by decide +kernel)) ggX7_ring_X2_size
set_option maxRecDepth 20000 in
theorem ggX7_ring_X4_factor : GoodIn wsX7_ring wsX4_factor := goodIn_r _ [87, 41, 44, 45, 39, 46, 148, 149, 150] (by decide +kernel) (by decide +kernel)
set_option maxRecDepth 20000 in
theorem gX7_ring_X4_factor : GoodIn wsX7_ring (wsV RX7 224 RX4 yX4_factor wsX4_factor) := goodIn_app (goodIn_of _ (by decide +kernel)) ggX7_ring_X4_factor
set_option maxRecDepth 20000 in
theorem ggX7_ring_X4_divisor : GoodIn wsX7_ring wsX4_divisor := goodIn_r _ [91, 43, 44, 45, 39, 46, 148, 149, 150] (by decide +kernel) (by decide +kernel)
set_option maxRecDepth 20000 in
theorem gX7_ring_X4_divisor : GoodIn wsX7_ring (wsV RX7 230 RX4 yX4_divisor wsX4_divisor) := goodIn_app (goodIn_of _ (by decide +kernel)) ggX7_ring_X4_divisor
set_option maxRecDepth 20000 in
theorem ggX7_ring_X4_addend : GoodIn wsX7_ring wsX4_addend := goodIn_r _ [95, 42, 44, 45, 39, 46, 148, 149, 150] (by decide +kernel) (by decide +kernel)
set_option maxRecDepth 20000 in
theorem gX7_ring_X4_addend : GoodIn wsX7_ring (wsV RX7 227 RX4 yX4_addend wsX4_addend) := goodIn_app (goodIn_of _ (by decide +kernel)) ggX7_ring_X4_addend
set_option maxRecDepth 20000 in
theorem ggX7_ring_X7_ringNumber : GoodIn wsX7_ring wsX7_ringNumber := goodIn_ca (goodIn_r _ [99, 2, 100, 10, 88, 89, 90, 39, 91, 43, 44, 45, 46, 84, 85, 86, 87, 41, 92, 93, 94, 95, 42, 101, 70, 7, 71, 72, 73, 102, 103, 104, 29, 105, 31, 106, 107, 108, 109, 17, 18, 19, 14, 20, 21, 22, 23, 24, 25, 16, 110, 111, 112, 113, 114, 115, 116, 48, 49, 50, 51, 52, 53, 54, 55, 117, 57, 58, 59, 60, 118, 62, 63, 64, 65, 127, 128, 129, 130, 131, 132, 133, 134, 135, 136, 137, 138, 139, 140, 141, 148, 149, 150, 144, 145, 146, 147, 142, 143] (by decide +kernel) (by decide +kernel)) (goodIn_sub (fun _ h => List.mem_cons_of_mem _ (List.mem_append_right _ h)) (by decide +kernel))
set_option maxRecDepth 20000 in
theorem gX7_ring_X7_ringNumber : GoodIn wsX7_ring (wsV RX7 233 RX7 yX7_ringNumber wsX7_ringNumber) := goodIn_app (goodIn_of _ (by decide +kernel)) ggX7_ring_X7_ringNumber
set_option maxRecDepth 20000 in
theorem ggX7_ring_X7_isNumber : GoodIn wsX7_ring wsX7_isNumber := goodIn_r _ [71, 72, 73] (by decide +kernel) (by decide +kernel)
set_option maxRecDepth 20000 in
theorem gX7_ring_X7_isNumber : GoodIn wsX7_ring (va_wsS RX7 178 yX7_isNumber wsX7_isNumber) := goodIn_app (goodIn_of _ (by decide +kernel)) ggX7_ring_X7_isNumber
set_option maxRecDepth 20000 in
theorem ggX7_ring_X2_empty : GoodIn wsX7_ring wsX2_empty := goodIn_r _ [122, 16, 142, 143] (by decide +kernel) (by decide +kernel)
set_option maxRecDepth 20000 in
theorem gX7_ring_X2_empty : GoodIn wsX7_ring (wsV RX7 208 RX2 yX2_empty wsX2_empty) := goodIn_app (goodIn_of _ (by decide +kernel)) ggX7_ring_X2_empty
set_option maxRecDepth 20000 in
theorem ggX7_ring_X2_add : GoodIn wsX7_ring wsX2_add := goodIn_r _ [126, 16, 21, 142, 143] (by decide +kernel) (by decide +kernel)
set_option maxRecDepth 20000 in
theorem gX7_ring_X2_add : GoodIn wsX7_ring (wsV RX7 213 RX2 yX2_add wsX2_add) := goodIn_app (goodIn_of _ (by decide +kernel)) ggX7_ring_X2_add
theorem dX7_ring_0 : decode cX7_ring 0 = .ok (.aload_n 0, 1) := by decide +kernel
theorem dX7_ring_1 : decode cX7_ring 1 = .ok (.invokevirtual 218, 3) := by decide +kernel
theorem dX7_ring_4 : decode cX7_ring 4 = .ok (.istore_n 1, 1) := by decide +kernel
theorem dX7_ring_5 : decode cX7_ring 5 = .ok (.iload_n 1, 1) := by decide +kernel
theorem dX7_ring_6 : decode cX7_ring 6 = .ok (.iconst 1, 1) := by decide +kernel
theorem dX7_ring_7 : decode cX7_ring 7 = .ok (.if_icmp .eq 5, 3) := by decide +kernel
theorem dX7_ring_10 : decode cX7_ring 10 = .ok (.iload_n 1, 1) := by decide +kernel
theorem dX7_ring_11 : decode cX7_ring 11 = .ok (.ireturn, 1) := by decide +kernel
theorem dX7_ring_12 : decode cX7_ring 12 = .ok (.aload_n 0, 1) := by decide +kernel
theorem dX7_ring_13 : decode cX7_ring 13 = .ok (.getfield 55, 3) := by decide +kernel
theorem dX7_ring_16 : decode cX7_ring 16 = .ok (.invokevirtual 149, 3) := by decide +kernel
theorem dX7_ring_19 : decode cX7_ring 19 = .ok (.istore_n 2, 1) := by decide +kernel
theorem dX7_ring_20 : decode cX7_ring 20 = .ok (.aload_n 0, 1) := by decide +kernel
theorem dX7_ring_21 : decode cX7_ring 21 = .ok (.getfield 64, 3) := by decide +kernel
theorem dX7_ring_24 : decode cX7_ring 24 = .ok (.iload_n 2, 1) := by decide +kernel
theorem dX7_ring_25 : decode cX7_ring 25 = .ok (.invokevirtual 224, 3) := by decide +kernel
theorem dX7_ring_28 : decode cX7_ring 28 = .ok (.aload_n 0, 1) := by decide +kernel
theorem dX7_ring_29 : decode cX7_ring 29 = .ok (.getfield 64, 3) := by decide +kernel
theorem dX7_ring_32 : decode cX7_ring 32 = .ok (.iload_n 2, 1) := by decide +kernel
theorem dX7_ring_33 : decode cX7_ring 33 = .ok (.invokevirtual 230, 3) := by decide +kernel
theorem dX7_ring_36 : decode cX7_ring 36 = .ok (.lcmp, 1) := by decide +kernel
theorem dX7_ring_37 : decode cX7_ring 37 = .ok (.ifCond .ne 22, 3) := by decide +kernel
theorem dX7_ring_40 : decode cX7_ring 40 = .ok (.aload_n 0, 1) := by decide +kernel
theorem dX7_ring_41 : decode cX7_ring 41 = .ok (.getfield 64, 3) := by decide +kernel
theorem dX7_ring_44 : decode cX7_ring 44 = .ok (.iload_n 2, 1) := by decide +kernel
theorem dX7_ring_45 : decode cX7_ring 45 = .ok (.invokevirtual 227, 3) := by decide +kernel
theorem dX7_ring_48 : decode cX7_ring 48 = .ok (.lconst 0, 1) := by decide +kernel
theorem dX7_ring_49 : decode cX7_ring 49 = .ok (.lcmp, 1) := by decide +kernel
theorem dX7_ring_50 : decode cX7_ring 50 = .ok (.ifCond .ne 7, 3) := by decide +kernel
theorem dX7_ring_53 : decode cX7_ring 53 = .ok (.iconst 2, 1) := by decide +kernel
theorem dX7_ring_54 : decode cX7_ring 54 = .ok (.goto 4, 3) := by decide +kernel
theorem dX7_ring_57 : decode cX7_ring 57 = .ok (.iconst 0, 1) := by decide +kernel
theorem dX7_ring_58 : decode cX7_ring 58 = .ok (.ireturn, 1) := by decide +kernel
theorem dX7_ring_59 : decode cX7_ring 59 = .ok (.aload_n 0, 1) := by decide +kernel
theorem dX7_ring_60 : decode cX7_ring 60 = .ok (.aload_n 0, 1) := by decide +kernel
theorem dX7_ring_61 : decode cX7_ring 61 = .ok (.getfield 55, 3) := by decide +kernel
theorem dX7_ring_64 : decode cX7_ring 64 = .ok (.iload_n 2, 1) := by decide +kernel
theorem dX7_ring_65 : decode cX7_ring 65 = .ok (.invokevirtual 233, 3) := by decide +kernel
theorem dX7_ring_68 : decode cX7_ring 68 = .ok (.lstore_n 3, 1) := by decide +kernel
theorem dX7_ring_69 : decode cX7_ring 69 = .ok (.lload_n 3, 1) := by decide +kernel
theorem dX7_ring_70 : decode cX7_ring 70 = .ok (.invokestatic 178, 3) := by decide +kernel
theorem dX7_ring_73 : decode cX7_ring 73 = .ok (.ifCond .ne 5, 3) := by decide +kernel
theorem dX7_ring_76 : decode cX7_ring 76 = .ok (.iconst 0, 1) := by decide +kernel
theorem dX7_ring_77 : decode cX7_ring 77 = .ok (.ireturn, 1) := by decide +kernel
theorem dX7_ring_78 : decode cX7_ring 78 = .ok (.aload_n 0, 1) := by decide +kernel
theorem dX7_ring_79 : decode cX7_ring 79 = .ok (.getfield 45, 3) := by decide +kernel
theorem dX7_ring_82 : decode cX7_ring 82 = .ok (.invokevirtual 208, 3) := by decide +kernel
theorem dX7_ring_85 : decode cX7_ring 85 = .ok (.aload_n 0, 1) := by decide +kernel
theorem dX7_ring_86 : decode cX7_ring 86 = .ok (.getfield 45, 3) := by decide +kernel
theorem dX7_ring_89 : decode cX7_ring 89 = .ok (.lload_n 3, 1) := by decide +kernel
theorem dX7_ring_90 : decode cX7_ring 90 = .ok (.invokevirtual 213, 3) := by decide +kernel
theorem dX7_ring_93 : decode cX7_ring 93 = .ok (.pop, 1) := by decide +kernel
theorem dX7_ring_94 : decode cX7_ring 94 = .ok (.iconst 1, 1) := by decide +kernel
theorem dX7_ring_95 : decode cX7_ring 95 = .ok (.ireturn, 1) := by decide +kernel
set_option maxRecDepth 20000 in
theorem ggX7_rings_X5_measure : GoodIn wsX7_rings wsX5_measure := goodIn_r _ [10, 11, 172, 173, 174, 175] (by decide +kernel) (by decide +kernel)
set_option maxRecDepth 20000 in
theorem gX7_rings_X5_measure : GoodIn wsX7_rings (wsV RX7 99 RX5 yX5_measure wsX5_measure) := goodIn_app (goodIn_of _ (by decide +kernel)) ggX7_rings_X5_measure
set_option maxRecDepth 20000 in
theorem ggX7_rings_X7_power : GoodIn wsX7_rings wsX7_power := goodIn_r _ [15] (by decide +kernel) (by decide +kernel)
set_option maxRecDepth 20000 in
theorem gX7_rings_X7_power : GoodIn wsX7_rings (va_wsS RX7 237 yX7_power wsX7_power) := goodIn_app (goodIn_of _ (by decide +kernel)) ggX7_rings_X7_power
set_option maxRecDepth 20000 in
theorem ggX7_rings_X2_empty : GoodIn wsX7_rings wsX2_empty := goodIn_r _ [20, 21, 176, 177] (by decide +kernel) (by decide +kernel)
set_option maxRecDepth 20000 in
theorem gX7_rings_X2_empty : GoodIn wsX7_rings (wsV RX7 208 RX2 yX2_empty wsX2_empty) := goodIn_app (goodIn_of _ (by decide +kernel)) ggX7_rings_X2_empty
set_option maxRecDepth 20000 in
theorem ggX7_rings_X7_firstWord : GoodIn wsX7_rings wsX7_firstWord := goodIn_r _ [25, 4, 26, 27, 28, 19, 29, 21, 30, 31, 32, 33, 34, 157, 158, 159, 160, 161, 162, 163, 164, 165, 166, 167, 168, 169, 170, 171, 176, 177] (by decide +kernel) (by decide +kernel)
set_option maxRecDepth 20000 in
theorem gX7_rings_X7_firstWord : GoodIn wsX7_rings (wsV RX7 240 RX7 yX7_firstWord wsX7_firstWord) := goodIn_app (goodIn_of _ (by decide +kernel)) ggX7_rings_X7_firstWord
set_option maxRecDepth 20000 in
theorem ggX7_rings_X7_nextWord : GoodIn wsX7_rings wsX7_nextWord := goodIn_r _ [38, 4, 2, 39, 40, 41, 19, 42, 34, 43, 44, 45, 46, 21, 6, 7, 8, 9, 10, 11, 47, 48, 49, 50, 157, 158, 159, 160, 161, 162, 163, 164, 165, 166, 167, 168, 169, 170, 171, 176, 177, 172, 173, 174, 175] (by decide +kernel) (by decide +kernel)
set_option maxRecDepth 20000 in
theorem gX7_rings_X7_nextWord : GoodIn wsX7_rings (wsV RX7 244 RX7 yX7_nextWord wsX7_nextWord) := goodIn_app (goodIn_of _ (by decide +kernel)) ggX7_rings_X7_nextWord
set_option maxRecDepth 20000 in
theorem ggX7_rings_X7_shapeWord : GoodIn wsX7_rings wsX7_shapeWord := goodIn_ca (goodIn_r _ [54, 55, 2, 56, 57, 58, 19, 59, 21, 39, 40, 41, 42, 34, 43, 44, 45, 46, 60, 61, 62, 63, 64, 65, 66, 67, 68, 69, 70, 71, 72, 73, 9, 74, 75, 76, 77, 78, 79, 11, 80, 81, 82, 83, 84, 85, 86, 87, 88, 89, 90, 91, 92, 93, 94, 14, 95, 96, 97, 98, 99, 100, 101, 102, 103, 104, 105, 106, 107, 157, 158, 159, 160, 161, 162, 163, 164, 165, 166, 167, 168, 169, 170, 171, 176, 177, 178, 179, 180, 172, 173, 174, 175] (by decide +kernel) (by decide +kernel)) (goodIn_sub (fun _ h => List.mem_cons_of_mem _ (List.mem_append_right _ h)) (by decide +kernel))
set_option maxRecDepth 20000 in
theorem gX7_rings_X7_shapeWord : GoodIn wsX7_rings (wsV RX7 247 RX7 yX7_shapeWord wsX7_shapeWord) := goodIn_app (goodIn_of _ (by decide +kernel)) ggX7_rings_X7_shapeWord
set_option maxRecDepth 20000 in
theorem ggX7_rings_X7_ringNumber : GoodIn wsX7_rings wsX7_ringNumber := goodIn_ca (goodIn_r _ [111, 55, 112, 2, 113, 114, 115, 63, 116, 67, 68, 69, 70, 117, 118, 119, 120, 65, 121, 122, 123, 124, 66, 125, 94, 14, 95, 96, 97, 126, 127, 128, 9, 129, 11, 130, 131, 132, 133, 39, 40, 41, 19, 42, 34, 43, 44, 45, 46, 21, 134, 135, 136, 137, 138, 139, 140, 72, 73, 74, 75, 76, 77, 78, 79, 141, 81, 82, 83, 84, 142, 86, 87, 88, 89, 157, 158, 159, 160, 161, 162, 163, 164, 165, 166, 167, 168, 169, 170, 171, 178, 179, 180, 172, 173, 174, 175, 176, 177] (by decide +kernel) (by decide +kernel)) (goodIn_sub (fun _ h => List.mem_cons_of_mem _ (List.mem_append_right _ h)) (by decide +kernel))
set_option maxRecDepth 20000 in
theorem gX7_rings_X7_ringNumber : GoodIn wsX7_rings (wsV RX7 233 RX7 yX7_ringNumber wsX7_ringNumber) := goodIn_app (goodIn_of _ (by decide +kernel)) ggX7_rings_X7_ringNumber
set_option maxRecDepth 20000 in
theorem ggX7_rings_X7_isNumber : GoodIn wsX7_rings wsX7_isNumber := goodIn_r _ [95, 96, 97] (by decide +kernel) (by decide +kernel)
set_option maxRecDepth 20000 in
theorem gX7_rings_X7_isNumber : GoodIn wsX7_rings (va_wsS RX7 178 yX7_isNumber wsX7_isNumber) := goodIn_app (goodIn_of _ (by decide +kernel)) ggX7_rings_X7_isNumber
set_option maxRecDepth 20000 in
theorem ggX7_rings_X7_isLeastOfRing : GoodIn wsX7_rings wsX7_isLeastOfRing := goodIn_ca (goodIn_r _ [146, 2, 134, 135, 136, 9, 137, 138, 139, 127, 128, 129, 11, 130, 131, 132, 133, 140, 72, 73, 74, 75, 76, 77, 78, 79, 141, 81, 82, 83, 84, 142, 86, 87, 88, 89, 94, 14, 95, 96, 97, 157, 158, 159, 160, 161, 162, 163, 164, 165, 166, 167, 168, 169, 170, 171, 172, 173, 174, 175] (by decide +kernel) (by decide +kernel)) (goodIn_sub (fun _ h => List.mem_cons_of_mem _ (List.mem_append_right _ h)) (by decide +kernel))
set_option maxRecDepth 20000 in
theorem gX7_rings_X7_isLeastOfRing : GoodIn wsX7_rings (wsV RX7 251 RX7 yX7_isLeastOfRing wsX7_isLeastOfRing) := goodIn_app (goodIn_of _ (by decide +kernel)) ggX7_rings_X7_isLeastOfRing
set_option maxRecDepth 20000 in
theorem ggX7_rings_X2_sortIn : GoodIn wsX7_rings wsX2_sortIn := goodIn_r _ [150, 21, 30, 31, 32, 19, 33, 34, 151, 40, 41, 42, 43, 44, 45, 46, 152, 48, 49, 50, 176, 177] (by decide +kernel) (by decide +kernel)
set_option maxRecDepth 20000 in
theorem gX7_rings_X2_sortIn : GoodIn wsX7_rings (wsV RX7 255 RX2 yX2_sortIn wsX2_sortIn) := goodIn_app (goodIn_of _ (by decide +kernel)) ggX7_rings_X2_sortIn
set_option maxRecDepth 20000 in
theorem ggX7_rings_X2_become : GoodIn wsX7_rings wsX2_become := goodIn_r _ [156, 21, 151, 40, 41, 19, 42, 34, 43, 44, 45, 46, 30, 31, 32, 33, 176, 177] (by decide +kernel) (by decide +kernel)
set_option maxRecDepth 20000 in
theorem gX7_rings_X2_become : GoodIn wsX7_rings (wsV RX7 215 RX2 yX2_become wsX2_become) := goodIn_app (goodIn_of _ (by decide +kernel)) ggX7_rings_X2_become
theorem dX7_rings_0 : decode cX7_rings 0 = .ok (.aload_n 0, 1) := by decide +kernel
theorem dX7_rings_1 : decode cX7_rings 1 = .ok (.getfield 9, 3) := by decide +kernel
theorem dX7_rings_4 : decode cX7_rings 4 = .ok (.iconst 1, 1) := by decide +kernel
theorem dX7_rings_5 : decode cX7_rings 5 = .ok (.if_icmp .ne 14, 3) := by decide +kernel
theorem dX7_rings_8 : decode cX7_rings 8 = .ok (.iload_n 1, 1) := by decide +kernel
theorem dX7_rings_9 : decode cX7_rings 9 = .ok (.iconst 1, 1) := by decide +kernel
theorem dX7_rings_10 : decode cX7_rings 10 = .ok (.if_icmp .lt 9, 3) := by decide +kernel
theorem dX7_rings_13 : decode cX7_rings 13 = .ok (.iload_n 1, 1) := by decide +kernel
theorem dX7_rings_14 : decode cX7_rings 14 = .ok (.bipush 12, 2) := by decide +kernel
theorem dX7_rings_16 : decode cX7_rings 16 = .ok (.if_icmp .le 5, 3) := by decide +kernel
theorem dX7_rings_19 : decode cX7_rings 19 = .ok (.iconst (-1), 1) := by decide +kernel
theorem dX7_rings_20 : decode cX7_rings 20 = .ok (.ireturn, 1) := by decide +kernel
theorem dX7_rings_21 : decode cX7_rings 21 = .ok (.aload_n 0, 1) := by decide +kernel
theorem dX7_rings_22 : decode cX7_rings 22 = .ok (.getfield 16, 3) := by decide +kernel
theorem dX7_rings_25 : decode cX7_rings 25 = .ok (.invokevirtual 99, 3) := by decide +kernel
theorem dX7_rings_28 : decode cX7_rings 28 = .ok (.iload_n 1, 1) := by decide +kernel
theorem dX7_rings_29 : decode cX7_rings 29 = .ok (.invokestatic 237, 3) := by decide +kernel
theorem dX7_rings_32 : decode cX7_rings 32 = .ok (.istore_n 2, 1) := by decide +kernel
theorem dX7_rings_33 : decode cX7_rings 33 = .ok (.iload_n 2, 1) := by decide +kernel
theorem dX7_rings_34 : decode cX7_rings 34 = .ok (.sipush 20000, 3) := by decide +kernel
theorem dX7_rings_37 : decode cX7_rings 37 = .ok (.if_icmp .le 6, 3) := by decide +kernel
theorem dX7_rings_40 : decode cX7_rings 40 = .ok (.bipush (-2), 2) := by decide +kernel
theorem dX7_rings_42 : decode cX7_rings 42 = .ok (.ireturn, 1) := by decide +kernel
theorem dX7_rings_43 : decode cX7_rings 43 = .ok (.aload_n 0, 1) := by decide +kernel
theorem dX7_rings_44 : decode cX7_rings 44 = .ok (.getfield 49, 3) := by decide +kernel
theorem dX7_rings_47 : decode cX7_rings 47 = .ok (.invokevirtual 208, 3) := by decide +kernel
theorem dX7_rings_50 : decode cX7_rings 50 = .ok (.iconst 0, 1) := by decide +kernel
theorem dX7_rings_51 : decode cX7_rings 51 = .ok (.istore_n 3, 1) := by decide +kernel
theorem dX7_rings_52 : decode cX7_rings 52 = .ok (.iconst 0, 1) := by decide +kernel
theorem dX7_rings_53 : decode cX7_rings 53 = .ok (.istore 4, 2) := by decide +kernel
theorem dX7_rings_55 : decode cX7_rings 55 = .ok (.iload 4, 2) := by decide +kernel
theorem dX7_rings_57 : decode cX7_rings 57 = .ok (.iload_n 2, 1) := by decide +kernel
theorem dX7_rings_58 : decode cX7_rings 58 = .ok (.if_icmp .ge 86, 3) := by decide +kernel
theorem dX7_rings_61 : decode cX7_rings 61 = .ok (.iload 4, 2) := by decide +kernel
theorem dX7_rings_63 : decode cX7_rings 63 = .ok (.ifCond .ne 11, 3) := by decide +kernel
theorem dX7_rings_66 : decode cX7_rings 66 = .ok (.aload_n 0, 1) := by decide +kernel
theorem dX7_rings_67 : decode cX7_rings 67 = .ok (.iload_n 1, 1) := by decide +kernel
theorem dX7_rings_68 : decode cX7_rings 68 = .ok (.invokevirtual 240, 3) := by decide +kernel
theorem dX7_rings_71 : decode cX7_rings 71 = .ok (.goto 8, 3) := by decide +kernel
theorem dX7_rings_74 : decode cX7_rings 74 = .ok (.aload_n 0, 1) := by decide +kernel
theorem dX7_rings_75 : decode cX7_rings 75 = .ok (.iload_n 1, 1) := by decide +kernel
theorem dX7_rings_76 : decode cX7_rings 76 = .ok (.invokevirtual 244, 3) := by decide +kernel
theorem dX7_rings_79 : decode cX7_rings 79 = .ok (.istore 5, 2) := by decide +kernel
theorem dX7_rings_81 : decode cX7_rings 81 = .ok (.aload_n 0, 1) := by decide +kernel
theorem dX7_rings_82 : decode cX7_rings 82 = .ok (.aload_n 0, 1) := by decide +kernel
theorem dX7_rings_83 : decode cX7_rings 83 = .ok (.getfield 58, 3) := by decide +kernel
theorem dX7_rings_86 : decode cX7_rings 86 = .ok (.iload 5, 2) := by decide +kernel
theorem dX7_rings_88 : decode cX7_rings 88 = .ok (.invokevirtual 247, 3) := by decide +kernel
theorem dX7_rings_91 : decode cX7_rings 91 = .ok (.ifCond .ne 6, 3) := by decide +kernel
theorem dX7_rings_94 : decode cX7_rings 94 = .ok (.bipush (-2), 2) := by decide +kernel
theorem dX7_rings_96 : decode cX7_rings 96 = .ok (.ireturn, 1) := by decide +kernel
