theorem dX8_init_0 : decode cX8_init 0 = .ok (.aload_n 0, 1) := by decide +kernel
theorem dX8_init_1 : decode cX8_init 1 = .ok (.invokespecial 1, 3) := by decide +kernel
theorem dX8_init_4 : decode cX8_init 4 = .ok (.aload_n 0, 1) := by decide +kernel
theorem dX8_init_5 : decode cX8_init 5 = .ok (.iconst (-1), 1) := by decide +kernel
theorem dX8_init_6 : decode cX8_init 6 = .ok (.putfield 9, 3) := by decide +kernel
theorem dX8_init_9 : decode cX8_init 9 = .ok (.aload_n 0, 1) := by decide +kernel
theorem dX8_init_10 : decode cX8_init 10 = .ok (.bipush 64, 2) := by decide +kernel
theorem dX8_init_12 : decode cX8_init 12 = .ok (.newarray .long, 2) := by decide +kernel
theorem dX8_init_14 : decode cX8_init 14 = .ok (.putfield 13, 3) := by decide +kernel
theorem dX8_init_17 : decode cX8_init 17 = .ok (.aload_n 0, 1) := by decide +kernel
theorem dX8_init_18 : decode cX8_init 18 = .ok (.sipush 192, 3) := by decide +kernel
theorem dX8_init_21 : decode cX8_init 21 = .ok (.newarray .long, 2) := by decide +kernel
theorem dX8_init_23 : decode cX8_init 23 = .ok (.putfield 17, 3) := by decide +kernel
theorem dX8_init_26 : decode cX8_init 26 = .ok (.aload_n 0, 1) := by decide +kernel
theorem dX8_init_27 : decode cX8_init 27 = .ok (.sipush 192, 3) := by decide +kernel
theorem dX8_init_30 : decode cX8_init 30 = .ok (.newarray .long, 2) := by decide +kernel
theorem dX8_init_32 : decode cX8_init 32 = .ok (.putfield 20, 3) := by decide +kernel
theorem dX8_init_35 : decode cX8_init 35 = .ok (.aload_n 0, 1) := by decide +kernel
theorem dX8_init_36 : decode cX8_init 36 = .ok (.bipush 40, 2) := by decide +kernel
theorem dX8_init_38 : decode cX8_init 38 = .ok (.newarray .long, 2) := by decide +kernel
theorem dX8_init_40 : decode cX8_init 40 = .ok (.putfield 23, 3) := by decide +kernel
theorem dX8_init_43 : decode cX8_init 43 = .ok (.aload_n 0, 1) := by decide +kernel
theorem dX8_init_44 : decode cX8_init 44 = .ok (.bipush 40, 2) := by decide +kernel
theorem dX8_init_46 : decode cX8_init 46 = .ok (.newarray .long, 2) := by decide +kernel
theorem dX8_init_48 : decode cX8_init 48 = .ok (.putfield 26, 3) := by decide +kernel
theorem dX8_init_51 : decode cX8_init 51 = .ok (.aload_n 0, 1) := by decide +kernel
theorem dX8_init_52 : decode cX8_init 52 = .ok (.sipush 1000, 3) := by decide +kernel
theorem dX8_init_55 : decode cX8_init 55 = .ok (.newarray .long, 2) := by decide +kernel
theorem dX8_init_57 : decode cX8_init 57 = .ok (.putfield 29, 3) := by decide +kernel
theorem dX8_init_60 : decode cX8_init 60 = .ok (.aload_n 0, 1) := by decide +kernel
theorem dX8_init_61 : decode cX8_init 61 = .ok (.sipush 20000, 3) := by decide +kernel
theorem dX8_init_64 : decode cX8_init 64 = .ok (.newarray .long, 2) := by decide +kernel
theorem dX8_init_66 : decode cX8_init 66 = .ok (.putfield 32, 3) := by decide +kernel
theorem dX8_init_69 : decode cX8_init 69 = .ok (.aload_n 0, 1) := by decide +kernel
theorem dX8_init_70 : decode cX8_init 70 = .ok (.bipush 40, 2) := by decide +kernel
theorem dX8_init_72 : decode cX8_init 72 = .ok (.newarray .int, 2) := by decide +kernel
theorem dX8_init_74 : decode cX8_init 74 = .ok (.putfield 35, 3) := by decide +kernel
theorem dX8_init_77 : decode cX8_init 77 = .ok (.aload_n 0, 1) := by decide +kernel
theorem dX8_init_78 : decode cX8_init 78 = .ok (.bipush 40, 2) := by decide +kernel
theorem dX8_init_80 : decode cX8_init 80 = .ok (.newarray .int, 2) := by decide +kernel
theorem dX8_init_82 : decode cX8_init 82 = .ok (.putfield 39, 3) := by decide +kernel
theorem dX8_init_85 : decode cX8_init 85 = .ok (.aload_n 0, 1) := by decide +kernel
theorem dX8_init_86 : decode cX8_init 86 = .ok (.bipush 26, 2) := by decide +kernel
theorem dX8_init_88 : decode cX8_init 88 = .ok (.newarray .long, 2) := by decide +kernel
theorem dX8_init_90 : decode cX8_init 90 = .ok (.putfield 42, 3) := by decide +kernel
theorem dX8_init_93 : decode cX8_init 93 = .ok (.aload_n 0, 1) := by decide +kernel
theorem dX8_init_94 : decode cX8_init 94 = .ok (.bipush 26, 2) := by decide +kernel
theorem dX8_init_96 : decode cX8_init 96 = .ok (.newarray .long, 2) := by decide +kernel
theorem dX8_init_98 : decode cX8_init 98 = .ok (.putfield 45, 3) := by decide +kernel
theorem dX8_init_101 : decode cX8_init 101 = .ok (.aload_n 0, 1) := by decide +kernel
theorem dX8_init_102 : decode cX8_init 102 = .ok (.sipush 1000, 3) := by decide +kernel
theorem dX8_init_105 : decode cX8_init 105 = .ok (.newarray .long, 2) := by decide +kernel
theorem dX8_init_107 : decode cX8_init 107 = .ok (.putfield 48, 3) := by decide +kernel
theorem dX8_init_110 : decode cX8_init 110 = .ok (.aload_n 0, 1) := by decide +kernel
theorem dX8_init_111 : decode cX8_init 111 = .ok (.ldc 51, 2) := by decide +kernel
theorem dX8_init_113 : decode cX8_init 113 = .ok (.newarray .int, 2) := by decide +kernel
theorem dX8_init_115 : decode cX8_init 115 = .ok (.putfield 52, 3) := by decide +kernel
theorem dX8_init_118 : decode cX8_init 118 = .ok (.aload_n 0, 1) := by decide +kernel
theorem dX8_init_119 : decode cX8_init 119 = .ok (.sipush 192, 3) := by decide +kernel
theorem dX8_init_122 : decode cX8_init 122 = .ok (.newarray .long, 2) := by decide +kernel
theorem dX8_init_124 : decode cX8_init 124 = .ok (.putfield 55, 3) := by decide +kernel
theorem dX8_init_127 : decode cX8_init 127 = .ok (.aload_n 0, 1) := by decide +kernel
theorem dX8_init_128 : decode cX8_init 128 = .ok (.bipush 48, 2) := by decide +kernel
theorem dX8_init_130 : decode cX8_init 130 = .ok (.newarray .int, 2) := by decide +kernel
theorem dX8_init_132 : decode cX8_init 132 = .ok (.putfield 58, 3) := by decide +kernel
theorem dX8_init_135 : decode cX8_init 135 = .ok (.return_, 1) := by decide +kernel
theorem dX8_thrown_0 : decode cX8_thrown 0 = .ok (.aload_n 0, 1) := by decide +kernel
theorem dX8_thrown_1 : decode cX8_thrown 1 = .ok (.getfield 61, 3) := by decide +kernel
theorem dX8_thrown_4 : decode cX8_thrown 4 = .ok (.ireturn, 1) := by decide +kernel
theorem dX8_in_0 : decode cX8_in 0 = .ok (.lload_n 0, 1) := by decide +kernel
theorem dX8_in_1 : decode cX8_in 1 = .ok (.lload_n 2, 1) := by decide +kernel
theorem dX8_in_2 : decode cX8_in 2 = .ok (.lcmp, 1) := by decide +kernel
theorem dX8_in_3 : decode cX8_in 3 = .ok (.ifCond .lt 14, 3) := by decide +kernel
theorem dX8_in_6 : decode cX8_in 6 = .ok (.lload_n 0, 1) := by decide +kernel
theorem dX8_in_7 : decode cX8_in 7 = .ok (.lload 4, 2) := by decide +kernel
theorem dX8_in_9 : decode cX8_in 9 = .ok (.lcmp, 1) := by decide +kernel
theorem dX8_in_10 : decode cX8_in 10 = .ok (.ifCond .gt 7, 3) := by decide +kernel
theorem dX8_in_13 : decode cX8_in 13 = .ok (.iconst 1, 1) := by decide +kernel
theorem dX8_in_14 : decode cX8_in 14 = .ok (.goto 4, 3) := by decide +kernel
theorem dX8_in_17 : decode cX8_in 17 = .ok (.iconst 0, 1) := by decide +kernel
theorem dX8_in_18 : decode cX8_in 18 = .ok (.ireturn, 1) := by decide +kernel
set_option maxRecDepth 20000 in
theorem ggX8_isNumber_X8_in : GoodIn wsX8_isNumber wsX8_in := goodIn_r _ [6] (by decide +kernel) (by decide +kernel)
set_option maxRecDepth 20000 in
theorem gX8_isNumber_X8_in : GoodIn wsX8_isNumber (va_wsS RX8 68 yX8_in wsX8_in) := goodIn_app (goodIn_of _ (by decide +kernel)) ggX8_isNumber_X8_in
theorem dX8_isNumber_0 : decode cX8_isNumber 0 = .ok (.lload_n 0, 1) := by decide +kernel
theorem dX8_isNumber_1 : decode cX8_isNumber 1 = .ok (.ldc2_w 64, 3) := by decide +kernel
theorem dX8_isNumber_4 : decode cX8_isNumber 4 = .ok (.ldc2_w 66, 3) := by decide +kernel
theorem dX8_isNumber_7 : decode cX8_isNumber 7 = .ok (.invokestatic 68, 3) := by decide +kernel
theorem dX8_isNumber_10 : decode cX8_isNumber 10 = .ok (.ireturn, 1) := by decide +kernel
theorem dX8_refuse_0 : decode cX8_refuse 0 = .ok (.aload_n 0, 1) := by decide +kernel
theorem dX8_refuse_1 : decode cX8_refuse 1 = .ok (.iload_n 1, 1) := by decide +kernel
theorem dX8_refuse_2 : decode cX8_refuse 2 = .ok (.putfield 61, 3) := by decide +kernel
theorem dX8_refuse_5 : decode cX8_refuse 5 = .ok (.lconst 0, 1) := by decide +kernel
theorem dX8_refuse_6 : decode cX8_refuse 6 = .ok (.lreturn, 1) := by decide +kernel
theorem dX8_common_0 : decode cX8_common 0 = .ok (.lload_n 0, 1) := by decide +kernel
theorem dX8_common_1 : decode cX8_common 1 = .ok (.lconst 0, 1) := by decide +kernel
theorem dX8_common_2 : decode cX8_common 2 = .ok (.lcmp, 1) := by decide +kernel
theorem dX8_common_3 : decode cX8_common 3 = .ok (.ifCond .ge 8, 3) := by decide +kernel
theorem dX8_common_6 : decode cX8_common 6 = .ok (.lload_n 0, 1) := by decide +kernel
theorem dX8_common_7 : decode cX8_common 7 = .ok (.lneg, 1) := by decide +kernel
theorem dX8_common_8 : decode cX8_common 8 = .ok (.goto 4, 3) := by decide +kernel
theorem dX8_common_11 : decode cX8_common 11 = .ok (.lload_n 0, 1) := by decide +kernel
theorem dX8_common_12 : decode cX8_common 12 = .ok (.lstore 4, 2) := by decide +kernel
theorem dX8_common_14 : decode cX8_common 14 = .ok (.lload_n 2, 1) := by decide +kernel
theorem dX8_common_15 : decode cX8_common 15 = .ok (.lconst 0, 1) := by decide +kernel
theorem dX8_common_16 : decode cX8_common 16 = .ok (.lcmp, 1) := by decide +kernel
theorem dX8_common_17 : decode cX8_common 17 = .ok (.ifCond .ge 8, 3) := by decide +kernel
theorem dX8_common_20 : decode cX8_common 20 = .ok (.lload_n 2, 1) := by decide +kernel
theorem dX8_common_21 : decode cX8_common 21 = .ok (.lneg, 1) := by decide +kernel
theorem dX8_common_22 : decode cX8_common 22 = .ok (.goto 4, 3) := by decide +kernel
theorem dX8_common_25 : decode cX8_common 25 = .ok (.lload_n 2, 1) := by decide +kernel
theorem dX8_common_26 : decode cX8_common 26 = .ok (.lstore 6, 2) := by decide +kernel
theorem dX8_common_28 : decode cX8_common 28 = .ok (.lload 6, 2) := by decide +kernel
theorem dX8_common_30 : decode cX8_common 30 = .ok (.lconst 0, 1) := by decide +kernel
theorem dX8_common_31 : decode cX8_common 31 = .ok (.lcmp, 1) := by decide +kernel
theorem dX8_common_32 : decode cX8_common 32 = .ok (.ifCond .eq 21, 3) := by decide +kernel
theorem dX8_common_35 : decode cX8_common 35 = .ok (.lload 4, 2) := by decide +kernel
theorem dX8_common_37 : decode cX8_common 37 = .ok (.lload 6, 2) := by decide +kernel
theorem dX8_common_39 : decode cX8_common 39 = .ok (.lrem, 1) := by decide +kernel
theorem dX8_common_40 : decode cX8_common 40 = .ok (.lstore 8, 2) := by decide +kernel
theorem dX8_common_42 : decode cX8_common 42 = .ok (.lload 6, 2) := by decide +kernel
theorem dX8_common_44 : decode cX8_common 44 = .ok (.lstore 4, 2) := by decide +kernel
theorem dX8_common_46 : decode cX8_common 46 = .ok (.lload 8, 2) := by decide +kernel
theorem dX8_common_48 : decode cX8_common 48 = .ok (.lstore 6, 2) := by decide +kernel
theorem dX8_common_50 : decode cX8_common 50 = .ok (.goto (-22), 3) := by decide +kernel
theorem dX8_common_53 : decode cX8_common 53 = .ok (.lload 4, 2) := by decide +kernel
theorem dX8_common_55 : decode cX8_common 55 = .ok (.lreturn, 1) := by decide +kernel
set_option maxRecDepth 20000 in
theorem ggX8_draft_X8_in : GoodIn wsX8_draft wsX8_in := goodIn_r _ [10] (by decide +kernel) (by decide +kernel)
set_option maxRecDepth 20000 in
theorem gX8_draft_X8_in : GoodIn wsX8_draft (va_wsS RX8 68 yX8_in wsX8_in) := goodIn_app (goodIn_of _ (by decide +kernel)) ggX8_draft_X8_in
theorem dX8_draft_0 : decode cX8_draft 0 = .ok (.aload_n 0, 1) := by decide +kernel
theorem dX8_draft_1 : decode cX8_draft 1 = .ok (.iconst 0, 1) := by decide +kernel
theorem dX8_draft_2 : decode cX8_draft 2 = .ok (.putfield 61, 3) := by decide +kernel
theorem dX8_draft_5 : decode cX8_draft 5 = .ok (.iload_n 1, 1) := by decide +kernel
theorem dX8_draft_6 : decode cX8_draft 6 = .ok (.i2l, 1) := by decide +kernel
theorem dX8_draft_7 : decode cX8_draft 7 = .ok (.ldc2_w 72, 3) := by decide +kernel
theorem dX8_draft_10 : decode cX8_draft 10 = .ok (.ldc2_w 74, 3) := by decide +kernel
theorem dX8_draft_13 : decode cX8_draft 13 = .ok (.invokestatic 68, 3) := by decide +kernel
theorem dX8_draft_16 : decode cX8_draft 16 = .ok (.ifCond .ne 5, 3) := by decide +kernel
theorem dX8_draft_19 : decode cX8_draft 19 = .ok (.iconst 0, 1) := by decide +kernel
theorem dX8_draft_20 : decode cX8_draft 20 = .ok (.ireturn, 1) := by decide +kernel
theorem dX8_draft_21 : decode cX8_draft 21 = .ok (.aload_n 0, 1) := by decide +kernel
theorem dX8_draft_22 : decode cX8_draft 22 = .ok (.iconst 1, 1) := by decide +kernel
theorem dX8_draft_23 : decode cX8_draft 23 = .ok (.putfield 76, 3) := by decide +kernel
theorem dX8_draft_26 : decode cX8_draft 26 = .ok (.aload_n 0, 1) := by decide +kernel
theorem dX8_draft_27 : decode cX8_draft 27 = .ok (.iload_n 1, 1) := by decide +kernel
theorem dX8_draft_28 : decode cX8_draft 28 = .ok (.putfield 80, 3) := by decide +kernel
theorem dX8_draft_31 : decode cX8_draft 31 = .ok (.iconst 0, 1) := by decide +kernel
theorem dX8_draft_32 : decode cX8_draft 32 = .ok (.istore_n 2, 1) := by decide +kernel
theorem dX8_draft_33 : decode cX8_draft 33 = .ok (.iload_n 2, 1) := by decide +kernel
theorem dX8_draft_34 : decode cX8_draft 34 = .ok (.iload_n 1, 1) := by decide +kernel
theorem dX8_draft_35 : decode cX8_draft 35 = .ok (.if_icmp .ge 40, 3) := by decide +kernel
theorem dX8_draft_38 : decode cX8_draft 38 = .ok (.aload_n 0, 1) := by decide +kernel
theorem dX8_draft_39 : decode cX8_draft 39 = .ok (.getfield 17, 3) := by decide +kernel
theorem dX8_draft_42 : decode cX8_draft 42 = .ok (.iconst 3, 1) := by decide +kernel
theorem dX8_draft_43 : decode cX8_draft 43 = .ok (.iload_n 2, 1) := by decide +kernel
theorem dX8_draft_44 : decode cX8_draft 44 = .ok (.imul, 1) := by decide +kernel
theorem dX8_draft_45 : decode cX8_draft 45 = .ok (.lconst 1, 1) := by decide +kernel
theorem dX8_draft_46 : decode cX8_draft 46 = .ok (.lastore, 1) := by decide +kernel
theorem dX8_draft_47 : decode cX8_draft 47 = .ok (.aload_n 0, 1) := by decide +kernel
theorem dX8_draft_48 : decode cX8_draft 48 = .ok (.getfield 17, 3) := by decide +kernel
theorem dX8_draft_51 : decode cX8_draft 51 = .ok (.iconst 3, 1) := by decide +kernel
theorem dX8_draft_52 : decode cX8_draft 52 = .ok (.iload_n 2, 1) := by decide +kernel
theorem dX8_draft_53 : decode cX8_draft 53 = .ok (.imul, 1) := by decide +kernel
theorem dX8_draft_54 : decode cX8_draft 54 = .ok (.iconst 1, 1) := by decide +kernel
theorem dX8_draft_55 : decode cX8_draft 55 = .ok (.iadd, 1) := by decide +kernel
theorem dX8_draft_56 : decode cX8_draft 56 = .ok (.lconst 0, 1) := by decide +kernel
theorem dX8_draft_57 : decode cX8_draft 57 = .ok (.lastore, 1) := by decide +kernel
theorem dX8_draft_58 : decode cX8_draft 58 = .ok (.aload_n 0, 1) := by decide +kernel
theorem dX8_draft_59 : decode cX8_draft 59 = .ok (.getfield 17, 3) := by decide +kernel
theorem dX8_draft_62 : decode cX8_draft 62 = .ok (.iconst 3, 1) := by decide +kernel
theorem dX8_draft_63 : decode cX8_draft 63 = .ok (.iload_n 2, 1) := by decide +kernel
theorem dX8_draft_64 : decode cX8_draft 64 = .ok (.imul, 1) := by decide +kernel
theorem dX8_draft_65 : decode cX8_draft 65 = .ok (.iconst 2, 1) := by decide +kernel
theorem dX8_draft_66 : decode cX8_draft 66 = .ok (.iadd, 1) := by decide +kernel
theorem dX8_draft_67 : decode cX8_draft 67 = .ok (.lconst 1, 1) := by decide +kernel
theorem dX8_draft_68 : decode cX8_draft 68 = .ok (.lastore, 1) := by decide +kernel
theorem dX8_draft_69 : decode cX8_draft 69 = .ok (.iinc 2 1, 3) := by decide +kernel
theorem dX8_draft_72 : decode cX8_draft 72 = .ok (.goto (-39), 3) := by decide +kernel
theorem dX8_draft_75 : decode cX8_draft 75 = .ok (.iconst 1, 1) := by decide +kernel
theorem dX8_draft_76 : decode cX8_draft 76 = .ok (.ireturn, 1) := by decide +kernel
set_option maxRecDepth 20000 in
theorem ggX8_sheet_X8_in : GoodIn wsX8_sheet wsX8_in := goodIn_r _ [10] (by decide +kernel) (by decide +kernel)
set_option maxRecDepth 20000 in
theorem gX8_sheet_X8_in : GoodIn wsX8_sheet (va_wsS RX8 68 yX8_in wsX8_in) := goodIn_app (goodIn_of _ (by decide +kernel)) ggX8_sheet_X8_in
theorem dX8_sheet_0 : decode cX8_sheet 0 = .ok (.aload_n 0, 1) := by decide +kernel
theorem dX8_sheet_1 : decode cX8_sheet 1 = .ok (.iconst 0, 1) := by decide +kernel
theorem dX8_sheet_2 : decode cX8_sheet 2 = .ok (.putfield 61, 3) := by decide +kernel
theorem dX8_sheet_5 : decode cX8_sheet 5 = .ok (.iload_n 1, 1) := by decide +kernel
theorem dX8_sheet_6 : decode cX8_sheet 6 = .ok (.i2l, 1) := by decide +kernel
theorem dX8_sheet_7 : decode cX8_sheet 7 = .ok (.lconst 0, 1) := by decide +kernel
theorem dX8_sheet_8 : decode cX8_sheet 8 = .ok (.ldc2_w 83, 3) := by decide +kernel
theorem dX8_sheet_11 : decode cX8_sheet 11 = .ok (.invokestatic 68, 3) := by decide +kernel
theorem dX8_sheet_14 : decode cX8_sheet 14 = .ok (.ifCond .eq 20, 3) := by decide +kernel
theorem dX8_sheet_17 : decode cX8_sheet 17 = .ok (.iload_n 1, 1) := by decide +kernel
theorem dX8_sheet_18 : decode cX8_sheet 18 = .ok (.iconst 3, 1) := by decide +kernel
theorem dX8_sheet_19 : decode cX8_sheet 19 = .ok (.if_icmp .ge 17, 3) := by decide +kernel
theorem dX8_sheet_22 : decode cX8_sheet 22 = .ok (.iload_n 2, 1) := by decide +kernel
theorem dX8_sheet_23 : decode cX8_sheet 23 = .ok (.i2l, 1) := by decide +kernel
theorem dX8_sheet_24 : decode cX8_sheet 24 = .ok (.lconst 0, 1) := by decide +kernel
theorem dX8_sheet_25 : decode cX8_sheet 25 = .ok (.ldc2_w 74, 3) := by decide +kernel
theorem dX8_sheet_28 : decode cX8_sheet 28 = .ok (.invokestatic 68, 3) := by decide +kernel
theorem dX8_sheet_31 : decode cX8_sheet 31 = .ok (.ifCond .ne 5, 3) := by decide +kernel
theorem dX8_sheet_34 : decode cX8_sheet 34 = .ok (.iconst 0, 1) := by decide +kernel
theorem dX8_sheet_35 : decode cX8_sheet 35 = .ok (.ireturn, 1) := by decide +kernel
theorem dX8_sheet_36 : decode cX8_sheet 36 = .ok (.aload_n 0, 1) := by decide +kernel
theorem dX8_sheet_37 : decode cX8_sheet 37 = .ok (.iload_n 1, 1) := by decide +kernel
theorem dX8_sheet_38 : decode cX8_sheet 38 = .ok (.putfield 9, 3) := by decide +kernel
theorem dX8_sheet_41 : decode cX8_sheet 41 = .ok (.aload_n 0, 1) := by decide +kernel
theorem dX8_sheet_42 : decode cX8_sheet 42 = .ok (.iload_n 1, 1) := by decide +kernel
theorem dX8_sheet_43 : decode cX8_sheet 43 = .ok (.iconst 3, 1) := by decide +kernel
theorem dX8_sheet_44 : decode cX8_sheet 44 = .ok (.if_icmp .ne 7, 3) := by decide +kernel
theorem dX8_sheet_47 : decode cX8_sheet 47 = .ok (.iconst 0, 1) := by decide +kernel
theorem dX8_sheet_48 : decode cX8_sheet 48 = .ok (.goto 4, 3) := by decide +kernel
theorem dX8_sheet_51 : decode cX8_sheet 51 = .ok (.iload_n 2, 1) := by decide +kernel
theorem dX8_sheet_52 : decode cX8_sheet 52 = .ok (.putfield 85, 3) := by decide +kernel
theorem dX8_sheet_55 : decode cX8_sheet 55 = .ok (.iconst 0, 1) := by decide +kernel
theorem dX8_sheet_56 : decode cX8_sheet 56 = .ok (.istore_n 3, 1) := by decide +kernel
theorem dX8_sheet_57 : decode cX8_sheet 57 = .ok (.iload_n 3, 1) := by decide +kernel
theorem dX8_sheet_58 : decode cX8_sheet 58 = .ok (.aload_n 0, 1) := by decide +kernel
theorem dX8_sheet_59 : decode cX8_sheet 59 = .ok (.getfield 85, 3) := by decide +kernel
theorem dX8_sheet_62 : decode cX8_sheet 62 = .ok (.if_icmp .ge 16, 3) := by decide +kernel
theorem dX8_sheet_65 : decode cX8_sheet 65 = .ok (.aload_n 0, 1) := by decide +kernel
theorem dX8_sheet_66 : decode cX8_sheet 66 = .ok (.getfield 13, 3) := by decide +kernel
theorem dX8_sheet_69 : decode cX8_sheet 69 = .ok (.iload_n 3, 1) := by decide +kernel
theorem dX8_sheet_70 : decode cX8_sheet 70 = .ok (.lconst 0, 1) := by decide +kernel
theorem dX8_sheet_71 : decode cX8_sheet 71 = .ok (.lastore, 1) := by decide +kernel
theorem dX8_sheet_72 : decode cX8_sheet 72 = .ok (.iinc 3 1, 3) := by decide +kernel
theorem dX8_sheet_75 : decode cX8_sheet 75 = .ok (.goto (-18), 3) := by decide +kernel
theorem dX8_sheet_78 : decode cX8_sheet 78 = .ok (.iconst 1, 1) := by decide +kernel
theorem dX8_sheet_79 : decode cX8_sheet 79 = .ok (.ireturn, 1) := by decide +kernel
set_option maxRecDepth 20000 in
theorem ggX8_entry_X8_in : GoodIn wsX8_entry wsX8_in := goodIn_r _ [9] (by decide +kernel) (by decide +kernel)
set_option maxRecDepth 20000 in
theorem gX8_entry_X8_in : GoodIn wsX8_entry (va_wsS RX8 68 yX8_in wsX8_in) := goodIn_app (goodIn_of _ (by decide +kernel)) ggX8_entry_X8_in
theorem dX8_entry_0 : decode cX8_entry 0 = .ok (.aload_n 0, 1) := by decide +kernel
theorem dX8_entry_1 : decode cX8_entry 1 = .ok (.iconst 0, 1) := by decide +kernel
theorem dX8_entry_2 : decode cX8_entry 2 = .ok (.putfield 61, 3) := by decide +kernel
theorem dX8_entry_5 : decode cX8_entry 5 = .ok (.aload_n 0, 1) := by decide +kernel
theorem dX8_entry_6 : decode cX8_entry 6 = .ok (.getfield 9, 3) := by decide +kernel
theorem dX8_entry_9 : decode cX8_entry 9 = .ok (.i2l, 1) := by decide +kernel
theorem dX8_entry_10 : decode cX8_entry 10 = .ok (.lconst 0, 1) := by decide +kernel
theorem dX8_entry_11 : decode cX8_entry 11 = .ok (.ldc2_w 72, 3) := by decide +kernel
theorem dX8_entry_14 : decode cX8_entry 14 = .ok (.invokestatic 68, 3) := by decide +kernel
theorem dX8_entry_17 : decode cX8_entry 17 = .ok (.ifCond .eq 19, 3) := by decide +kernel
theorem dX8_entry_20 : decode cX8_entry 20 = .ok (.iload_n 1, 1) := by decide +kernel
theorem dX8_entry_21 : decode cX8_entry 21 = .ok (.i2l, 1) := by decide +kernel
theorem dX8_entry_22 : decode cX8_entry 22 = .ok (.lconst 0, 1) := by decide +kernel
theorem dX8_entry_23 : decode cX8_entry 23 = .ok (.aload_n 0, 1) := by decide +kernel
theorem dX8_entry_24 : decode cX8_entry 24 = .ok (.getfield 85, 3) := by decide +kernel
theorem dX8_entry_27 : decode cX8_entry 27 = .ok (.iconst 1, 1) := by decide +kernel
theorem dX8_entry_28 : decode cX8_entry 28 = .ok (.isub, 1) := by decide +kernel
theorem dX8_entry_29 : decode cX8_entry 29 = .ok (.i2l, 1) := by decide +kernel
theorem dX8_entry_30 : decode cX8_entry 30 = .ok (.invokestatic 68, 3) := by decide +kernel
theorem dX8_entry_33 : decode cX8_entry 33 = .ok (.ifCond .ne 5, 3) := by decide +kernel
theorem dX8_entry_36 : decode cX8_entry 36 = .ok (.iconst 0, 1) := by decide +kernel
theorem dX8_entry_37 : decode cX8_entry 37 = .ok (.ireturn, 1) := by decide +kernel
theorem dX8_entry_38 : decode cX8_entry 38 = .ok (.aload_n 0, 1) := by decide +kernel
theorem dX8_entry_39 : decode cX8_entry 39 = .ok (.getfield 13, 3) := by decide +kernel
theorem dX8_entry_42 : decode cX8_entry 42 = .ok (.iload_n 1, 1) := by decide +kernel
theorem dX8_entry_43 : decode cX8_entry 43 = .ok (.aload_n 0, 1) := by decide +kernel
theorem dX8_entry_44 : decode cX8_entry 44 = .ok (.getfield 9, 3) := by decide +kernel
theorem dX8_entry_47 : decode cX8_entry 47 = .ok (.ifCond .ne 10, 3) := by decide +kernel
theorem dX8_entry_50 : decode cX8_entry 50 = .ok (.lload_n 2, 1) := by decide +kernel
theorem dX8_entry_51 : decode cX8_entry 51 = .ok (.l2i, 1) := by decide +kernel
theorem dX8_entry_52 : decode cX8_entry 52 = .ok (.i2b, 1) := by decide +kernel
theorem dX8_entry_53 : decode cX8_entry 53 = .ok (.i2l, 1) := by decide +kernel
theorem dX8_entry_54 : decode cX8_entry 54 = .ok (.goto 18, 3) := by decide +kernel
theorem dX8_entry_57 : decode cX8_entry 57 = .ok (.aload_n 0, 1) := by decide +kernel
theorem dX8_entry_58 : decode cX8_entry 58 = .ok (.getfield 9, 3) := by decide +kernel
theorem dX8_entry_61 : decode cX8_entry 61 = .ok (.iconst 1, 1) := by decide +kernel
theorem dX8_entry_62 : decode cX8_entry 62 = .ok (.if_icmp .ne 9, 3) := by decide +kernel
theorem dX8_entry_65 : decode cX8_entry 65 = .ok (.lload_n 2, 1) := by decide +kernel
theorem dX8_entry_66 : decode cX8_entry 66 = .ok (.l2i, 1) := by decide +kernel
theorem dX8_entry_67 : decode cX8_entry 67 = .ok (.i2l, 1) := by decide +kernel
theorem dX8_entry_68 : decode cX8_entry 68 = .ok (.goto 4, 3) := by decide +kernel
theorem dX8_entry_71 : decode cX8_entry 71 = .ok (.lload_n 2, 1) := by decide +kernel
theorem dX8_entry_72 : decode cX8_entry 72 = .ok (.lastore, 1) := by decide +kernel
theorem dX8_entry_73 : decode cX8_entry 73 = .ok (.iconst 1, 1) := by decide +kernel
theorem dX8_entry_74 : decode cX8_entry 74 = .ok (.ireturn, 1) := by decide +kernel
set_option maxRecDepth 20000 in
theorem ggX8_lay_X8_in : GoodIn wsX8_lay wsX8_in := goodIn_r _ [16] (by decide +kernel) (by decide +kernel)
set_option maxRecDepth 20000 in
theorem gX8_lay_X8_in : GoodIn wsX8_lay (va_wsS RX8 68 yX8_in wsX8_in) := goodIn_app (goodIn_of _ (by decide +kernel)) ggX8_lay_X8_in
theorem dX8_lay_0 : decode cX8_lay 0 = .ok (.aload_n 0, 1) := by decide +kernel
theorem dX8_lay_1 : decode cX8_lay 1 = .ok (.iconst 0, 1) := by decide +kernel
theorem dX8_lay_2 : decode cX8_lay 2 = .ok (.putfield 61, 3) := by decide +kernel
theorem dX8_lay_5 : decode cX8_lay 5 = .ok (.aload_n 0, 1) := by decide +kernel
theorem dX8_lay_6 : decode cX8_lay 6 = .ok (.getfield 9, 3) := by decide +kernel
theorem dX8_lay_9 : decode cX8_lay 9 = .ok (.ifCond .lt 22, 3) := by decide +kernel
theorem dX8_lay_12 : decode cX8_lay 12 = .ok (.aload_n 0, 1) := by decide +kernel
theorem dX8_lay_13 : decode cX8_lay 13 = .ok (.getfield 76, 3) := by decide +kernel
theorem dX8_lay_16 : decode cX8_lay 16 = .ok (.ifCond .eq 15, 3) := by decide +kernel
theorem dX8_lay_19 : decode cX8_lay 19 = .ok (.iload_n 1, 1) := by decide +kernel
theorem dX8_lay_20 : decode cX8_lay 20 = .ok (.i2l, 1) := by decide +kernel
theorem dX8_lay_21 : decode cX8_lay 21 = .ok (.lconst 0, 1) := by decide +kernel
theorem dX8_lay_22 : decode cX8_lay 22 = .ok (.ldc2_w 72, 3) := by decide +kernel
theorem dX8_lay_25 : decode cX8_lay 25 = .ok (.invokestatic 68, 3) := by decide +kernel
theorem dX8_lay_28 : decode cX8_lay 28 = .ok (.ifCond .ne 5, 3) := by decide +kernel
theorem dX8_lay_31 : decode cX8_lay 31 = .ok (.iconst (-1), 1) := by decide +kernel
theorem dX8_lay_32 : decode cX8_lay 32 = .ok (.ireturn, 1) := by decide +kernel
theorem dX8_lay_33 : decode cX8_lay 33 = .ok (.aload_n 0, 1) := by decide +kernel
theorem dX8_lay_34 : decode cX8_lay 34 = .ok (.getfield 85, 3) := by decide +kernel
theorem dX8_lay_37 : decode cX8_lay 37 = .ok (.aload_n 0, 1) := by decide +kernel
theorem dX8_lay_38 : decode cX8_lay 38 = .ok (.getfield 80, 3) := by decide +kernel
theorem dX8_lay_41 : decode cX8_lay 41 = .ok (.invokestatic 88, 3) := by decide +kernel
theorem dX8_lay_44 : decode cX8_lay 44 = .ok (.istore_n 2, 1) := by decide +kernel
theorem dX8_lay_45 : decode cX8_lay 45 = .ok (.iconst 0, 1) := by decide +kernel
theorem dX8_lay_46 : decode cX8_lay 46 = .ok (.istore_n 3, 1) := by decide +kernel
theorem dX8_lay_47 : decode cX8_lay 47 = .ok (.iload_n 3, 1) := by decide +kernel
theorem dX8_lay_48 : decode cX8_lay 48 = .ok (.iload_n 2, 1) := by decide +kernel
theorem dX8_lay_49 : decode cX8_lay 49 = .ok (.if_icmp .ge 25, 3) := by decide +kernel
theorem dX8_lay_52 : decode cX8_lay 52 = .ok (.aload_n 0, 1) := by decide +kernel
theorem dX8_lay_53 : decode cX8_lay 53 = .ok (.getfield 17, 3) := by decide +kernel
theorem dX8_lay_56 : decode cX8_lay 56 = .ok (.iconst 3, 1) := by decide +kernel
theorem dX8_lay_57 : decode cX8_lay 57 = .ok (.iload_n 3, 1) := by decide +kernel
theorem dX8_lay_58 : decode cX8_lay 58 = .ok (.imul, 1) := by decide +kernel
theorem dX8_lay_59 : decode cX8_lay 59 = .ok (.iload_n 1, 1) := by decide +kernel
theorem dX8_lay_60 : decode cX8_lay 60 = .ok (.iadd, 1) := by decide +kernel
theorem dX8_lay_61 : decode cX8_lay 61 = .ok (.aload_n 0, 1) := by decide +kernel
theorem dX8_lay_62 : decode cX8_lay 62 = .ok (.getfield 13, 3) := by decide +kernel
theorem dX8_lay_65 : decode cX8_lay 65 = .ok (.iload_n 3, 1) := by decide +kernel
theorem dX8_lay_66 : decode cX8_lay 66 = .ok (.laload, 1) := by decide +kernel
theorem dX8_lay_67 : decode cX8_lay 67 = .ok (.lastore, 1) := by decide +kernel
theorem dX8_lay_68 : decode cX8_lay 68 = .ok (.iinc 3 1, 3) := by decide +kernel
theorem dX8_lay_71 : decode cX8_lay 71 = .ok (.goto (-24), 3) := by decide +kernel
theorem dX8_lay_74 : decode cX8_lay 74 = .ok (.aload_n 0, 1) := by decide +kernel
theorem dX8_lay_75 : decode cX8_lay 75 = .ok (.iconst (-1), 1) := by decide +kernel
theorem dX8_lay_76 : decode cX8_lay 76 = .ok (.putfield 9, 3) := by decide +kernel
theorem dX8_lay_79 : decode cX8_lay 79 = .ok (.iload_n 2, 1) := by decide +kernel
theorem dX8_lay_80 : decode cX8_lay 80 = .ok (.ireturn, 1) := by decide +kernel
set_option maxRecDepth 20000 in
theorem ggX8_isShare_X8_in : GoodIn wsX8_isShare wsX8_in := goodIn_r _ [6] (by decide +kernel) (by decide +kernel)
set_option maxRecDepth 20000 in
theorem gX8_isShare_X8_in : GoodIn wsX8_isShare (va_wsS RX8 68 yX8_in wsX8_in) := goodIn_app (goodIn_of _ (by decide +kernel)) ggX8_isShare_X8_in
theorem dX8_isShare_0 : decode cX8_isShare 0 = .ok (.lload_n 0, 1) := by decide +kernel
theorem dX8_isShare_1 : decode cX8_isShare 1 = .ok (.ldc2_w 94, 3) := by decide +kernel
theorem dX8_isShare_4 : decode cX8_isShare 4 = .ok (.ldc2_w 96, 3) := by decide +kernel
theorem dX8_isShare_7 : decode cX8_isShare 7 = .ok (.invokestatic 68, 3) := by decide +kernel
theorem dX8_isShare_10 : decode cX8_isShare 10 = .ok (.ifCond .eq 32, 3) := by decide +kernel
theorem dX8_isShare_13 : decode cX8_isShare 13 = .ok (.lload_n 2, 1) := by decide +kernel
theorem dX8_isShare_14 : decode cX8_isShare 14 = .ok (.ldc2_w 94, 3) := by decide +kernel
theorem dX8_isShare_17 : decode cX8_isShare 17 = .ok (.ldc2_w 96, 3) := by decide +kernel
theorem dX8_isShare_20 : decode cX8_isShare 20 = .ok (.invokestatic 68, 3) := by decide +kernel
theorem dX8_isShare_23 : decode cX8_isShare 23 = .ok (.ifCond .eq 19, 3) := by decide +kernel
theorem dX8_isShare_26 : decode cX8_isShare 26 = .ok (.lload 4, 2) := by decide +kernel
theorem dX8_isShare_28 : decode cX8_isShare 28 = .ok (.lconst 1, 1) := by decide +kernel
theorem dX8_isShare_29 : decode cX8_isShare 29 = .ok (.ldc2_w 96, 3) := by decide +kernel
theorem dX8_isShare_32 : decode cX8_isShare 32 = .ok (.invokestatic 68, 3) := by decide +kernel
theorem dX8_isShare_35 : decode cX8_isShare 35 = .ok (.ifCond .eq 7, 3) := by decide +kernel
theorem dX8_isShare_38 : decode cX8_isShare 38 = .ok (.iconst 1, 1) := by decide +kernel
theorem dX8_isShare_39 : decode cX8_isShare 39 = .ok (.goto 4, 3) := by decide +kernel
theorem dX8_isShare_42 : decode cX8_isShare 42 = .ok (.iconst 0, 1) := by decide +kernel
theorem dX8_isShare_43 : decode cX8_isShare 43 = .ok (.ireturn, 1) := by decide +kernel
set_option maxRecDepth 20000 in
theorem ggX8_seal_X8_refuse : GoodIn wsX8_seal wsX8_refuse := goodIn_r _ [12, 1, 21, 22, 23, 24, 25, 26, 27, 28, 29, 30, 31, 32, 33, 34, 35, 36, 37, 38, 39, 40, 41, 42, 43, 44, 45, 46, 47, 48, 49, 50, 51, 52, 53] (by decide +kernel) (by decide +kernel)
set_option maxRecDepth 20000 in
theorem gX8_seal_X8_refuse : GoodIn wsX8_seal (wsV RX8 98 RX8 yX8_refuse wsX8_refuse) := goodIn_app (goodIn_of _ (by decide +kernel)) ggX8_seal_X8_refuse
set_option maxRecDepth 20000 in
theorem ggX8_seal_X8_isShare : GoodIn wsX8_seal wsX8_isShare := goodIn_r _ [15, 16, 17, 18, 19, 11, 20] (by decide +kernel) (by decide +kernel)
set_option maxRecDepth 20000 in
theorem gX8_seal_X8_isShare : GoodIn wsX8_seal (va_wsS RX8 102 yX8_isShare wsX8_isShare) := goodIn_app (goodIn_of _ (by decide +kernel)) ggX8_seal_X8_isShare
theorem dX8_seal_0 : decode cX8_seal 0 = .ok (.aload_n 0, 1) := by decide +kernel
theorem dX8_seal_1 : decode cX8_seal 1 = .ok (.iconst 0, 1) := by decide +kernel
theorem dX8_seal_2 : decode cX8_seal 2 = .ok (.putfield 61, 3) := by decide +kernel
theorem dX8_seal_5 : decode cX8_seal 5 = .ok (.aload_n 0, 1) := by decide +kernel
theorem dX8_seal_6 : decode cX8_seal 6 = .ok (.getfield 76, 3) := by decide +kernel
theorem dX8_seal_9 : decode cX8_seal 9 = .ok (.ifCond .ne 10, 3) := by decide +kernel
theorem dX8_seal_12 : decode cX8_seal 12 = .ok (.aload_n 0, 1) := by decide +kernel
theorem dX8_seal_13 : decode cX8_seal 13 = .ok (.iconst 1, 1) := by decide +kernel
theorem dX8_seal_14 : decode cX8_seal 14 = .ok (.invokevirtual 98, 3) := by decide +kernel
theorem dX8_seal_17 : decode cX8_seal 17 = .ok (.l2i, 1) := by decide +kernel
theorem dX8_seal_18 : decode cX8_seal 18 = .ok (.ireturn, 1) := by decide +kernel
theorem dX8_seal_19 : decode cX8_seal 19 = .ok (.iconst 0, 1) := by decide +kernel
theorem dX8_seal_20 : decode cX8_seal 20 = .ok (.istore_n 1, 1) := by decide +kernel
theorem dX8_seal_21 : decode cX8_seal 21 = .ok (.iload_n 1, 1) := by decide +kernel
theorem dX8_seal_22 : decode cX8_seal 22 = .ok (.aload_n 0, 1) := by decide +kernel
theorem dX8_seal_23 : decode cX8_seal 23 = .ok (.getfield 80, 3) := by decide +kernel
theorem dX8_seal_26 : decode cX8_seal 26 = .ok (.if_icmp .ge 87, 3) := by decide +kernel
theorem dX8_seal_29 : decode cX8_seal 29 = .ok (.aload_n 0, 1) := by decide +kernel
theorem dX8_seal_30 : decode cX8_seal 30 = .ok (.getfield 17, 3) := by decide +kernel
theorem dX8_seal_33 : decode cX8_seal 33 = .ok (.iconst 3, 1) := by decide +kernel
theorem dX8_seal_34 : decode cX8_seal 34 = .ok (.iload_n 1, 1) := by decide +kernel
theorem dX8_seal_35 : decode cX8_seal 35 = .ok (.imul, 1) := by decide +kernel
theorem dX8_seal_36 : decode cX8_seal 36 = .ok (.laload, 1) := by decide +kernel
theorem dX8_seal_37 : decode cX8_seal 37 = .ok (.lstore_n 2, 1) := by decide +kernel
theorem dX8_seal_38 : decode cX8_seal 38 = .ok (.aload_n 0, 1) := by decide +kernel
theorem dX8_seal_39 : decode cX8_seal 39 = .ok (.getfield 17, 3) := by decide +kernel
theorem dX8_seal_42 : decode cX8_seal 42 = .ok (.iconst 3, 1) := by decide +kernel
theorem dX8_seal_43 : decode cX8_seal 43 = .ok (.iload_n 1, 1) := by decide +kernel
theorem dX8_seal_44 : decode cX8_seal 44 = .ok (.imul, 1) := by decide +kernel
theorem dX8_seal_45 : decode cX8_seal 45 = .ok (.iconst 1, 1) := by decide +kernel
theorem dX8_seal_46 : decode cX8_seal 46 = .ok (.iadd, 1) := by decide +kernel
theorem dX8_seal_47 : decode cX8_seal 47 = .ok (.laload, 1) := by decide +kernel
theorem dX8_seal_48 : decode cX8_seal 48 = .ok (.lstore 4, 2) := by decide +kernel
theorem dX8_seal_50 : decode cX8_seal 50 = .ok (.aload_n 0, 1) := by decide +kernel
theorem dX8_seal_51 : decode cX8_seal 51 = .ok (.getfield 17, 3) := by decide +kernel
theorem dX8_seal_54 : decode cX8_seal 54 = .ok (.iconst 3, 1) := by decide +kernel
theorem dX8_seal_55 : decode cX8_seal 55 = .ok (.iload_n 1, 1) := by decide +kernel
theorem dX8_seal_56 : decode cX8_seal 56 = .ok (.imul, 1) := by decide +kernel
theorem dX8_seal_57 : decode cX8_seal 57 = .ok (.iconst 2, 1) := by decide +kernel
theorem dX8_seal_58 : decode cX8_seal 58 = .ok (.iadd, 1) := by decide +kernel
theorem dX8_seal_59 : decode cX8_seal 59 = .ok (.laload, 1) := by decide +kernel
theorem dX8_seal_60 : decode cX8_seal 60 = .ok (.lstore 6, 2) := by decide +kernel
theorem dX8_seal_62 : decode cX8_seal 62 = .ok (.lload_n 2, 1) := by decide +kernel
theorem dX8_seal_63 : decode cX8_seal 63 = .ok (.lload 4, 2) := by decide +kernel
theorem dX8_seal_65 : decode cX8_seal 65 = .ok (.lload 6, 2) := by decide +kernel
theorem dX8_seal_67 : decode cX8_seal 67 = .ok (.invokestatic 102, 3) := by decide +kernel
theorem dX8_seal_70 : decode cX8_seal 70 = .ok (.ifCond .eq 33, 3) := by decide +kernel
theorem dX8_seal_73 : decode cX8_seal 73 = .ok (.lload_n 2, 1) := by decide +kernel
theorem dX8_seal_74 : decode cX8_seal 74 = .ok (.aload_n 0, 1) := by decide +kernel
theorem dX8_seal_75 : decode cX8_seal 75 = .ok (.getfield 80, 3) := by decide +kernel
theorem dX8_seal_78 : decode cX8_seal 78 = .ok (.i2l, 1) := by decide +kernel
theorem dX8_seal_79 : decode cX8_seal 79 = .ok (.lmul, 1) := by decide +kernel
theorem dX8_seal_80 : decode cX8_seal 80 = .ok (.lload 6, 2) := by decide +kernel
theorem dX8_seal_82 : decode cX8_seal 82 = .ok (.lrem, 1) := by decide +kernel
theorem dX8_seal_83 : decode cX8_seal 83 = .ok (.lconst 0, 1) := by decide +kernel
theorem dX8_seal_84 : decode cX8_seal 84 = .ok (.lcmp, 1) := by decide +kernel
theorem dX8_seal_85 : decode cX8_seal 85 = .ok (.ifCond .ne 18, 3) := by decide +kernel
theorem dX8_seal_88 : decode cX8_seal 88 = .ok (.lload_n 2, 1) := by decide +kernel
theorem dX8_seal_89 : decode cX8_seal 89 = .ok (.iload_n 1, 1) := by decide +kernel
theorem dX8_seal_90 : decode cX8_seal 90 = .ok (.i2l, 1) := by decide +kernel
theorem dX8_seal_91 : decode cX8_seal 91 = .ok (.lmul, 1) := by decide +kernel
theorem dX8_seal_92 : decode cX8_seal 92 = .ok (.lload 4, 2) := by decide +kernel
theorem dX8_seal_94 : decode cX8_seal 94 = .ok (.ladd, 1) := by decide +kernel
theorem dX8_seal_95 : decode cX8_seal 95 = .ok (.lload 6, 2) := by decide +kernel
theorem dX8_seal_97 : decode cX8_seal 97 = .ok (.lrem, 1) := by decide +kernel
theorem dX8_seal_98 : decode cX8_seal 98 = .ok (.lconst 0, 1) := by decide +kernel
theorem dX8_seal_99 : decode cX8_seal 99 = .ok (.lcmp, 1) := by decide +kernel
theorem dX8_seal_100 : decode cX8_seal 100 = .ok (.ifCond .eq 7, 3) := by decide +kernel
theorem dX8_seal_103 : decode cX8_seal 103 = .ok (.iconst (-1), 1) := by decide +kernel
theorem dX8_seal_104 : decode cX8_seal 104 = .ok (.iload_n 1, 1) := by decide +kernel
theorem dX8_seal_105 : decode cX8_seal 105 = .ok (.isub, 1) := by decide +kernel
theorem dX8_seal_106 : decode cX8_seal 106 = .ok (.ireturn, 1) := by decide +kernel
theorem dX8_seal_107 : decode cX8_seal 107 = .ok (.iinc 1 1, 3) := by decide +kernel
theorem dX8_seal_110 : decode cX8_seal 110 = .ok (.goto (-89), 3) := by decide +kernel
theorem dX8_seal_113 : decode cX8_seal 113 = .ok (.iconst 0, 1) := by decide +kernel
theorem dX8_seal_114 : decode cX8_seal 114 = .ok (.istore_n 1, 1) := by decide +kernel
theorem dX8_seal_115 : decode cX8_seal 115 = .ok (.iload_n 1, 1) := by decide +kernel
theorem dX8_seal_116 : decode cX8_seal 116 = .ok (.iconst 3, 1) := by decide +kernel
theorem dX8_seal_117 : decode cX8_seal 117 = .ok (.aload_n 0, 1) := by decide +kernel
theorem dX8_seal_118 : decode cX8_seal 118 = .ok (.getfield 80, 3) := by decide +kernel
theorem dX8_seal_121 : decode cX8_seal 121 = .ok (.imul, 1) := by decide +kernel
theorem dX8_seal_122 : decode cX8_seal 122 = .ok (.if_icmp .ge 21, 3) := by decide +kernel
theorem dX8_seal_125 : decode cX8_seal 125 = .ok (.aload_n 0, 1) := by decide +kernel
theorem dX8_seal_126 : decode cX8_seal 126 = .ok (.getfield 20, 3) := by decide +kernel
theorem dX8_seal_129 : decode cX8_seal 129 = .ok (.iload_n 1, 1) := by decide +kernel
theorem dX8_seal_130 : decode cX8_seal 130 = .ok (.aload_n 0, 1) := by decide +kernel
theorem dX8_seal_131 : decode cX8_seal 131 = .ok (.getfield 17, 3) := by decide +kernel
theorem dX8_seal_134 : decode cX8_seal 134 = .ok (.iload_n 1, 1) := by decide +kernel
theorem dX8_seal_135 : decode cX8_seal 135 = .ok (.laload, 1) := by decide +kernel
theorem dX8_seal_136 : decode cX8_seal 136 = .ok (.lastore, 1) := by decide +kernel
theorem dX8_seal_137 : decode cX8_seal 137 = .ok (.iinc 1 1, 3) := by decide +kernel
theorem dX8_seal_140 : decode cX8_seal 140 = .ok (.goto (-25), 3) := by decide +kernel
theorem dX8_seal_143 : decode cX8_seal 143 = .ok (.aload_n 0, 1) := by decide +kernel
theorem dX8_seal_144 : decode cX8_seal 144 = .ok (.aload_n 0, 1) := by decide +kernel
theorem dX8_seal_145 : decode cX8_seal 145 = .ok (.getfield 80, 3) := by decide +kernel
theorem dX8_seal_148 : decode cX8_seal 148 = .ok (.putfield 105, 3) := by decide +kernel
theorem dX8_seal_151 : decode cX8_seal 151 = .ok (.aload_n 0, 1) := by decide +kernel
theorem dX8_seal_152 : decode cX8_seal 152 = .ok (.iconst 1, 1) := by decide +kernel
theorem dX8_seal_153 : decode cX8_seal 153 = .ok (.putfield 108, 3) := by decide +kernel
theorem dX8_seal_156 : decode cX8_seal 156 = .ok (.aload_n 0, 1) := by decide +kernel
theorem dX8_seal_157 : decode cX8_seal 157 = .ok (.iconst 0, 1) := by decide +kernel
theorem dX8_seal_158 : decode cX8_seal 158 = .ok (.putfield 76, 3) := by decide +kernel
theorem dX8_seal_161 : decode cX8_seal 161 = .ok (.iconst 0, 1) := by decide +kernel
theorem dX8_seal_162 : decode cX8_seal 162 = .ok (.ireturn, 1) := by decide +kernel
theorem dX8_list_0 : decode cX8_list 0 = .ok (.aload_n 0, 1) := by decide +kernel
theorem dX8_list_1 : decode cX8_list 1 = .ok (.iconst 0, 1) := by decide +kernel
theorem dX8_list_2 : decode cX8_list 2 = .ok (.putfield 61, 3) := by decide +kernel
theorem dX8_list_5 : decode cX8_list 5 = .ok (.aload_n 0, 1) := by decide +kernel
theorem dX8_list_6 : decode cX8_list 6 = .ok (.iconst 2, 1) := by decide +kernel
theorem dX8_list_7 : decode cX8_list 7 = .ok (.putfield 108, 3) := by decide +kernel
theorem dX8_list_10 : decode cX8_list 10 = .ok (.aload_n 0, 1) := by decide +kernel
theorem dX8_list_11 : decode cX8_list 11 = .ok (.iconst 0, 1) := by decide +kernel
theorem dX8_list_12 : decode cX8_list 12 = .ok (.putfield 111, 3) := by decide +kernel
theorem dX8_list_15 : decode cX8_list 15 = .ok (.iconst 1, 1) := by decide +kernel
theorem dX8_list_16 : decode cX8_list 16 = .ok (.ireturn, 1) := by decide +kernel
set_option maxRecDepth 20000 in
theorem ggX8_add_X8_common : GoodIn wsX8_add wsX8_common := goodIn_ca (goodIn_r _ [7] (by decide +kernel) (by decide +kernel)) (goodIn_sub (fun _ h => List.mem_cons_of_mem _ (List.mem_append_right _ h)) (by decide +kernel))
set_option maxRecDepth 20000 in
theorem gX8_add_X8_common : GoodIn wsX8_add (va_wsS RX8 114 yX8_common wsX8_common) := goodIn_app (goodIn_of _ (by decide +kernel)) ggX8_add_X8_common
theorem dX8_add_0 : decode cX8_add 0 = .ok (.lload_n 1, 1) := by decide +kernel
theorem dX8_add_1 : decode cX8_add 1 = .ok (.lload_n 3, 1) := by decide +kernel
theorem dX8_add_2 : decode cX8_add 2 = .ok (.invokestatic 114, 3) := by decide +kernel
theorem dX8_add_5 : decode cX8_add 5 = .ok (.lstore 5, 2) := by decide +kernel
theorem dX8_add_7 : decode cX8_add 7 = .ok (.aload_n 0, 1) := by decide +kernel
theorem dX8_add_8 : decode cX8_add 8 = .ok (.getfield 23, 3) := by decide +kernel
theorem dX8_add_11 : decode cX8_add 11 = .ok (.aload_n 0, 1) := by decide +kernel
theorem dX8_add_12 : decode cX8_add 12 = .ok (.getfield 111, 3) := by decide +kernel
theorem dX8_add_15 : decode cX8_add 15 = .ok (.lload_n 1, 1) := by decide +kernel
theorem dX8_add_16 : decode cX8_add 16 = .ok (.lload 5, 2) := by decide +kernel
theorem dX8_add_18 : decode cX8_add 18 = .ok (.ldiv, 1) := by decide +kernel
theorem dX8_add_19 : decode cX8_add 19 = .ok (.lastore, 1) := by decide +kernel
theorem dX8_add_20 : decode cX8_add 20 = .ok (.aload_n 0, 1) := by decide +kernel
theorem dX8_add_21 : decode cX8_add 21 = .ok (.getfield 26, 3) := by decide +kernel
theorem dX8_add_24 : decode cX8_add 24 = .ok (.aload_n 0, 1) := by decide +kernel
theorem dX8_add_25 : decode cX8_add 25 = .ok (.getfield 111, 3) := by decide +kernel
theorem dX8_add_28 : decode cX8_add 28 = .ok (.lload_n 3, 1) := by decide +kernel
theorem dX8_add_29 : decode cX8_add 29 = .ok (.lload 5, 2) := by decide +kernel
theorem dX8_add_31 : decode cX8_add 31 = .ok (.ldiv, 1) := by decide +kernel
theorem dX8_add_32 : decode cX8_add 32 = .ok (.lastore, 1) := by decide +kernel
theorem dX8_add_33 : decode cX8_add 33 = .ok (.aload_n 0, 1) := by decide +kernel
theorem dX8_add_34 : decode cX8_add 34 = .ok (.dup, 1) := by decide +kernel
theorem dX8_add_35 : decode cX8_add 35 = .ok (.getfield 111, 3) := by decide +kernel
theorem dX8_add_38 : decode cX8_add 38 = .ok (.iconst 1, 1) := by decide +kernel
theorem dX8_add_39 : decode cX8_add 39 = .ok (.iadd, 1) := by decide +kernel
theorem dX8_add_40 : decode cX8_add 40 = .ok (.putfield 111, 3) := by decide +kernel
theorem dX8_add_43 : decode cX8_add 43 = .ok (.return_, 1) := by decide +kernel
set_option maxRecDepth 20000 in
theorem ggX8_fraction_X8_in : GoodIn wsX8_fraction wsX8_in := goodIn_r _ [8] (by decide +kernel) (by decide +kernel)
set_option maxRecDepth 20000 in
theorem gX8_fraction_X8_in : GoodIn wsX8_fraction (va_wsS RX8 68 yX8_in wsX8_in) := goodIn_app (goodIn_of _ (by decide +kernel)) ggX8_fraction_X8_in
set_option maxRecDepth 20000 in
theorem ggX8_fraction_X8_add : GoodIn wsX8_fraction wsX8_add := goodIn_ca (goodIn_r _ [12, 13, 4, 14, 15, 16, 7, 17, 18, 19, 20, 21, 22, 23, 24, 25, 26, 27, 28, 29, 30, 31, 32, 33, 34, 35, 36, 37, 38, 39, 40, 41, 42, 43, 44, 45, 46, 47, 48, 49, 50] (by decide +kernel) (by decide +kernel)) (goodIn_sub (fun _ h => List.mem_cons_of_mem _ (List.mem_append_right _ h)) (by decide +kernel))
set_option maxRecDepth 20000 in
theorem gX8_fraction_X8_add : GoodIn wsX8_fraction (wsV RX8 120 RX8 yX8_add wsX8_add) := goodIn_app (goodIn_of _ (by decide +kernel)) ggX8_fraction_X8_add
theorem dX8_fraction_0 : decode cX8_fraction 0 = .ok (.aload_n 0, 1) := by decide +kernel
theorem dX8_fraction_1 : decode cX8_fraction 1 = .ok (.iconst 0, 1) := by decide +kernel
theorem dX8_fraction_2 : decode cX8_fraction 2 = .ok (.putfield 61, 3) := by decide +kernel
theorem dX8_fraction_5 : decode cX8_fraction 5 = .ok (.aload_n 0, 1) := by decide +kernel
theorem dX8_fraction_6 : decode cX8_fraction 6 = .ok (.getfield 108, 3) := by decide +kernel
theorem dX8_fraction_9 : decode cX8_fraction 9 = .ok (.iconst 2, 1) := by decide +kernel
theorem dX8_fraction_10 : decode cX8_fraction 10 = .ok (.if_icmp .ne 34, 3) := by decide +kernel
theorem dX8_fraction_13 : decode cX8_fraction 13 = .ok (.lload_n 1, 1) := by decide +kernel
theorem dX8_fraction_14 : decode cX8_fraction 14 = .ok (.lconst 1, 1) := by decide +kernel
theorem dX8_fraction_15 : decode cX8_fraction 15 = .ok (.ldc2_w 118, 3) := by decide +kernel
theorem dX8_fraction_18 : decode cX8_fraction 18 = .ok (.invokestatic 68, 3) := by decide +kernel
theorem dX8_fraction_21 : decode cX8_fraction 21 = .ok (.ifCond .eq 23, 3) := by decide +kernel
theorem dX8_fraction_24 : decode cX8_fraction 24 = .ok (.lload_n 3, 1) := by decide +kernel
theorem dX8_fraction_25 : decode cX8_fraction 25 = .ok (.lconst 1, 1) := by decide +kernel
theorem dX8_fraction_26 : decode cX8_fraction 26 = .ok (.ldc2_w 118, 3) := by decide +kernel
theorem dX8_fraction_29 : decode cX8_fraction 29 = .ok (.invokestatic 68, 3) := by decide +kernel
theorem dX8_fraction_32 : decode cX8_fraction 32 = .ok (.ifCond .eq 12, 3) := by decide +kernel
theorem dX8_fraction_35 : decode cX8_fraction 35 = .ok (.aload_n 0, 1) := by decide +kernel
theorem dX8_fraction_36 : decode cX8_fraction 36 = .ok (.getfield 111, 3) := by decide +kernel
theorem dX8_fraction_39 : decode cX8_fraction 39 = .ok (.bipush 40, 2) := by decide +kernel
theorem dX8_fraction_41 : decode cX8_fraction 41 = .ok (.if_icmp .ne 5, 3) := by decide +kernel
theorem dX8_fraction_44 : decode cX8_fraction 44 = .ok (.iconst (-1), 1) := by decide +kernel
theorem dX8_fraction_45 : decode cX8_fraction 45 = .ok (.ireturn, 1) := by decide +kernel
theorem dX8_fraction_46 : decode cX8_fraction 46 = .ok (.aload_n 0, 1) := by decide +kernel
theorem dX8_fraction_47 : decode cX8_fraction 47 = .ok (.lload_n 1, 1) := by decide +kernel
theorem dX8_fraction_48 : decode cX8_fraction 48 = .ok (.lload_n 3, 1) := by decide +kernel
theorem dX8_fraction_49 : decode cX8_fraction 49 = .ok (.invokevirtual 120, 3) := by decide +kernel
theorem dX8_fraction_52 : decode cX8_fraction 52 = .ok (.aload_n 0, 1) := by decide +kernel
theorem dX8_fraction_53 : decode cX8_fraction 53 = .ok (.getfield 111, 3) := by decide +kernel
theorem dX8_fraction_56 : decode cX8_fraction 56 = .ok (.ireturn, 1) := by decide +kernel
theorem dX8_count_0 : decode cX8_count 0 = .ok (.aload_n 0, 1) := by decide +kernel
theorem dX8_count_1 : decode cX8_count 1 = .ok (.iconst 0, 1) := by decide +kernel
theorem dX8_count_2 : decode cX8_count 2 = .ok (.putfield 61, 3) := by decide +kernel
theorem dX8_count_5 : decode cX8_count 5 = .ok (.iload_n 1, 1) := by decide +kernel
theorem dX8_count_6 : decode cX8_count 6 = .ok (.tableswitch 112 0 6 #[42, 47, 64, 81, 86, 91, 96], 42) := by decide +kernel
theorem dX8_count_48 : decode cX8_count 48 = .ok (.aload_n 0, 1) := by decide +kernel
theorem dX8_count_49 : decode cX8_count 49 = .ok (.getfield 108, 3) := by decide +kernel
theorem dX8_count_52 : decode cX8_count 52 = .ok (.ireturn, 1) := by decide +kernel
theorem dX8_count_53 : decode cX8_count 53 = .ok (.aload_n 0, 1) := by decide +kernel
theorem dX8_count_54 : decode cX8_count 54 = .ok (.getfield 108, 3) := by decide +kernel
theorem dX8_count_57 : decode cX8_count 57 = .ok (.iconst 1, 1) := by decide +kernel
theorem dX8_count_58 : decode cX8_count 58 = .ok (.if_icmp .ne 10, 3) := by decide +kernel
theorem dX8_count_61 : decode cX8_count 61 = .ok (.aload_n 0, 1) := by decide +kernel
theorem dX8_count_62 : decode cX8_count 62 = .ok (.getfield 105, 3) := by decide +kernel
theorem dX8_count_65 : decode cX8_count 65 = .ok (.goto 4, 3) := by decide +kernel
theorem dX8_count_68 : decode cX8_count 68 = .ok (.iconst 0, 1) := by decide +kernel
theorem dX8_count_69 : decode cX8_count 69 = .ok (.ireturn, 1) := by decide +kernel
theorem dX8_count_70 : decode cX8_count 70 = .ok (.aload_n 0, 1) := by decide +kernel
theorem dX8_count_71 : decode cX8_count 71 = .ok (.getfield 108, 3) := by decide +kernel
theorem dX8_count_74 : decode cX8_count 74 = .ok (.iconst 2, 1) := by decide +kernel
theorem dX8_count_75 : decode cX8_count 75 = .ok (.if_icmp .ne 10, 3) := by decide +kernel
theorem dX8_count_78 : decode cX8_count 78 = .ok (.aload_n 0, 1) := by decide +kernel
theorem dX8_count_79 : decode cX8_count 79 = .ok (.getfield 111, 3) := by decide +kernel
theorem dX8_count_82 : decode cX8_count 82 = .ok (.goto 4, 3) := by decide +kernel
theorem dX8_count_85 : decode cX8_count 85 = .ok (.iconst 0, 1) := by decide +kernel
theorem dX8_count_86 : decode cX8_count 86 = .ok (.ireturn, 1) := by decide +kernel
theorem dX8_count_87 : decode cX8_count 87 = .ok (.aload_n 0, 1) := by decide +kernel
theorem dX8_count_88 : decode cX8_count 88 = .ok (.getfield 124, 3) := by decide +kernel
theorem dX8_count_91 : decode cX8_count 91 = .ok (.ireturn, 1) := by decide +kernel
theorem dX8_count_92 : decode cX8_count 92 = .ok (.aload_n 0, 1) := by decide +kernel
theorem dX8_count_93 : decode cX8_count 93 = .ok (.getfield 127, 3) := by decide +kernel
theorem dX8_count_96 : decode cX8_count 96 = .ok (.ireturn, 1) := by decide +kernel
theorem dX8_count_97 : decode cX8_count 97 = .ok (.aload_n 0, 1) := by decide +kernel
theorem dX8_count_98 : decode cX8_count 98 = .ok (.getfield 130, 3) := by decide +kernel
theorem dX8_count_101 : decode cX8_count 101 = .ok (.ireturn, 1) := by decide +kernel
theorem dX8_count_102 : decode cX8_count 102 = .ok (.aload_n 0, 1) := by decide +kernel
theorem dX8_count_103 : decode cX8_count 103 = .ok (.getfield 9, 3) := by decide +kernel
theorem dX8_count_106 : decode cX8_count 106 = .ok (.ifCond .ge 7, 3) := by decide +kernel
theorem dX8_count_109 : decode cX8_count 109 = .ok (.iconst (-1), 1) := by decide +kernel
theorem dX8_count_110 : decode cX8_count 110 = .ok (.goto 7, 3) := by decide +kernel
theorem dX8_count_113 : decode cX8_count 113 = .ok (.aload_n 0, 1) := by decide +kernel
theorem dX8_count_114 : decode cX8_count 114 = .ok (.getfield 85, 3) := by decide +kernel
theorem dX8_count_117 : decode cX8_count 117 = .ok (.ireturn, 1) := by decide +kernel
theorem dX8_count_118 : decode cX8_count 118 = .ok (.iconst (-1), 1) := by decide +kernel
theorem dX8_count_119 : decode cX8_count 119 = .ok (.ireturn, 1) := by decide +kernel
set_option maxRecDepth 20000 in
theorem ggX8_told_X8_in : GoodIn wsX8_told wsX8_in := goodIn_r _ [12] (by decide +kernel) (by decide +kernel)
set_option maxRecDepth 20000 in
theorem gX8_told_X8_in : GoodIn wsX8_told (va_wsS RX8 68 yX8_in wsX8_in) := goodIn_app (goodIn_of _ (by decide +kernel)) ggX8_told_X8_in
set_option maxRecDepth 20000 in
theorem ggX8_told_X8_refuse : GoodIn wsX8_told wsX8_refuse := goodIn_r _ [16, 1, 17, 18, 19, 20, 21, 22, 23, 24, 25, 26, 27, 28, 29, 30, 31, 32, 33, 34, 35, 36, 37, 38, 39, 40, 41, 42, 43, 44, 45, 46, 47, 48, 49] (by decide +kernel) (by decide +kernel)
set_option maxRecDepth 20000 in
theorem gX8_told_X8_refuse : GoodIn wsX8_told (wsV RX8 98 RX8 yX8_refuse wsX8_refuse) := goodIn_app (goodIn_of _ (by decide +kernel)) ggX8_told_X8_refuse
theorem dX8_told_0 : decode cX8_told 0 = .ok (.aload_n 0, 1) := by decide +kernel
theorem dX8_told_1 : decode cX8_told 1 = .ok (.iconst 0, 1) := by decide +kernel
theorem dX8_told_2 : decode cX8_told 2 = .ok (.putfield 61, 3) := by decide +kernel
theorem dX8_told_5 : decode cX8_told 5 = .ok (.aload_n 0, 1) := by decide +kernel
theorem dX8_told_6 : decode cX8_told 6 = .ok (.getfield 108, 3) := by decide +kernel
theorem dX8_told_9 : decode cX8_told 9 = .ok (.iconst 1, 1) := by decide +kernel
theorem dX8_told_10 : decode cX8_told 10 = .ok (.if_icmp .ne 42, 3) := by decide +kernel
theorem dX8_told_13 : decode cX8_told 13 = .ok (.iload_n 1, 1) := by decide +kernel
theorem dX8_told_14 : decode cX8_told 14 = .ok (.i2l, 1) := by decide +kernel
theorem dX8_told_15 : decode cX8_told 15 = .ok (.lconst 0, 1) := by decide +kernel
theorem dX8_told_16 : decode cX8_told 16 = .ok (.aload_n 0, 1) := by decide +kernel
theorem dX8_told_17 : decode cX8_told 17 = .ok (.getfield 105, 3) := by decide +kernel
theorem dX8_told_20 : decode cX8_told 20 = .ok (.iconst 1, 1) := by decide +kernel
theorem dX8_told_21 : decode cX8_told 21 = .ok (.isub, 1) := by decide +kernel
theorem dX8_told_22 : decode cX8_told 22 = .ok (.i2l, 1) := by decide +kernel
theorem dX8_told_23 : decode cX8_told 23 = .ok (.invokestatic 68, 3) := by decide +kernel
theorem dX8_told_26 : decode cX8_told 26 = .ok (.ifCond .eq 26, 3) := by decide +kernel
theorem dX8_told_29 : decode cX8_told 29 = .ok (.iload_n 2, 1) := by decide +kernel
theorem dX8_told_30 : decode cX8_told 30 = .ok (.i2l, 1) := by decide +kernel
theorem dX8_told_31 : decode cX8_told 31 = .ok (.lconst 0, 1) := by decide +kernel
theorem dX8_told_32 : decode cX8_told 32 = .ok (.ldc2_w 72, 3) := by decide +kernel
theorem dX8_told_35 : decode cX8_told 35 = .ok (.invokestatic 68, 3) := by decide +kernel
theorem dX8_told_38 : decode cX8_told 38 = .ok (.ifCond .eq 14, 3) := by decide +kernel
theorem dX8_told_41 : decode cX8_told 41 = .ok (.aload_n 0, 1) := by decide +kernel
theorem dX8_told_42 : decode cX8_told 42 = .ok (.getfield 20, 3) := by decide +kernel
theorem dX8_told_45 : decode cX8_told 45 = .ok (.iconst 3, 1) := by decide +kernel
theorem dX8_told_46 : decode cX8_told 46 = .ok (.iload_n 1, 1) := by decide +kernel
theorem dX8_told_47 : decode cX8_told 47 = .ok (.imul, 1) := by decide +kernel
theorem dX8_told_48 : decode cX8_told 48 = .ok (.iload_n 2, 1) := by decide +kernel
theorem dX8_told_49 : decode cX8_told 49 = .ok (.iadd, 1) := by decide +kernel
theorem dX8_told_50 : decode cX8_told 50 = .ok (.laload, 1) := by decide +kernel
theorem dX8_told_51 : decode cX8_told 51 = .ok (.lreturn, 1) := by decide +kernel
theorem dX8_told_52 : decode cX8_told 52 = .ok (.aload_n 0, 1) := by decide +kernel
theorem dX8_told_53 : decode cX8_told 53 = .ok (.getfield 108, 3) := by decide +kernel
theorem dX8_told_56 : decode cX8_told 56 = .ok (.iconst 2, 1) := by decide +kernel
theorem dX8_told_57 : decode cX8_told 57 = .ok (.if_icmp .ne 49, 3) := by decide +kernel
theorem dX8_told_60 : decode cX8_told 60 = .ok (.iload_n 1, 1) := by decide +kernel
theorem dX8_told_61 : decode cX8_told 61 = .ok (.i2l, 1) := by decide +kernel
theorem dX8_told_62 : decode cX8_told 62 = .ok (.lconst 0, 1) := by decide +kernel
theorem dX8_told_63 : decode cX8_told 63 = .ok (.aload_n 0, 1) := by decide +kernel
theorem dX8_told_64 : decode cX8_told 64 = .ok (.getfield 111, 3) := by decide +kernel
theorem dX8_told_67 : decode cX8_told 67 = .ok (.iconst 1, 1) := by decide +kernel
theorem dX8_told_68 : decode cX8_told 68 = .ok (.isub, 1) := by decide +kernel
theorem dX8_told_69 : decode cX8_told 69 = .ok (.i2l, 1) := by decide +kernel
theorem dX8_told_70 : decode cX8_told 70 = .ok (.invokestatic 68, 3) := by decide +kernel
theorem dX8_told_73 : decode cX8_told 73 = .ok (.ifCond .eq 33, 3) := by decide +kernel
theorem dX8_told_76 : decode cX8_told 76 = .ok (.iload_n 2, 1) := by decide +kernel
theorem dX8_told_77 : decode cX8_told 77 = .ok (.i2l, 1) := by decide +kernel
theorem dX8_told_78 : decode cX8_told 78 = .ok (.lconst 0, 1) := by decide +kernel
theorem dX8_told_79 : decode cX8_told 79 = .ok (.lconst 1, 1) := by decide +kernel
theorem dX8_told_80 : decode cX8_told 80 = .ok (.invokestatic 68, 3) := by decide +kernel
theorem dX8_told_83 : decode cX8_told 83 = .ok (.ifCond .eq 23, 3) := by decide +kernel
theorem dX8_told_86 : decode cX8_told 86 = .ok (.iload_n 2, 1) := by decide +kernel
theorem dX8_told_87 : decode cX8_told 87 = .ok (.ifCond .ne 12, 3) := by decide +kernel
theorem dX8_told_90 : decode cX8_told 90 = .ok (.aload_n 0, 1) := by decide +kernel
theorem dX8_told_91 : decode cX8_told 91 = .ok (.getfield 23, 3) := by decide +kernel
theorem dX8_told_94 : decode cX8_told 94 = .ok (.iload_n 1, 1) := by decide +kernel
theorem dX8_told_95 : decode cX8_told 95 = .ok (.laload, 1) := by decide +kernel
theorem dX8_told_96 : decode cX8_told 96 = .ok (.goto 9, 3) := by decide +kernel
theorem dX8_told_99 : decode cX8_told 99 = .ok (.aload_n 0, 1) := by decide +kernel
theorem dX8_told_100 : decode cX8_told 100 = .ok (.getfield 26, 3) := by decide +kernel
theorem dX8_told_103 : decode cX8_told 103 = .ok (.iload_n 1, 1) := by decide +kernel
theorem dX8_told_104 : decode cX8_told 104 = .ok (.laload, 1) := by decide +kernel
theorem dX8_told_105 : decode cX8_told 105 = .ok (.lreturn, 1) := by decide +kernel
theorem dX8_told_106 : decode cX8_told 106 = .ok (.aload_n 0, 1) := by decide +kernel
theorem dX8_told_107 : decode cX8_told 107 = .ok (.iconst 1, 1) := by decide +kernel
theorem dX8_told_108 : decode cX8_told 108 = .ok (.invokevirtual 98, 3) := by decide +kernel
theorem dX8_told_111 : decode cX8_told 111 = .ok (.lreturn, 1) := by decide +kernel
set_option maxRecDepth 20000 in
theorem ggX8_restBy_J9_floorMod_f86c9 : GoodIn wsX8_restBy wsJ9_floorMod_f86c9 := goodIn_r _ [4] (by decide +kernel) (by decide +kernel)
set_option maxRecDepth 20000 in
theorem gX8_restBy_J9_floorMod_f86c9 : GoodIn wsX8_restBy (va_wsS RX8 133 yJ9_floorMod_f86c9 wsJ9_floorMod_f86c9) := goodIn_app (goodIn_of _ (by decide +kernel)) ggX8_restBy_J9_floorMod_f86c9
theorem dX8_restBy_0 : decode cX8_restBy 0 = .ok (.lload_n 0, 1) := by decide +kernel
theorem dX8_restBy_1 : decode cX8_restBy 1 = .ok (.iload_n 2, 1) := by decide +kernel
theorem dX8_restBy_2 : decode cX8_restBy 2 = .ok (.i2l, 1) := by decide +kernel
theorem dX8_restBy_3 : decode cX8_restBy 3 = .ok (.invokestatic 133, 3) := by decide +kernel
theorem dX8_restBy_6 : decode cX8_restBy 6 = .ok (.lreturn, 1) := by decide +kernel
set_option maxRecDepth 20000 in
theorem ggX8_way_X8_restBy : GoodIn wsX8_way wsX8_restBy := goodIn_r _ [8, 9, 10, 11, 12] (by decide +kernel) (by decide +kernel)
set_option maxRecDepth 20000 in
theorem gX8_way_X8_restBy : GoodIn wsX8_way (va_wsS RX8 136 yX8_restBy wsX8_restBy) := goodIn_app (goodIn_of _ (by decide +kernel)) ggX8_way_X8_restBy
theorem dX8_way_0 : decode cX8_way 0 = .ok (.aload_n 0, 1) := by decide +kernel
theorem dX8_way_1 : decode cX8_way 1 = .ok (.getfield 108, 3) := by decide +kernel
theorem dX8_way_4 : decode cX8_way 4 = .ok (.iconst 1, 1) := by decide +kernel
theorem dX8_way_5 : decode cX8_way 5 = .ok (.if_icmp .ne 13, 3) := by decide +kernel
theorem dX8_way_8 : decode cX8_way 8 = .ok (.lload_n 1, 1) := by decide +kernel
theorem dX8_way_9 : decode cX8_way 9 = .ok (.aload_n 0, 1) := by decide +kernel
theorem dX8_way_10 : decode cX8_way 10 = .ok (.getfield 105, 3) := by decide +kernel
theorem dX8_way_13 : decode cX8_way 13 = .ok (.invokestatic 136, 3) := by decide +kernel
theorem dX8_way_16 : decode cX8_way 16 = .ok (.l2i, 1) := by decide +kernel
theorem dX8_way_17 : decode cX8_way 17 = .ok (.ireturn, 1) := by decide +kernel
theorem dX8_way_18 : decode cX8_way 18 = .ok (.iconst 0, 1) := by decide +kernel
theorem dX8_way_19 : decode cX8_way 19 = .ok (.istore_n 3, 1) := by decide +kernel
theorem dX8_way_20 : decode cX8_way 20 = .ok (.iload_n 3, 1) := by decide +kernel
theorem dX8_way_21 : decode cX8_way 21 = .ok (.aload_n 0, 1) := by decide +kernel
theorem dX8_way_22 : decode cX8_way 22 = .ok (.getfield 111, 3) := by decide +kernel
theorem dX8_way_25 : decode cX8_way 25 = .ok (.if_icmp .ge 30, 3) := by decide +kernel
theorem dX8_way_28 : decode cX8_way 28 = .ok (.lload_n 1, 1) := by decide +kernel
theorem dX8_way_29 : decode cX8_way 29 = .ok (.lconst 1, 1) := by decide +kernel
theorem dX8_way_30 : decode cX8_way 30 = .ok (.lcmp, 1) := by decide +kernel
theorem dX8_way_31 : decode cX8_way 31 = .ok (.ifCond .lt 24, 3) := by decide +kernel
theorem dX8_way_34 : decode cX8_way 34 = .ok (.lload_n 1, 1) := by decide +kernel
theorem dX8_way_35 : decode cX8_way 35 = .ok (.aload_n 0, 1) := by decide +kernel
theorem dX8_way_36 : decode cX8_way 36 = .ok (.getfield 26, 3) := by decide +kernel
theorem dX8_way_39 : decode cX8_way 39 = .ok (.iload_n 3, 1) := by decide +kernel
theorem dX8_way_40 : decode cX8_way 40 = .ok (.laload, 1) := by decide +kernel
theorem dX8_way_41 : decode cX8_way 41 = .ok (.lrem, 1) := by decide +kernel
theorem dX8_way_42 : decode cX8_way 42 = .ok (.lconst 0, 1) := by decide +kernel
theorem dX8_way_43 : decode cX8_way 43 = .ok (.lcmp, 1) := by decide +kernel
theorem dX8_way_44 : decode cX8_way 44 = .ok (.ifCond .ne 5, 3) := by decide +kernel
theorem dX8_way_47 : decode cX8_way 47 = .ok (.iload_n 3, 1) := by decide +kernel
theorem dX8_way_48 : decode cX8_way 48 = .ok (.ireturn, 1) := by decide +kernel
theorem dX8_way_49 : decode cX8_way 49 = .ok (.iinc 3 1, 3) := by decide +kernel
theorem dX8_way_52 : decode cX8_way 52 = .ok (.goto (-32), 3) := by decide +kernel
theorem dX8_way_55 : decode cX8_way 55 = .ok (.iconst (-1), 1) := by decide +kernel
theorem dX8_way_56 : decode cX8_way 56 = .ok (.ireturn, 1) := by decide +kernel
set_option maxRecDepth 20000 in
theorem ggX8_goes_X8_way : GoodIn wsX8_goes wsX8_way := goodIn_ca (goodIn_r _ [12, 1, 13, 14, 2, 15, 16, 11, 17, 18, 19, 20, 21, 29, 30, 31, 32, 33, 34, 35, 36, 37, 38, 39, 40, 41, 42, 43, 44, 45, 46, 47, 48, 49, 50, 51, 52, 53, 54, 55, 56, 57, 58, 59, 60, 61] (by decide +kernel) (by decide +kernel)) (goodIn_sub (fun _ h => List.mem_cons_of_mem _ (List.mem_append_right _ h)) (by decide +kernel))
set_option maxRecDepth 20000 in
theorem gX8_goes_X8_way : GoodIn wsX8_goes (wsV RX8 140 RX8 yX8_way wsX8_way) := goodIn_app (goodIn_of _ (by decide +kernel)) ggX8_goes_X8_way
set_option maxRecDepth 20000 in
theorem ggX8_goes_X8_isNumber : GoodIn wsX8_goes wsX8_isNumber := goodIn_r _ [24, 25, 3, 26, 27, 11, 28] (by decide +kernel) (by decide +kernel)
set_option maxRecDepth 20000 in
theorem gX8_goes_X8_isNumber : GoodIn wsX8_goes (va_wsS RX8 150 yX8_isNumber wsX8_isNumber) := goodIn_app (goodIn_of _ (by decide +kernel)) ggX8_goes_X8_isNumber
theorem dX8_goes_0 : decode cX8_goes 0 = .ok (.aload_n 0, 1) := by decide +kernel
theorem dX8_goes_1 : decode cX8_goes 1 = .ok (.lload_n 1, 1) := by decide +kernel
theorem dX8_goes_2 : decode cX8_goes 2 = .ok (.invokevirtual 140, 3) := by decide +kernel
theorem dX8_goes_5 : decode cX8_goes 5 = .ok (.istore_n 3, 1) := by decide +kernel
theorem dX8_goes_6 : decode cX8_goes 6 = .ok (.iload_n 3, 1) := by decide +kernel
theorem dX8_goes_7 : decode cX8_goes 7 = .ok (.ifCond .ge 5, 3) := by decide +kernel
theorem dX8_goes_10 : decode cX8_goes 10 = .ok (.iconst 1, 1) := by decide +kernel
theorem dX8_goes_11 : decode cX8_goes 11 = .ok (.ireturn, 1) := by decide +kernel
theorem dX8_goes_12 : decode cX8_goes 12 = .ok (.aload_n 0, 1) := by decide +kernel
theorem dX8_goes_13 : decode cX8_goes 13 = .ok (.getfield 108, 3) := by decide +kernel
theorem dX8_goes_16 : decode cX8_goes 16 = .ok (.iconst 2, 1) := by decide +kernel
theorem dX8_goes_17 : decode cX8_goes 17 = .ok (.if_icmp .ne 51, 3) := by decide +kernel
theorem dX8_goes_20 : decode cX8_goes 20 = .ok (.lload_n 1, 1) := by decide +kernel
theorem dX8_goes_21 : decode cX8_goes 21 = .ok (.aload_n 0, 1) := by decide +kernel
theorem dX8_goes_22 : decode cX8_goes 22 = .ok (.getfield 26, 3) := by decide +kernel
theorem dX8_goes_25 : decode cX8_goes 25 = .ok (.iload_n 3, 1) := by decide +kernel
theorem dX8_goes_26 : decode cX8_goes 26 = .ok (.laload, 1) := by decide +kernel
theorem dX8_goes_27 : decode cX8_goes 27 = .ok (.ldiv, 1) := by decide +kernel
theorem dX8_goes_28 : decode cX8_goes 28 = .ok (.lstore 4, 2) := by decide +kernel
theorem dX8_goes_30 : decode cX8_goes 30 = .ok (.aload_n 0, 1) := by decide +kernel
theorem dX8_goes_31 : decode cX8_goes 31 = .ok (.lload 4, 2) := by decide +kernel
theorem dX8_goes_33 : decode cX8_goes 33 = .ok (.ldc2_w 66, 3) := by decide +kernel
theorem dX8_goes_36 : decode cX8_goes 36 = .ok (.aload_n 0, 1) := by decide +kernel
theorem dX8_goes_37 : decode cX8_goes 37 = .ok (.getfield 23, 3) := by decide +kernel
theorem dX8_goes_40 : decode cX8_goes 40 = .ok (.iload_n 3, 1) := by decide +kernel
theorem dX8_goes_41 : decode cX8_goes 41 = .ok (.laload, 1) := by decide +kernel
theorem dX8_goes_42 : decode cX8_goes 42 = .ok (.ldiv, 1) := by decide +kernel
theorem dX8_goes_43 : decode cX8_goes 43 = .ok (.lcmp, 1) := by decide +kernel
theorem dX8_goes_44 : decode cX8_goes 44 = .ok (.ifCond .le 9, 3) := by decide +kernel
theorem dX8_goes_47 : decode cX8_goes 47 = .ok (.ldc2_w 144, 3) := by decide +kernel
theorem dX8_goes_50 : decode cX8_goes 50 = .ok (.goto 12, 3) := by decide +kernel
theorem dX8_goes_53 : decode cX8_goes 53 = .ok (.lload 4, 2) := by decide +kernel
theorem dX8_goes_55 : decode cX8_goes 55 = .ok (.aload_n 0, 1) := by decide +kernel
theorem dX8_goes_56 : decode cX8_goes 56 = .ok (.getfield 23, 3) := by decide +kernel
theorem dX8_goes_59 : decode cX8_goes 59 = .ok (.iload_n 3, 1) := by decide +kernel
theorem dX8_goes_60 : decode cX8_goes 60 = .ok (.laload, 1) := by decide +kernel
theorem dX8_goes_61 : decode cX8_goes 61 = .ok (.lmul, 1) := by decide +kernel
theorem dX8_goes_62 : decode cX8_goes 62 = .ok (.putfield 146, 3) := by decide +kernel
theorem dX8_goes_65 : decode cX8_goes 65 = .ok (.goto 39, 3) := by decide +kernel
theorem dX8_goes_68 : decode cX8_goes 68 = .ok (.aload_n 0, 1) := by decide +kernel
theorem dX8_goes_69 : decode cX8_goes 69 = .ok (.aload_n 0, 1) := by decide +kernel
theorem dX8_goes_70 : decode cX8_goes 70 = .ok (.getfield 20, 3) := by decide +kernel
theorem dX8_goes_73 : decode cX8_goes 73 = .ok (.iconst 3, 1) := by decide +kernel
theorem dX8_goes_74 : decode cX8_goes 74 = .ok (.iload_n 3, 1) := by decide +kernel
theorem dX8_goes_75 : decode cX8_goes 75 = .ok (.imul, 1) := by decide +kernel
theorem dX8_goes_76 : decode cX8_goes 76 = .ok (.laload, 1) := by decide +kernel
theorem dX8_goes_77 : decode cX8_goes 77 = .ok (.lload_n 1, 1) := by decide +kernel
theorem dX8_goes_78 : decode cX8_goes 78 = .ok (.lmul, 1) := by decide +kernel
theorem dX8_goes_79 : decode cX8_goes 79 = .ok (.aload_n 0, 1) := by decide +kernel
theorem dX8_goes_80 : decode cX8_goes 80 = .ok (.getfield 20, 3) := by decide +kernel
theorem dX8_goes_83 : decode cX8_goes 83 = .ok (.iconst 3, 1) := by decide +kernel
theorem dX8_goes_84 : decode cX8_goes 84 = .ok (.iload_n 3, 1) := by decide +kernel
theorem dX8_goes_85 : decode cX8_goes 85 = .ok (.imul, 1) := by decide +kernel
theorem dX8_goes_86 : decode cX8_goes 86 = .ok (.iconst 1, 1) := by decide +kernel
theorem dX8_goes_87 : decode cX8_goes 87 = .ok (.iadd, 1) := by decide +kernel
theorem dX8_goes_88 : decode cX8_goes 88 = .ok (.laload, 1) := by decide +kernel
theorem dX8_goes_89 : decode cX8_goes 89 = .ok (.ladd, 1) := by decide +kernel
theorem dX8_goes_90 : decode cX8_goes 90 = .ok (.aload_n 0, 1) := by decide +kernel
theorem dX8_goes_91 : decode cX8_goes 91 = .ok (.getfield 20, 3) := by decide +kernel
theorem dX8_goes_94 : decode cX8_goes 94 = .ok (.iconst 3, 1) := by decide +kernel
theorem dX8_goes_95 : decode cX8_goes 95 = .ok (.iload_n 3, 1) := by decide +kernel
theorem dX8_goes_96 : decode cX8_goes 96 = .ok (.imul, 1) := by decide +kernel
theorem dX8_goes_97 : decode cX8_goes 97 = .ok (.iconst 2, 1) := by decide +kernel
theorem dX8_goes_98 : decode cX8_goes 98 = .ok (.iadd, 1) := by decide +kernel
theorem dX8_goes_99 : decode cX8_goes 99 = .ok (.laload, 1) := by decide +kernel
theorem dX8_goes_100 : decode cX8_goes 100 = .ok (.ldiv, 1) := by decide +kernel
theorem dX8_goes_101 : decode cX8_goes 101 = .ok (.putfield 146, 3) := by decide +kernel
theorem dX8_goes_104 : decode cX8_goes 104 = .ok (.aload_n 0, 1) := by decide +kernel
theorem dX8_goes_105 : decode cX8_goes 105 = .ok (.getfield 146, 3) := by decide +kernel
theorem dX8_goes_108 : decode cX8_goes 108 = .ok (.invokestatic 150, 3) := by decide +kernel
theorem dX8_goes_111 : decode cX8_goes 111 = .ok (.ifCond .eq 7, 3) := by decide +kernel
theorem dX8_goes_114 : decode cX8_goes 114 = .ok (.iconst 0, 1) := by decide +kernel
theorem dX8_goes_115 : decode cX8_goes 115 = .ok (.goto 4, 3) := by decide +kernel
theorem dX8_goes_118 : decode cX8_goes 118 = .ok (.iconst 2, 1) := by decide +kernel
theorem dX8_goes_119 : decode cX8_goes 119 = .ok (.ireturn, 1) := by decide +kernel
set_option maxRecDepth 20000 in
theorem ggX8_step_X8_refuse : GoodIn wsX8_step wsX8_refuse := goodIn_r _ [8, 1, 38, 39, 40, 41, 42, 43, 44, 45, 46, 47, 48, 49, 50, 51, 52, 53, 54, 55, 56, 57, 58, 59, 60, 61, 62, 63, 64, 65, 66, 67, 68, 69, 70] (by decide +kernel) (by decide +kernel)
set_option maxRecDepth 20000 in
theorem gX8_step_X8_refuse : GoodIn wsX8_step (wsV RX8 98 RX8 yX8_refuse wsX8_refuse) := goodIn_app (goodIn_of _ (by decide +kernel)) ggX8_step_X8_refuse
set_option maxRecDepth 20000 in
theorem ggX8_step_X8_isNumber : GoodIn wsX8_step wsX8_isNumber := goodIn_r _ [11, 12, 13, 14, 15, 7, 16] (by decide +kernel) (by decide +kernel)
set_option maxRecDepth 20000 in
theorem gX8_step_X8_isNumber : GoodIn wsX8_step (va_wsS RX8 150 yX8_isNumber wsX8_isNumber) := goodIn_app (goodIn_of _ (by decide +kernel)) ggX8_step_X8_isNumber
set_option maxRecDepth 20000 in
theorem ggX8_step_X8_goes : GoodIn wsX8_step wsX8_goes := goodIn_ca (goodIn_r _ [20, 2, 21, 13, 22, 23, 3, 24, 25, 26, 27, 7, 28, 29, 30, 31, 32, 33, 34, 35, 36, 37, 9, 10, 11, 12, 14, 15, 16, 38, 39, 40, 41, 42, 43, 44, 45, 46, 47, 48, 49, 50, 51, 52, 53, 54, 55, 56, 57, 58, 59, 60, 61, 62, 63, 64, 65, 66, 67, 68, 69, 70] (by decide +kernel) (by decide +kernel)) (goodIn_sub (fun _ h => List.mem_cons_of_mem _ (List.mem_append_right _ h)) (by decide +kernel))
set_option maxRecDepth 20000 in
theorem gX8_step_X8_goes : GoodIn wsX8_step (wsV RX8 154 RX8 yX8_goes wsX8_goes) := goodIn_app (goodIn_of _ (by decide +kernel)) ggX8_step_X8_goes
theorem dX8_step_0 : decode cX8_step 0 = .ok (.aload_n 0, 1) := by decide +kernel
theorem dX8_step_1 : decode cX8_step 1 = .ok (.iconst 0, 1) := by decide +kernel
theorem dX8_step_2 : decode cX8_step 2 = .ok (.putfield 61, 3) := by decide +kernel
theorem dX8_step_5 : decode cX8_step 5 = .ok (.aload_n 0, 1) := by decide +kernel
theorem dX8_step_6 : decode cX8_step 6 = .ok (.getfield 108, 3) := by decide +kernel
theorem dX8_step_9 : decode cX8_step 9 = .ok (.ifCond .ne 9, 3) := by decide +kernel
theorem dX8_step_12 : decode cX8_step 12 = .ok (.aload_n 0, 1) := by decide +kernel
theorem dX8_step_13 : decode cX8_step 13 = .ok (.iconst 1, 1) := by decide +kernel
theorem dX8_step_14 : decode cX8_step 14 = .ok (.invokevirtual 98, 3) := by decide +kernel
theorem dX8_step_17 : decode cX8_step 17 = .ok (.lreturn, 1) := by decide +kernel
theorem dX8_step_18 : decode cX8_step 18 = .ok (.lload_n 1, 1) := by decide +kernel
theorem dX8_step_19 : decode cX8_step 19 = .ok (.invokestatic 150, 3) := by decide +kernel
theorem dX8_step_22 : decode cX8_step 22 = .ok (.ifCond .eq 11, 3) := by decide +kernel
theorem dX8_step_25 : decode cX8_step 25 = .ok (.aload_n 0, 1) := by decide +kernel
theorem dX8_step_26 : decode cX8_step 26 = .ok (.lload_n 1, 1) := by decide +kernel
theorem dX8_step_27 : decode cX8_step 27 = .ok (.invokevirtual 154, 3) := by decide +kernel
theorem dX8_step_30 : decode cX8_step 30 = .ok (.goto 4, 3) := by decide +kernel
theorem dX8_step_33 : decode cX8_step 33 = .ok (.iconst 2, 1) := by decide +kernel
theorem dX8_step_34 : decode cX8_step 34 = .ok (.istore_n 3, 1) := by decide +kernel
theorem dX8_step_35 : decode cX8_step 35 = .ok (.iload_n 3, 1) := by decide +kernel
theorem dX8_step_36 : decode cX8_step 36 = .ok (.ifCond .ne 10, 3) := by decide +kernel
theorem dX8_step_39 : decode cX8_step 39 = .ok (.aload_n 0, 1) := by decide +kernel
theorem dX8_step_40 : decode cX8_step 40 = .ok (.getfield 146, 3) := by decide +kernel
theorem dX8_step_43 : decode cX8_step 43 = .ok (.goto 17, 3) := by decide +kernel
theorem dX8_step_46 : decode cX8_step 46 = .ok (.aload_n 0, 1) := by decide +kernel
theorem dX8_step_47 : decode cX8_step 47 = .ok (.iload_n 3, 1) := by decide +kernel
theorem dX8_step_48 : decode cX8_step 48 = .ok (.iconst 1, 1) := by decide +kernel
theorem dX8_step_49 : decode cX8_step 49 = .ok (.if_icmp .ne 7, 3) := by decide +kernel
theorem dX8_step_52 : decode cX8_step 52 = .ok (.iconst 2, 1) := by decide +kernel
theorem dX8_step_53 : decode cX8_step 53 = .ok (.goto 4, 3) := by decide +kernel
theorem dX8_step_56 : decode cX8_step 56 = .ok (.iconst 3, 1) := by decide +kernel
theorem dX8_step_57 : decode cX8_step 57 = .ok (.invokevirtual 98, 3) := by decide +kernel
theorem dX8_step_60 : decode cX8_step 60 = .ok (.lreturn, 1) := by decide +kernel
set_option maxRecDepth 20000 in
theorem ggX8_run_X8_in : GoodIn wsX8_run wsX8_in := goodIn_r _ [8] (by decide +kernel) (by decide +kernel)
set_option maxRecDepth 20000 in
theorem gX8_run_X8_in : GoodIn wsX8_run (va_wsS RX8 68 yX8_in wsX8_in) := goodIn_app (goodIn_of _ (by decide +kernel)) ggX8_run_X8_in
set_option maxRecDepth 20000 in
theorem ggX8_run_X8_refuse : GoodIn wsX8_run wsX8_refuse := goodIn_r _ [12, 1, 39, 40, 41, 42, 43, 44, 45, 46, 47, 48, 49, 50, 51, 52, 53, 54, 55, 56, 57, 58, 59, 60, 61, 62, 63, 64, 65, 66, 67, 68, 69, 70, 71] (by decide +kernel) (by decide +kernel)
set_option maxRecDepth 20000 in
theorem gX8_run_X8_refuse : GoodIn wsX8_run (wsV RX8 98 RX8 yX8_refuse wsX8_refuse) := goodIn_app (goodIn_of _ (by decide +kernel)) ggX8_run_X8_refuse
set_option maxRecDepth 20000 in
theorem ggX8_run_X8_isNumber : GoodIn wsX8_run wsX8_isNumber := goodIn_r _ [15, 16, 17, 5, 6, 7, 8] (by decide +kernel) (by decide +kernel)
set_option maxRecDepth 20000 in
theorem gX8_run_X8_isNumber : GoodIn wsX8_run (va_wsS RX8 150 yX8_isNumber wsX8_isNumber) := goodIn_app (goodIn_of _ (by decide +kernel)) ggX8_run_X8_isNumber
set_option maxRecDepth 20000 in
theorem ggX8_run_X8_goes : GoodIn wsX8_run wsX8_goes := goodIn_ca (goodIn_r _ [21, 3, 22, 17, 23, 24, 4, 25, 26, 27, 28, 7, 29, 30, 31, 32, 33, 34, 35, 36, 37, 38, 13, 14, 15, 16, 5, 6, 8, 39, 40, 41, 42, 43, 44, 45, 46, 47, 48, 49, 50, 51, 52, 53, 54, 55, 56, 57, 58, 59, 60, 61, 62, 63, 64, 65, 66, 67, 68, 69, 70, 71] (by decide +kernel) (by decide +kernel)) (goodIn_sub (fun _ h => List.mem_cons_of_mem _ (List.mem_append_right _ h)) (by decide +kernel))
set_option maxRecDepth 20000 in
theorem gX8_run_X8_goes : GoodIn wsX8_run (wsV RX8 154 RX8 yX8_goes wsX8_goes) := goodIn_app (goodIn_of _ (by decide +kernel)) ggX8_run_X8_goes
theorem dX8_run_0 : decode cX8_run 0 = .ok (.aload_n 0, 1) := by decide +kernel
theorem dX8_run_1 : decode cX8_run 1 = .ok (.iconst 0, 1) := by decide +kernel
theorem dX8_run_2 : decode cX8_run 2 = .ok (.putfield 61, 3) := by decide +kernel
theorem dX8_run_5 : decode cX8_run 5 = .ok (.iload_n 3, 1) := by decide +kernel
theorem dX8_run_6 : decode cX8_run 6 = .ok (.i2l, 1) := by decide +kernel
theorem dX8_run_7 : decode cX8_run 7 = .ok (.lconst 0, 1) := by decide +kernel
theorem dX8_run_8 : decode cX8_run 8 = .ok (.ldc2_w 157, 3) := by decide +kernel
theorem dX8_run_11 : decode cX8_run 11 = .ok (.invokestatic 68, 3) := by decide +kernel
theorem dX8_run_14 : decode cX8_run 14 = .ok (.ifCond .ne 9, 3) := by decide +kernel
theorem dX8_run_17 : decode cX8_run 17 = .ok (.aload_n 0, 1) := by decide +kernel
theorem dX8_run_18 : decode cX8_run 18 = .ok (.iconst 1, 1) := by decide +kernel
theorem dX8_run_19 : decode cX8_run 19 = .ok (.invokevirtual 98, 3) := by decide +kernel
theorem dX8_run_22 : decode cX8_run 22 = .ok (.lreturn, 1) := by decide +kernel
theorem dX8_run_23 : decode cX8_run 23 = .ok (.aload_n 0, 1) := by decide +kernel
theorem dX8_run_24 : decode cX8_run 24 = .ok (.getfield 108, 3) := by decide +kernel
theorem dX8_run_27 : decode cX8_run 27 = .ok (.ifCond .ne 9, 3) := by decide +kernel
theorem dX8_run_30 : decode cX8_run 30 = .ok (.aload_n 0, 1) := by decide +kernel
theorem dX8_run_31 : decode cX8_run 31 = .ok (.iconst 2, 1) := by decide +kernel
theorem dX8_run_32 : decode cX8_run 32 = .ok (.invokevirtual 98, 3) := by decide +kernel
theorem dX8_run_35 : decode cX8_run 35 = .ok (.lreturn, 1) := by decide +kernel
theorem dX8_run_36 : decode cX8_run 36 = .ok (.lload_n 1, 1) := by decide +kernel
theorem dX8_run_37 : decode cX8_run 37 = .ok (.invokestatic 150, 3) := by decide +kernel
theorem dX8_run_40 : decode cX8_run 40 = .ok (.ifCond .ne 9, 3) := by decide +kernel
theorem dX8_run_43 : decode cX8_run 43 = .ok (.aload_n 0, 1) := by decide +kernel
theorem dX8_run_44 : decode cX8_run 44 = .ok (.iconst 4, 1) := by decide +kernel
theorem dX8_run_45 : decode cX8_run 45 = .ok (.invokevirtual 98, 3) := by decide +kernel
theorem dX8_run_48 : decode cX8_run 48 = .ok (.lreturn, 1) := by decide +kernel
theorem dX8_run_49 : decode cX8_run 49 = .ok (.aload_n 0, 1) := by decide +kernel
theorem dX8_run_50 : decode cX8_run 50 = .ok (.lload_n 1, 1) := by decide +kernel
theorem dX8_run_51 : decode cX8_run 51 = .ok (.putfield 146, 3) := by decide +kernel
theorem dX8_run_54 : decode cX8_run 54 = .ok (.iconst 0, 1) := by decide +kernel
theorem dX8_run_55 : decode cX8_run 55 = .ok (.istore 4, 2) := by decide +kernel
theorem dX8_run_57 : decode cX8_run 57 = .ok (.iload 4, 2) := by decide +kernel
theorem dX8_run_59 : decode cX8_run 59 = .ok (.iload_n 3, 1) := by decide +kernel
theorem dX8_run_60 : decode cX8_run 60 = .ok (.if_icmp .ge 40, 3) := by decide +kernel
theorem dX8_run_63 : decode cX8_run 63 = .ok (.aload_n 0, 1) := by decide +kernel
theorem dX8_run_64 : decode cX8_run 64 = .ok (.aload_n 0, 1) := by decide +kernel
theorem dX8_run_65 : decode cX8_run 65 = .ok (.getfield 146, 3) := by decide +kernel
theorem dX8_run_68 : decode cX8_run 68 = .ok (.invokevirtual 154, 3) := by decide +kernel
theorem dX8_run_71 : decode cX8_run 71 = .ok (.istore 5, 2) := by decide +kernel
theorem dX8_run_73 : decode cX8_run 73 = .ok (.iload 5, 2) := by decide +kernel
theorem dX8_run_75 : decode cX8_run 75 = .ok (.ifCond .eq 19, 3) := by decide +kernel
theorem dX8_run_78 : decode cX8_run 78 = .ok (.aload_n 0, 1) := by decide +kernel
theorem dX8_run_79 : decode cX8_run 79 = .ok (.iload 5, 2) := by decide +kernel
theorem dX8_run_81 : decode cX8_run 81 = .ok (.iconst 1, 1) := by decide +kernel
theorem dX8_run_82 : decode cX8_run 82 = .ok (.if_icmp .ne 7, 3) := by decide +kernel
theorem dX8_run_85 : decode cX8_run 85 = .ok (.iconst 3, 1) := by decide +kernel
theorem dX8_run_86 : decode cX8_run 86 = .ok (.goto 4, 3) := by decide +kernel
theorem dX8_run_89 : decode cX8_run 89 = .ok (.iconst 4, 1) := by decide +kernel
theorem dX8_run_90 : decode cX8_run 90 = .ok (.invokevirtual 98, 3) := by decide +kernel
theorem dX8_run_93 : decode cX8_run 93 = .ok (.lreturn, 1) := by decide +kernel
theorem dX8_run_94 : decode cX8_run 94 = .ok (.iinc 4 1, 3) := by decide +kernel
theorem dX8_run_97 : decode cX8_run 97 = .ok (.goto (-40), 3) := by decide +kernel
theorem dX8_run_100 : decode cX8_run 100 = .ok (.aload_n 0, 1) := by decide +kernel
theorem dX8_run_101 : decode cX8_run 101 = .ok (.getfield 146, 3) := by decide +kernel
theorem dX8_run_104 : decode cX8_run 104 = .ok (.lreturn, 1) := by decide +kernel
set_option maxRecDepth 20000 in
theorem ggX8_until_X8_in : GoodIn wsX8_until wsX8_in := goodIn_r _ [8] (by decide +kernel) (by decide +kernel)
set_option maxRecDepth 20000 in
theorem gX8_until_X8_in : GoodIn wsX8_until (va_wsS RX8 68 yX8_in wsX8_in) := goodIn_app (goodIn_of _ (by decide +kernel)) ggX8_until_X8_in
set_option maxRecDepth 20000 in
theorem ggX8_until_X8_isNumber : GoodIn wsX8_until wsX8_isNumber := goodIn_r _ [11, 12, 13, 5, 6, 7, 8] (by decide +kernel) (by decide +kernel)
set_option maxRecDepth 20000 in
theorem gX8_until_X8_isNumber : GoodIn wsX8_until (va_wsS RX8 150 yX8_isNumber wsX8_isNumber) := goodIn_app (goodIn_of _ (by decide +kernel)) ggX8_until_X8_isNumber
set_option maxRecDepth 20000 in
theorem ggX8_until_X8_goes : GoodIn wsX8_until wsX8_goes := goodIn_ca (goodIn_r _ [17, 2, 18, 13, 19, 20, 4, 21, 22, 23, 24, 7, 25, 26, 27, 28, 29, 30, 31, 32, 33, 34, 9, 10, 11, 12, 5, 6, 8, 35, 36, 37, 38, 39, 40, 41, 42, 43, 44, 45, 46, 47, 48, 49, 50, 51, 52, 53, 54, 55, 56, 57, 58, 59, 60, 61, 62, 63, 64, 65, 66, 67] (by decide +kernel) (by decide +kernel)) (goodIn_sub (fun _ h => List.mem_cons_of_mem _ (List.mem_append_right _ h)) (by decide +kernel))
set_option maxRecDepth 20000 in
theorem gX8_until_X8_goes : GoodIn wsX8_until (wsV RX8 154 RX8 yX8_goes wsX8_goes) := goodIn_app (goodIn_of _ (by decide +kernel)) ggX8_until_X8_goes
theorem dX8_until_0 : decode cX8_until 0 = .ok (.aload_n 0, 1) := by decide +kernel
theorem dX8_until_1 : decode cX8_until 1 = .ok (.iconst 0, 1) := by decide +kernel
theorem dX8_until_2 : decode cX8_until 2 = .ok (.putfield 61, 3) := by decide +kernel
theorem dX8_until_5 : decode cX8_until 5 = .ok (.aload_n 0, 1) := by decide +kernel
theorem dX8_until_6 : decode cX8_until 6 = .ok (.getfield 108, 3) := by decide +kernel
theorem dX8_until_9 : decode cX8_until 9 = .ok (.ifCond .eq 30, 3) := by decide +kernel
theorem dX8_until_12 : decode cX8_until 12 = .ok (.iload 5, 2) := by decide +kernel
theorem dX8_until_14 : decode cX8_until 14 = .ok (.i2l, 1) := by decide +kernel
theorem dX8_until_15 : decode cX8_until 15 = .ok (.lconst 0, 1) := by decide +kernel
theorem dX8_until_16 : decode cX8_until 16 = .ok (.ldc2_w 157, 3) := by decide +kernel
theorem dX8_until_19 : decode cX8_until 19 = .ok (.invokestatic 68, 3) := by decide +kernel
theorem dX8_until_22 : decode cX8_until 22 = .ok (.ifCond .eq 17, 3) := by decide +kernel
theorem dX8_until_25 : decode cX8_until 25 = .ok (.lload_n 1, 1) := by decide +kernel
theorem dX8_until_26 : decode cX8_until 26 = .ok (.invokestatic 150, 3) := by decide +kernel
theorem dX8_until_29 : decode cX8_until 29 = .ok (.ifCond .eq 10, 3) := by decide +kernel
theorem dX8_until_32 : decode cX8_until 32 = .ok (.lload_n 3, 1) := by decide +kernel
theorem dX8_until_33 : decode cX8_until 33 = .ok (.invokestatic 150, 3) := by decide +kernel
theorem dX8_until_36 : decode cX8_until 36 = .ok (.ifCond .ne 5, 3) := by decide +kernel
theorem dX8_until_39 : decode cX8_until 39 = .ok (.iconst (-1), 1) := by decide +kernel
theorem dX8_until_40 : decode cX8_until 40 = .ok (.ireturn, 1) := by decide +kernel
theorem dX8_until_41 : decode cX8_until 41 = .ok (.aload_n 0, 1) := by decide +kernel
theorem dX8_until_42 : decode cX8_until 42 = .ok (.lload_n 1, 1) := by decide +kernel
theorem dX8_until_43 : decode cX8_until 43 = .ok (.putfield 146, 3) := by decide +kernel
theorem dX8_until_46 : decode cX8_until 46 = .ok (.iconst 0, 1) := by decide +kernel
theorem dX8_until_47 : decode cX8_until 47 = .ok (.istore 6, 2) := by decide +kernel
theorem dX8_until_49 : decode cX8_until 49 = .ok (.iload 6, 2) := by decide +kernel
theorem dX8_until_51 : decode cX8_until 51 = .ok (.iload 5, 2) := by decide +kernel
theorem dX8_until_53 : decode cX8_until 53 = .ok (.if_icmp .gt 41, 3) := by decide +kernel
theorem dX8_until_56 : decode cX8_until 56 = .ok (.aload_n 0, 1) := by decide +kernel
theorem dX8_until_57 : decode cX8_until 57 = .ok (.getfield 146, 3) := by decide +kernel
theorem dX8_until_60 : decode cX8_until 60 = .ok (.lload_n 3, 1) := by decide +kernel
theorem dX8_until_61 : decode cX8_until 61 = .ok (.lcmp, 1) := by decide +kernel
theorem dX8_until_62 : decode cX8_until 62 = .ok (.ifCond .ne 6, 3) := by decide +kernel
theorem dX8_until_65 : decode cX8_until 65 = .ok (.iload 6, 2) := by decide +kernel
theorem dX8_until_67 : decode cX8_until 67 = .ok (.ireturn, 1) := by decide +kernel
theorem dX8_until_68 : decode cX8_until 68 = .ok (.iload 6, 2) := by decide +kernel
theorem dX8_until_70 : decode cX8_until 70 = .ok (.iload 5, 2) := by decide +kernel
theorem dX8_until_72 : decode cX8_until 72 = .ok (.if_icmp .ge 16, 3) := by decide +kernel
theorem dX8_until_75 : decode cX8_until 75 = .ok (.aload_n 0, 1) := by decide +kernel
theorem dX8_until_76 : decode cX8_until 76 = .ok (.aload_n 0, 1) := by decide +kernel
theorem dX8_until_77 : decode cX8_until 77 = .ok (.getfield 146, 3) := by decide +kernel
theorem dX8_until_80 : decode cX8_until 80 = .ok (.invokevirtual 154, 3) := by decide +kernel
theorem dX8_until_83 : decode cX8_until 83 = .ok (.ifCond .eq 5, 3) := by decide +kernel
theorem dX8_until_86 : decode cX8_until 86 = .ok (.iconst (-1), 1) := by decide +kernel
theorem dX8_until_87 : decode cX8_until 87 = .ok (.ireturn, 1) := by decide +kernel
theorem dX8_until_88 : decode cX8_until 88 = .ok (.iinc 6 1, 3) := by decide +kernel
theorem dX8_until_91 : decode cX8_until 91 = .ok (.goto (-42), 3) := by decide +kernel
theorem dX8_until_94 : decode cX8_until 94 = .ok (.bipush (-2), 2) := by decide +kernel
theorem dX8_until_96 : decode cX8_until 96 = .ok (.ireturn, 1) := by decide +kernel
set_option maxRecDepth 20000 in
theorem ggX8_height_X8_in : GoodIn wsX8_height wsX8_in := goodIn_r _ [8] (by decide +kernel) (by decide +kernel)
set_option maxRecDepth 20000 in
theorem gX8_height_X8_in : GoodIn wsX8_height (va_wsS RX8 68 yX8_in wsX8_in) := goodIn_app (goodIn_of _ (by decide +kernel)) ggX8_height_X8_in
set_option maxRecDepth 20000 in
theorem ggX8_height_X8_isNumber : GoodIn wsX8_height wsX8_isNumber := goodIn_r _ [11, 12, 13, 5, 6, 7, 8] (by decide +kernel) (by decide +kernel)
set_option maxRecDepth 20000 in
theorem gX8_height_X8_isNumber : GoodIn wsX8_height (va_wsS RX8 150 yX8_isNumber wsX8_isNumber) := goodIn_app (goodIn_of _ (by decide +kernel)) ggX8_height_X8_isNumber
set_option maxRecDepth 20000 in
theorem ggX8_height_X8_goes : GoodIn wsX8_height wsX8_goes := goodIn_ca (goodIn_r _ [17, 2, 18, 13, 19, 20, 4, 21, 22, 23, 24, 7, 25, 26, 27, 28, 29, 30, 31, 32, 33, 34, 9, 10, 11, 12, 5, 6, 8, 35, 36, 37, 38, 39, 40, 41, 42, 43, 44, 45, 46, 47, 48, 49, 50, 51, 52, 53, 54, 55, 56, 57, 58, 59, 60, 61, 62, 63, 64, 65, 66, 67] (by decide +kernel) (by decide +kernel)) (goodIn_sub (fun _ h => List.mem_cons_of_mem _ (List.mem_append_right _ h)) (by decide +kernel))
set_option maxRecDepth 20000 in
theorem gX8_height_X8_goes : GoodIn wsX8_height (wsV RX8 154 RX8 yX8_goes wsX8_goes) := goodIn_app (goodIn_of _ (by decide +kernel)) ggX8_height_X8_goes
theorem dX8_height_0 : decode cX8_height 0 = .ok (.aload_n 0, 1) := by decide +kernel
theorem dX8_height_1 : decode cX8_height 1 = .ok (.iconst 0, 1) := by decide +kernel
theorem dX8_height_2 : decode cX8_height 2 = .ok (.putfield 61, 3) := by decide +kernel
theorem dX8_height_5 : decode cX8_height 5 = .ok (.aload_n 0, 1) := by decide +kernel
theorem dX8_height_6 : decode cX8_height 6 = .ok (.getfield 108, 3) := by decide +kernel
theorem dX8_height_9 : decode cX8_height 9 = .ok (.ifCond .eq 22, 3) := by decide +kernel
theorem dX8_height_12 : decode cX8_height 12 = .ok (.iload_n 3, 1) := by decide +kernel
theorem dX8_height_13 : decode cX8_height 13 = .ok (.i2l, 1) := by decide +kernel
theorem dX8_height_14 : decode cX8_height 14 = .ok (.lconst 0, 1) := by decide +kernel
theorem dX8_height_15 : decode cX8_height 15 = .ok (.ldc2_w 157, 3) := by decide +kernel
theorem dX8_height_18 : decode cX8_height 18 = .ok (.invokestatic 68, 3) := by decide +kernel
theorem dX8_height_21 : decode cX8_height 21 = .ok (.ifCond .eq 10, 3) := by decide +kernel
theorem dX8_height_24 : decode cX8_height 24 = .ok (.lload_n 1, 1) := by decide +kernel
theorem dX8_height_25 : decode cX8_height 25 = .ok (.invokestatic 150, 3) := by decide +kernel
theorem dX8_height_28 : decode cX8_height 28 = .ok (.ifCond .ne 5, 3) := by decide +kernel
theorem dX8_height_31 : decode cX8_height 31 = .ok (.iconst (-1), 1) := by decide +kernel
theorem dX8_height_32 : decode cX8_height 32 = .ok (.ireturn, 1) := by decide +kernel
theorem dX8_height_33 : decode cX8_height 33 = .ok (.aload_n 0, 1) := by decide +kernel
theorem dX8_height_34 : decode cX8_height 34 = .ok (.lload_n 1, 1) := by decide +kernel
theorem dX8_height_35 : decode cX8_height 35 = .ok (.putfield 146, 3) := by decide +kernel
theorem dX8_height_38 : decode cX8_height 38 = .ok (.iconst 0, 1) := by decide +kernel
theorem dX8_height_39 : decode cX8_height 39 = .ok (.istore 4, 2) := by decide +kernel
theorem dX8_height_41 : decode cX8_height 41 = .ok (.iload 4, 2) := by decide +kernel
theorem dX8_height_43 : decode cX8_height 43 = .ok (.iload_n 3, 1) := by decide +kernel
theorem dX8_height_44 : decode cX8_height 44 = .ok (.if_icmp .gt 40, 3) := by decide +kernel
theorem dX8_height_47 : decode cX8_height 47 = .ok (.aload_n 0, 1) := by decide +kernel
theorem dX8_height_48 : decode cX8_height 48 = .ok (.getfield 146, 3) := by decide +kernel
theorem dX8_height_51 : decode cX8_height 51 = .ok (.lload_n 1, 1) := by decide +kernel
theorem dX8_height_52 : decode cX8_height 52 = .ok (.lcmp, 1) := by decide +kernel
theorem dX8_height_53 : decode cX8_height 53 = .ok (.ifCond .ge 6, 3) := by decide +kernel
theorem dX8_height_56 : decode cX8_height 56 = .ok (.iload 4, 2) := by decide +kernel
theorem dX8_height_58 : decode cX8_height 58 = .ok (.ireturn, 1) := by decide +kernel
theorem dX8_height_59 : decode cX8_height 59 = .ok (.iload 4, 2) := by decide +kernel
theorem dX8_height_61 : decode cX8_height 61 = .ok (.iload_n 3, 1) := by decide +kernel
theorem dX8_height_62 : decode cX8_height 62 = .ok (.if_icmp .ge 16, 3) := by decide +kernel
theorem dX8_height_65 : decode cX8_height 65 = .ok (.aload_n 0, 1) := by decide +kernel
theorem dX8_height_66 : decode cX8_height 66 = .ok (.aload_n 0, 1) := by decide +kernel
theorem dX8_height_67 : decode cX8_height 67 = .ok (.getfield 146, 3) := by decide +kernel
theorem dX8_height_70 : decode cX8_height 70 = .ok (.invokevirtual 154, 3) := by decide +kernel
theorem dX8_height_73 : decode cX8_height 73 = .ok (.ifCond .eq 5, 3) := by decide +kernel
theorem dX8_height_76 : decode cX8_height 76 = .ok (.iconst (-1), 1) := by decide +kernel
theorem dX8_height_77 : decode cX8_height 77 = .ok (.ireturn, 1) := by decide +kernel
theorem dX8_height_78 : decode cX8_height 78 = .ok (.iinc 4 1, 3) := by decide +kernel
theorem dX8_height_81 : decode cX8_height 81 = .ok (.goto (-40), 3) := by decide +kernel
theorem dX8_height_84 : decode cX8_height 84 = .ok (.bipush (-2), 2) := by decide +kernel
theorem dX8_height_86 : decode cX8_height 86 = .ok (.ireturn, 1) := by decide +kernel
set_option maxRecDepth 20000 in
theorem ggX8_peak_X8_in : GoodIn wsX8_peak wsX8_in := goodIn_r _ [12] (by decide +kernel) (by decide +kernel)
set_option maxRecDepth 20000 in
theorem gX8_peak_X8_in : GoodIn wsX8_peak (va_wsS RX8 68 yX8_in wsX8_in) := goodIn_app (goodIn_of _ (by decide +kernel)) ggX8_peak_X8_in
set_option maxRecDepth 20000 in
theorem ggX8_peak_X8_refuse : GoodIn wsX8_peak wsX8_refuse := goodIn_r _ [16, 1, 43, 44, 45, 46, 47, 48, 49, 50, 51, 52, 53, 54, 55, 56, 57, 58, 59, 60, 61, 62, 63, 64, 65, 66, 67, 68, 69, 70, 71, 72, 73, 74, 75] (by decide +kernel) (by decide +kernel)
set_option maxRecDepth 20000 in
theorem gX8_peak_X8_refuse : GoodIn wsX8_peak (wsV RX8 98 RX8 yX8_refuse wsX8_refuse) := goodIn_app (goodIn_of _ (by decide +kernel)) ggX8_peak_X8_refuse
set_option maxRecDepth 20000 in
theorem ggX8_peak_X8_isNumber : GoodIn wsX8_peak wsX8_isNumber := goodIn_r _ [19, 20, 21, 9, 10, 11, 12] (by decide +kernel) (by decide +kernel)
set_option maxRecDepth 20000 in
theorem gX8_peak_X8_isNumber : GoodIn wsX8_peak (va_wsS RX8 150 yX8_isNumber wsX8_isNumber) := goodIn_app (goodIn_of _ (by decide +kernel)) ggX8_peak_X8_isNumber
set_option maxRecDepth 20000 in
theorem ggX8_peak_X8_goes : GoodIn wsX8_peak wsX8_goes := goodIn_ca (goodIn_r _ [25, 3, 26, 21, 27, 28, 4, 29, 30, 31, 32, 11, 33, 34, 35, 36, 37, 38, 39, 40, 41, 42, 17, 18, 19, 20, 9, 10, 12, 43, 44, 45, 46, 47, 48, 49, 50, 51, 52, 53, 54, 55, 56, 57, 58, 59, 60, 61, 62, 63, 64, 65, 66, 67, 68, 69, 70, 71, 72, 73, 74, 75] (by decide +kernel) (by decide +kernel)) (goodIn_sub (fun _ h => List.mem_cons_of_mem _ (List.mem_append_right _ h)) (by decide +kernel))
set_option maxRecDepth 20000 in
theorem gX8_peak_X8_goes : GoodIn wsX8_peak (wsV RX8 154 RX8 yX8_goes wsX8_goes) := goodIn_app (goodIn_of _ (by decide +kernel)) ggX8_peak_X8_goes
theorem dX8_peak_0 : decode cX8_peak 0 = .ok (.aload_n 0, 1) := by decide +kernel
theorem dX8_peak_1 : decode cX8_peak 1 = .ok (.iconst 0, 1) := by decide +kernel
theorem dX8_peak_2 : decode cX8_peak 2 = .ok (.putfield 61, 3) := by decide +kernel
theorem dX8_peak_5 : decode cX8_peak 5 = .ok (.iload_n 3, 1) := by decide +kernel
theorem dX8_peak_6 : decode cX8_peak 6 = .ok (.i2l, 1) := by decide +kernel
theorem dX8_peak_7 : decode cX8_peak 7 = .ok (.lconst 0, 1) := by decide +kernel
theorem dX8_peak_8 : decode cX8_peak 8 = .ok (.ldc2_w 157, 3) := by decide +kernel
theorem dX8_peak_11 : decode cX8_peak 11 = .ok (.invokestatic 68, 3) := by decide +kernel
theorem dX8_peak_14 : decode cX8_peak 14 = .ok (.ifCond .ne 9, 3) := by decide +kernel
theorem dX8_peak_17 : decode cX8_peak 17 = .ok (.aload_n 0, 1) := by decide +kernel
theorem dX8_peak_18 : decode cX8_peak 18 = .ok (.iconst 1, 1) := by decide +kernel
theorem dX8_peak_19 : decode cX8_peak 19 = .ok (.invokevirtual 98, 3) := by decide +kernel
theorem dX8_peak_22 : decode cX8_peak 22 = .ok (.lreturn, 1) := by decide +kernel
theorem dX8_peak_23 : decode cX8_peak 23 = .ok (.aload_n 0, 1) := by decide +kernel
theorem dX8_peak_24 : decode cX8_peak 24 = .ok (.getfield 108, 3) := by decide +kernel
theorem dX8_peak_27 : decode cX8_peak 27 = .ok (.ifCond .ne 9, 3) := by decide +kernel
theorem dX8_peak_30 : decode cX8_peak 30 = .ok (.aload_n 0, 1) := by decide +kernel
theorem dX8_peak_31 : decode cX8_peak 31 = .ok (.iconst 2, 1) := by decide +kernel
theorem dX8_peak_32 : decode cX8_peak 32 = .ok (.invokevirtual 98, 3) := by decide +kernel
theorem dX8_peak_35 : decode cX8_peak 35 = .ok (.lreturn, 1) := by decide +kernel
theorem dX8_peak_36 : decode cX8_peak 36 = .ok (.lload_n 1, 1) := by decide +kernel
theorem dX8_peak_37 : decode cX8_peak 37 = .ok (.invokestatic 150, 3) := by decide +kernel
theorem dX8_peak_40 : decode cX8_peak 40 = .ok (.ifCond .ne 9, 3) := by decide +kernel
theorem dX8_peak_43 : decode cX8_peak 43 = .ok (.aload_n 0, 1) := by decide +kernel
theorem dX8_peak_44 : decode cX8_peak 44 = .ok (.iconst 3, 1) := by decide +kernel
theorem dX8_peak_45 : decode cX8_peak 45 = .ok (.invokevirtual 98, 3) := by decide +kernel
theorem dX8_peak_48 : decode cX8_peak 48 = .ok (.lreturn, 1) := by decide +kernel
theorem dX8_peak_49 : decode cX8_peak 49 = .ok (.lload_n 1, 1) := by decide +kernel
theorem dX8_peak_50 : decode cX8_peak 50 = .ok (.lstore 4, 2) := by decide +kernel
theorem dX8_peak_52 : decode cX8_peak 52 = .ok (.aload_n 0, 1) := by decide +kernel
theorem dX8_peak_53 : decode cX8_peak 53 = .ok (.lload_n 1, 1) := by decide +kernel
theorem dX8_peak_54 : decode cX8_peak 54 = .ok (.putfield 146, 3) := by decide +kernel
theorem dX8_peak_57 : decode cX8_peak 57 = .ok (.iconst 0, 1) := by decide +kernel
theorem dX8_peak_58 : decode cX8_peak 58 = .ok (.istore 6, 2) := by decide +kernel
theorem dX8_peak_60 : decode cX8_peak 60 = .ok (.iload 6, 2) := by decide +kernel
theorem dX8_peak_62 : decode cX8_peak 62 = .ok (.iload_n 3, 1) := by decide +kernel
theorem dX8_peak_63 : decode cX8_peak 63 = .ok (.if_icmp .ge 31, 3) := by decide +kernel
theorem dX8_peak_66 : decode cX8_peak 66 = .ok (.aload_n 0, 1) := by decide +kernel
theorem dX8_peak_67 : decode cX8_peak 67 = .ok (.aload_n 0, 1) := by decide +kernel
theorem dX8_peak_68 : decode cX8_peak 68 = .ok (.getfield 146, 3) := by decide +kernel
theorem dX8_peak_71 : decode cX8_peak 71 = .ok (.invokevirtual 154, 3) := by decide +kernel
theorem dX8_peak_74 : decode cX8_peak 74 = .ok (.ifCond .ne 20, 3) := by decide +kernel
theorem dX8_peak_77 : decode cX8_peak 77 = .ok (.lload 4, 2) := by decide +kernel
theorem dX8_peak_79 : decode cX8_peak 79 = .ok (.aload_n 0, 1) := by decide +kernel
theorem dX8_peak_80 : decode cX8_peak 80 = .ok (.getfield 146, 3) := by decide +kernel
theorem dX8_peak_83 : decode cX8_peak 83 = .ok (.invokestatic 159, 3) := by decide +kernel
theorem dX8_peak_86 : decode cX8_peak 86 = .ok (.lstore 4, 2) := by decide +kernel
theorem dX8_peak_88 : decode cX8_peak 88 = .ok (.iinc 6 1, 3) := by decide +kernel
theorem dX8_peak_91 : decode cX8_peak 91 = .ok (.goto (-31), 3) := by decide +kernel
theorem dX8_peak_94 : decode cX8_peak 94 = .ok (.lload 4, 2) := by decide +kernel
theorem dX8_peak_96 : decode cX8_peak 96 = .ok (.lreturn, 1) := by decide +kernel
set_option maxRecDepth 20000 in
theorem ggX8_word_X8_isNumber : GoodIn wsX8_word wsX8_isNumber := goodIn_r _ [9, 10, 11, 12, 13, 8, 14] (by decide +kernel) (by decide +kernel)
set_option maxRecDepth 20000 in
theorem gX8_word_X8_isNumber : GoodIn wsX8_word (va_wsS RX8 150 yX8_isNumber wsX8_isNumber) := goodIn_app (goodIn_of _ (by decide +kernel)) ggX8_word_X8_isNumber
set_option maxRecDepth 20000 in
theorem ggX8_word_X8_in : GoodIn wsX8_word wsX8_in := goodIn_r _ [14] (by decide +kernel) (by decide +kernel)
set_option maxRecDepth 20000 in
theorem gX8_word_X8_in : GoodIn wsX8_word (va_wsS RX8 68 yX8_in wsX8_in) := goodIn_app (goodIn_of _ (by decide +kernel)) ggX8_word_X8_in
set_option maxRecDepth 20000 in
theorem ggX8_word_X8_way : GoodIn wsX8_word wsX8_way := goodIn_ca (goodIn_r _ [18, 2, 19, 20, 21, 22, 23, 8, 24, 25, 26, 27, 28, 46, 47, 48, 49, 50, 51, 52, 53, 54, 55, 56, 57, 58, 59, 60, 61, 62, 63, 64, 65, 66, 67, 68, 69, 70, 71, 72, 73, 74, 75, 76, 77, 78] (by decide +kernel) (by decide +kernel)) (goodIn_sub (fun _ h => List.mem_cons_of_mem _ (List.mem_append_right _ h)) (by decide +kernel))
set_option maxRecDepth 20000 in
theorem gX8_word_X8_way : GoodIn wsX8_word (wsV RX8 140 RX8 yX8_way wsX8_way) := goodIn_app (goodIn_of _ (by decide +kernel)) ggX8_word_X8_way
set_option maxRecDepth 20000 in
theorem ggX8_word_X8_goes : GoodIn wsX8_word wsX8_goes := goodIn_ca (goodIn_r _ [32, 2, 21, 11, 33, 34, 4, 35, 15, 16, 17, 8, 18, 19, 20, 22, 23, 24, 25, 26, 27, 28, 6, 7, 9, 10, 12, 13, 14, 46, 47, 48, 49, 50, 51, 52, 53, 54, 55, 56, 57, 58, 59, 60, 61, 62, 63, 64, 65, 66, 67, 68, 69, 70, 71, 72, 73, 74, 75, 76, 77, 78] (by decide +kernel) (by decide +kernel)) (goodIn_sub (fun _ h => List.mem_cons_of_mem _ (List.mem_append_right _ h)) (by decide +kernel))
set_option maxRecDepth 20000 in
theorem gX8_word_X8_goes : GoodIn wsX8_word (wsV RX8 154 RX8 yX8_goes wsX8_goes) := goodIn_app (goodIn_of _ (by decide +kernel)) ggX8_word_X8_goes
set_option maxRecDepth 20000 in
theorem ggX8_word_X8_tells : GoodIn wsX8_word wsX8_tells := goodIn_r _ [39, 40, 41, 42, 43, 44, 45, 5, 46, 47, 48, 49, 50, 51, 52, 53, 54, 55, 56, 57, 58, 59, 60, 61, 62, 63, 64, 65, 66, 67, 68, 69, 70, 71, 72, 73, 74, 75, 76, 77, 78] (by decide +kernel) (by decide +kernel)
set_option maxRecDepth 20000 in
theorem gX8_word_X8_tells : GoodIn wsX8_word (wsV RX8 164 RX8 yX8_tells wsX8_tells) := goodIn_app (goodIn_of _ (by decide +kernel)) ggX8_word_X8_tells
theorem dX8_word_0 : decode cX8_word 0 = .ok (.aload_n 0, 1) := by decide +kernel
theorem dX8_word_1 : decode cX8_word 1 = .ok (.iconst 0, 1) := by decide +kernel
theorem dX8_word_2 : decode cX8_word 2 = .ok (.putfield 61, 3) := by decide +kernel
theorem dX8_word_5 : decode cX8_word 5 = .ok (.aload_n 0, 1) := by decide +kernel
theorem dX8_word_6 : decode cX8_word 6 = .ok (.getfield 108, 3) := by decide +kernel
theorem dX8_word_9 : decode cX8_word 9 = .ok (.ifCond .eq 22, 3) := by decide +kernel
theorem dX8_word_12 : decode cX8_word 12 = .ok (.lload_n 1, 1) := by decide +kernel
theorem dX8_word_13 : decode cX8_word 13 = .ok (.invokestatic 150, 3) := by decide +kernel
theorem dX8_word_16 : decode cX8_word 16 = .ok (.ifCond .eq 15, 3) := by decide +kernel
theorem dX8_word_19 : decode cX8_word 19 = .ok (.iload_n 3, 1) := by decide +kernel
theorem dX8_word_20 : decode cX8_word 20 = .ok (.i2l, 1) := by decide +kernel
theorem dX8_word_21 : decode cX8_word 21 = .ok (.lconst 1, 1) := by decide +kernel
theorem dX8_word_22 : decode cX8_word 22 = .ok (.ldc2_w 162, 3) := by decide +kernel
theorem dX8_word_25 : decode cX8_word 25 = .ok (.invokestatic 68, 3) := by decide +kernel
theorem dX8_word_28 : decode cX8_word 28 = .ok (.ifCond .ne 5, 3) := by decide +kernel
theorem dX8_word_31 : decode cX8_word 31 = .ok (.iconst (-1), 1) := by decide +kernel
theorem dX8_word_32 : decode cX8_word 32 = .ok (.ireturn, 1) := by decide +kernel
theorem dX8_word_33 : decode cX8_word 33 = .ok (.aload_n 0, 1) := by decide +kernel
theorem dX8_word_34 : decode cX8_word 34 = .ok (.lload_n 1, 1) := by decide +kernel
theorem dX8_word_35 : decode cX8_word 35 = .ok (.putfield 146, 3) := by decide +kernel
theorem dX8_word_38 : decode cX8_word 38 = .ok (.iconst 0, 1) := by decide +kernel
theorem dX8_word_39 : decode cX8_word 39 = .ok (.istore 4, 2) := by decide +kernel
theorem dX8_word_41 : decode cX8_word 41 = .ok (.iload 4, 2) := by decide +kernel
theorem dX8_word_43 : decode cX8_word 43 = .ok (.iload_n 3, 1) := by decide +kernel
theorem dX8_word_44 : decode cX8_word 44 = .ok (.if_icmp .ge 57, 3) := by decide +kernel
theorem dX8_word_47 : decode cX8_word 47 = .ok (.aload_n 0, 1) := by decide +kernel
theorem dX8_word_48 : decode cX8_word 48 = .ok (.aload_n 0, 1) := by decide +kernel
theorem dX8_word_49 : decode cX8_word 49 = .ok (.getfield 146, 3) := by decide +kernel
theorem dX8_word_52 : decode cX8_word 52 = .ok (.invokevirtual 140, 3) := by decide +kernel
theorem dX8_word_55 : decode cX8_word 55 = .ok (.istore 5, 2) := by decide +kernel
theorem dX8_word_57 : decode cX8_word 57 = .ok (.iload 5, 2) := by decide +kernel
theorem dX8_word_59 : decode cX8_word 59 = .ok (.ifCond .ge 6, 3) := by decide +kernel
theorem dX8_word_62 : decode cX8_word 62 = .ok (.goto 39, 3) := by decide +kernel
theorem dX8_word_65 : decode cX8_word 65 = .ok (.aload_n 0, 1) := by decide +kernel
theorem dX8_word_66 : decode cX8_word 66 = .ok (.getfield 32, 3) := by decide +kernel
theorem dX8_word_69 : decode cX8_word 69 = .ok (.iload 4, 2) := by decide +kernel
theorem dX8_word_71 : decode cX8_word 71 = .ok (.iload 5, 2) := by decide +kernel
theorem dX8_word_73 : decode cX8_word 73 = .ok (.i2l, 1) := by decide +kernel
theorem dX8_word_74 : decode cX8_word 74 = .ok (.lastore, 1) := by decide +kernel
theorem dX8_word_75 : decode cX8_word 75 = .ok (.iinc 4 1, 3) := by decide +kernel
theorem dX8_word_78 : decode cX8_word 78 = .ok (.iload 4, 2) := by decide +kernel
theorem dX8_word_80 : decode cX8_word 80 = .ok (.iload_n 3, 1) := by decide +kernel
theorem dX8_word_81 : decode cX8_word 81 = .ok (.if_icmp .ge 17, 3) := by decide +kernel
theorem dX8_word_84 : decode cX8_word 84 = .ok (.aload_n 0, 1) := by decide +kernel
theorem dX8_word_85 : decode cX8_word 85 = .ok (.aload_n 0, 1) := by decide +kernel
theorem dX8_word_86 : decode cX8_word 86 = .ok (.getfield 146, 3) := by decide +kernel
theorem dX8_word_89 : decode cX8_word 89 = .ok (.invokevirtual 154, 3) := by decide +kernel
theorem dX8_word_92 : decode cX8_word 92 = .ok (.iconst 2, 1) := by decide +kernel
theorem dX8_word_93 : decode cX8_word 93 = .ok (.if_icmp .ne 5, 3) := by decide +kernel
theorem dX8_word_96 : decode cX8_word 96 = .ok (.iconst (-1), 1) := by decide +kernel
theorem dX8_word_97 : decode cX8_word 97 = .ok (.ireturn, 1) := by decide +kernel
theorem dX8_word_98 : decode cX8_word 98 = .ok (.goto (-57), 3) := by decide +kernel
theorem dX8_word_101 : decode cX8_word 101 = .ok (.aload_n 0, 1) := by decide +kernel
theorem dX8_word_102 : decode cX8_word 102 = .ok (.iload 4, 2) := by decide +kernel
theorem dX8_word_104 : decode cX8_word 104 = .ok (.invokevirtual 164, 3) := by decide +kernel
theorem dX8_word_107 : decode cX8_word 107 = .ok (.iload 4, 2) := by decide +kernel
theorem dX8_word_109 : decode cX8_word 109 = .ok (.ireturn, 1) := by decide +kernel
theorem dX8_tells_0 : decode cX8_tells 0 = .ok (.aload_n 0, 1) := by decide +kernel
theorem dX8_tells_1 : decode cX8_tells 1 = .ok (.iload_n 1, 1) := by decide +kernel
theorem dX8_tells_2 : decode cX8_tells 2 = .ok (.sipush 1000, 3) := by decide +kernel
theorem dX8_tells_5 : decode cX8_tells 5 = .ok (.invokestatic 88, 3) := by decide +kernel
theorem dX8_tells_8 : decode cX8_tells 8 = .ok (.putfield 124, 3) := by decide +kernel
theorem dX8_tells_11 : decode cX8_tells 11 = .ok (.iconst 0, 1) := by decide +kernel
theorem dX8_tells_12 : decode cX8_tells 12 = .ok (.istore_n 2, 1) := by decide +kernel
theorem dX8_tells_13 : decode cX8_tells 13 = .ok (.iload_n 2, 1) := by decide +kernel
theorem dX8_tells_14 : decode cX8_tells 14 = .ok (.aload_n 0, 1) := by decide +kernel
theorem dX8_tells_15 : decode cX8_tells 15 = .ok (.getfield 124, 3) := by decide +kernel
theorem dX8_tells_18 : decode cX8_tells 18 = .ok (.if_icmp .ge 21, 3) := by decide +kernel
theorem dX8_tells_21 : decode cX8_tells 21 = .ok (.aload_n 0, 1) := by decide +kernel
theorem dX8_tells_22 : decode cX8_tells 22 = .ok (.getfield 29, 3) := by decide +kernel
theorem dX8_tells_25 : decode cX8_tells 25 = .ok (.iload_n 2, 1) := by decide +kernel
theorem dX8_tells_26 : decode cX8_tells 26 = .ok (.aload_n 0, 1) := by decide +kernel
theorem dX8_tells_27 : decode cX8_tells 27 = .ok (.getfield 32, 3) := by decide +kernel
theorem dX8_tells_30 : decode cX8_tells 30 = .ok (.iload_n 2, 1) := by decide +kernel
theorem dX8_tells_31 : decode cX8_tells 31 = .ok (.laload, 1) := by decide +kernel
theorem dX8_tells_32 : decode cX8_tells 32 = .ok (.lastore, 1) := by decide +kernel
theorem dX8_tells_33 : decode cX8_tells 33 = .ok (.iinc 2 1, 3) := by decide +kernel
theorem dX8_tells_36 : decode cX8_tells 36 = .ok (.goto (-23), 3) := by decide +kernel
theorem dX8_tells_39 : decode cX8_tells 39 = .ok (.return_, 1) := by decide +kernel
set_option maxRecDepth 20000 in
theorem ggX8_row_X8_in : GoodIn wsX8_row wsX8_in := goodIn_r _ [7] (by decide +kernel) (by decide +kernel)
set_option maxRecDepth 20000 in
theorem gX8_row_X8_in : GoodIn wsX8_row (va_wsS RX8 68 yX8_in wsX8_in) := goodIn_app (goodIn_of _ (by decide +kernel)) ggX8_row_X8_in
set_option maxRecDepth 20000 in
theorem ggX8_row_X8_refuse : GoodIn wsX8_row wsX8_refuse := goodIn_r _ [11, 1, 12, 13, 14, 15, 16, 17, 18, 19, 20, 21, 22, 23, 24, 25, 26, 27, 28, 29, 30, 31, 32, 33, 34, 35, 36, 37, 38, 39, 40, 41, 42, 43, 44] (by decide +kernel) (by decide +kernel)
set_option maxRecDepth 20000 in
theorem gX8_row_X8_refuse : GoodIn wsX8_row (wsV RX8 98 RX8 yX8_refuse wsX8_refuse) := goodIn_app (goodIn_of _ (by decide +kernel)) ggX8_row_X8_refuse
theorem dX8_row_0 : decode cX8_row 0 = .ok (.aload_n 0, 1) := by decide +kernel
theorem dX8_row_1 : decode cX8_row 1 = .ok (.iconst 0, 1) := by decide +kernel
theorem dX8_row_2 : decode cX8_row 2 = .ok (.putfield 61, 3) := by decide +kernel
theorem dX8_row_5 : decode cX8_row 5 = .ok (.iload_n 1, 1) := by decide +kernel
theorem dX8_row_6 : decode cX8_row 6 = .ok (.i2l, 1) := by decide +kernel
theorem dX8_row_7 : decode cX8_row 7 = .ok (.lconst 0, 1) := by decide +kernel
theorem dX8_row_8 : decode cX8_row 8 = .ok (.aload_n 0, 1) := by decide +kernel
theorem dX8_row_9 : decode cX8_row 9 = .ok (.getfield 124, 3) := by decide +kernel
theorem dX8_row_12 : decode cX8_row 12 = .ok (.iconst 1, 1) := by decide +kernel
theorem dX8_row_13 : decode cX8_row 13 = .ok (.isub, 1) := by decide +kernel
theorem dX8_row_14 : decode cX8_row 14 = .ok (.i2l, 1) := by decide +kernel
theorem dX8_row_15 : decode cX8_row 15 = .ok (.invokestatic 68, 3) := by decide +kernel
theorem dX8_row_18 : decode cX8_row 18 = .ok (.ifCond .eq 12, 3) := by decide +kernel
theorem dX8_row_21 : decode cX8_row 21 = .ok (.aload_n 0, 1) := by decide +kernel
theorem dX8_row_22 : decode cX8_row 22 = .ok (.getfield 29, 3) := by decide +kernel
theorem dX8_row_25 : decode cX8_row 25 = .ok (.iload_n 1, 1) := by decide +kernel
theorem dX8_row_26 : decode cX8_row 26 = .ok (.laload, 1) := by decide +kernel
theorem dX8_row_27 : decode cX8_row 27 = .ok (.goto 8, 3) := by decide +kernel
theorem dX8_row_30 : decode cX8_row 30 = .ok (.aload_n 0, 1) := by decide +kernel
theorem dX8_row_31 : decode cX8_row 31 = .ok (.iconst 1, 1) := by decide +kernel
theorem dX8_row_32 : decode cX8_row 32 = .ok (.invokevirtual 98, 3) := by decide +kernel
theorem dX8_row_35 : decode cX8_row 35 = .ok (.lreturn, 1) := by decide +kernel
set_option maxRecDepth 20000 in
theorem ggX8_rest_X8_in : GoodIn wsX8_rest wsX8_in := goodIn_r _ [8] (by decide +kernel) (by decide +kernel)
set_option maxRecDepth 20000 in
theorem gX8_rest_X8_in : GoodIn wsX8_rest (va_wsS RX8 68 yX8_in wsX8_in) := goodIn_app (goodIn_of _ (by decide +kernel)) ggX8_rest_X8_in
theorem dX8_rest_0 : decode cX8_rest 0 = .ok (.aload_n 0, 1) := by decide +kernel
theorem dX8_rest_1 : decode cX8_rest 1 = .ok (.iconst 0, 1) := by decide +kernel
theorem dX8_rest_2 : decode cX8_rest 2 = .ok (.putfield 61, 3) := by decide +kernel
theorem dX8_rest_5 : decode cX8_rest 5 = .ok (.iload_n 1, 1) := by decide +kernel
theorem dX8_rest_6 : decode cX8_rest 6 = .ok (.i2l, 1) := by decide +kernel
theorem dX8_rest_7 : decode cX8_rest 7 = .ok (.lconst 0, 1) := by decide +kernel
theorem dX8_rest_8 : decode cX8_rest 8 = .ok (.ldc2_w 168, 3) := by decide +kernel
theorem dX8_rest_11 : decode cX8_rest 11 = .ok (.invokestatic 68, 3) := by decide +kernel
theorem dX8_rest_14 : decode cX8_rest 14 = .ok (.ifCond .eq 12, 3) := by decide +kernel
theorem dX8_rest_17 : decode cX8_rest 17 = .ok (.aload_n 0, 1) := by decide +kernel
theorem dX8_rest_18 : decode cX8_rest 18 = .ok (.getfield 127, 3) := by decide +kernel
theorem dX8_rest_21 : decode cX8_rest 21 = .ok (.bipush 40, 2) := by decide +kernel
theorem dX8_rest_23 : decode cX8_rest 23 = .ok (.if_icmp .ne 5, 3) := by decide +kernel
theorem dX8_rest_26 : decode cX8_rest 26 = .ok (.iconst (-1), 1) := by decide +kernel
theorem dX8_rest_27 : decode cX8_rest 27 = .ok (.ireturn, 1) := by decide +kernel
theorem dX8_rest_28 : decode cX8_rest 28 = .ok (.aload_n 0, 1) := by decide +kernel
theorem dX8_rest_29 : decode cX8_rest 29 = .ok (.getfield 35, 3) := by decide +kernel
theorem dX8_rest_32 : decode cX8_rest 32 = .ok (.aload_n 0, 1) := by decide +kernel
theorem dX8_rest_33 : decode cX8_rest 33 = .ok (.getfield 127, 3) := by decide +kernel
theorem dX8_rest_36 : decode cX8_rest 36 = .ok (.iload_n 1, 1) := by decide +kernel
theorem dX8_rest_37 : decode cX8_rest 37 = .ok (.iastore, 1) := by decide +kernel
theorem dX8_rest_38 : decode cX8_rest 38 = .ok (.aload_n 0, 1) := by decide +kernel
theorem dX8_rest_39 : decode cX8_rest 39 = .ok (.dup, 1) := by decide +kernel
theorem dX8_rest_40 : decode cX8_rest 40 = .ok (.getfield 127, 3) := by decide +kernel
theorem dX8_rest_43 : decode cX8_rest 43 = .ok (.iconst 1, 1) := by decide +kernel
theorem dX8_rest_44 : decode cX8_rest 44 = .ok (.iadd, 1) := by decide +kernel
theorem dX8_rest_45 : decode cX8_rest 45 = .ok (.putfield 127, 3) := by decide +kernel
theorem dX8_rest_48 : decode cX8_rest 48 = .ok (.aload_n 0, 1) := by decide +kernel
theorem dX8_rest_49 : decode cX8_rest 49 = .ok (.getfield 127, 3) := by decide +kernel
theorem dX8_rest_52 : decode cX8_rest 52 = .ok (.ireturn, 1) := by decide +kernel
theorem dX8_clear_0 : decode cX8_clear 0 = .ok (.aload_n 0, 1) := by decide +kernel
theorem dX8_clear_1 : decode cX8_clear 1 = .ok (.iconst 0, 1) := by decide +kernel
theorem dX8_clear_2 : decode cX8_clear 2 = .ok (.putfield 61, 3) := by decide +kernel
theorem dX8_clear_5 : decode cX8_clear 5 = .ok (.aload_n 0, 1) := by decide +kernel
theorem dX8_clear_6 : decode cX8_clear 6 = .ok (.getfield 127, 3) := by decide +kernel
theorem dX8_clear_9 : decode cX8_clear 9 = .ok (.istore_n 1, 1) := by decide +kernel
theorem dX8_clear_10 : decode cX8_clear 10 = .ok (.aload_n 0, 1) := by decide +kernel
theorem dX8_clear_11 : decode cX8_clear 11 = .ok (.iconst 0, 1) := by decide +kernel
theorem dX8_clear_12 : decode cX8_clear 12 = .ok (.putfield 127, 3) := by decide +kernel
theorem dX8_clear_15 : decode cX8_clear 15 = .ok (.iload_n 1, 1) := by decide +kernel
theorem dX8_clear_16 : decode cX8_clear 16 = .ok (.ireturn, 1) := by decide +kernel
set_option maxRecDepth 20000 in
theorem ggX8_shaped_X8_common : GoodIn wsX8_shaped wsX8_common := goodIn_ca (goodIn_r _ [8] (by decide +kernel) (by decide +kernel)) (goodIn_sub (fun _ h => List.mem_cons_of_mem _ (List.mem_append_right _ h)) (by decide +kernel))
set_option maxRecDepth 20000 in
theorem gX8_shaped_X8_common : GoodIn wsX8_shaped (va_wsS RX8 114 yX8_common wsX8_common) := goodIn_app (goodIn_of _ (by decide +kernel)) ggX8_shaped_X8_common
set_option maxRecDepth 20000 in
theorem ggX8_shaped_X8_isNumber : GoodIn wsX8_shaped wsX8_isNumber := goodIn_r _ [11, 12, 13, 14, 15, 7, 16] (by decide +kernel) (by decide +kernel)
set_option maxRecDepth 20000 in
theorem gX8_shaped_X8_isNumber : GoodIn wsX8_shaped (va_wsS RX8 150 yX8_isNumber wsX8_isNumber) := goodIn_app (goodIn_of _ (by decide +kernel)) ggX8_shaped_X8_isNumber
theorem dX8_shaped_0 : decode cX8_shaped 0 = .ok (.aload_n 0, 1) := by decide +kernel
theorem dX8_shaped_1 : decode cX8_shaped 1 = .ok (.lconst 1, 1) := by decide +kernel
theorem dX8_shaped_2 : decode cX8_shaped 2 = .ok (.putfield 170, 3) := by decide +kernel
theorem dX8_shaped_5 : decode cX8_shaped 5 = .ok (.aload_n 0, 1) := by decide +kernel
theorem dX8_shaped_6 : decode cX8_shaped 6 = .ok (.lconst 0, 1) := by decide +kernel
theorem dX8_shaped_7 : decode cX8_shaped 7 = .ok (.putfield 173, 3) := by decide +kernel
theorem dX8_shaped_10 : decode cX8_shaped 10 = .ok (.aload_n 0, 1) := by decide +kernel
theorem dX8_shaped_11 : decode cX8_shaped 11 = .ok (.lconst 1, 1) := by decide +kernel
theorem dX8_shaped_12 : decode cX8_shaped 12 = .ok (.putfield 176, 3) := by decide +kernel
theorem dX8_shaped_15 : decode cX8_shaped 15 = .ok (.iconst 0, 1) := by decide +kernel
theorem dX8_shaped_16 : decode cX8_shaped 16 = .ok (.istore_n 3, 1) := by decide +kernel
theorem dX8_shaped_17 : decode cX8_shaped 17 = .ok (.iload_n 3, 1) := by decide +kernel
theorem dX8_shaped_18 : decode cX8_shaped 18 = .ok (.iload_n 2, 1) := by decide +kernel
theorem dX8_shaped_19 : decode cX8_shaped 19 = .ok (.if_icmp .ge 175, 3) := by decide +kernel
theorem dX8_shaped_22 : decode cX8_shaped 22 = .ok (.aload_n 0, 1) := by decide +kernel
theorem dX8_shaped_23 : decode cX8_shaped 23 = .ok (.getfield 20, 3) := by decide +kernel
theorem dX8_shaped_26 : decode cX8_shaped 26 = .ok (.iconst 3, 1) := by decide +kernel
theorem dX8_shaped_27 : decode cX8_shaped 27 = .ok (.aload_n 1, 1) := by decide +kernel
theorem dX8_shaped_28 : decode cX8_shaped 28 = .ok (.iload_n 3, 1) := by decide +kernel
theorem dX8_shaped_29 : decode cX8_shaped 29 = .ok (.iaload, 1) := by decide +kernel
theorem dX8_shaped_30 : decode cX8_shaped 30 = .ok (.imul, 1) := by decide +kernel
theorem dX8_shaped_31 : decode cX8_shaped 31 = .ok (.laload, 1) := by decide +kernel
theorem dX8_shaped_32 : decode cX8_shaped 32 = .ok (.lstore 4, 2) := by decide +kernel
theorem dX8_shaped_34 : decode cX8_shaped 34 = .ok (.aload_n 0, 1) := by decide +kernel
theorem dX8_shaped_35 : decode cX8_shaped 35 = .ok (.getfield 20, 3) := by decide +kernel
theorem dX8_shaped_38 : decode cX8_shaped 38 = .ok (.iconst 3, 1) := by decide +kernel
theorem dX8_shaped_39 : decode cX8_shaped 39 = .ok (.aload_n 1, 1) := by decide +kernel
theorem dX8_shaped_40 : decode cX8_shaped 40 = .ok (.iload_n 3, 1) := by decide +kernel
theorem dX8_shaped_41 : decode cX8_shaped 41 = .ok (.iaload, 1) := by decide +kernel
theorem dX8_shaped_42 : decode cX8_shaped 42 = .ok (.imul, 1) := by decide +kernel
theorem dX8_shaped_43 : decode cX8_shaped 43 = .ok (.iconst 1, 1) := by decide +kernel
theorem dX8_shaped_44 : decode cX8_shaped 44 = .ok (.iadd, 1) := by decide +kernel
theorem dX8_shaped_45 : decode cX8_shaped 45 = .ok (.laload, 1) := by decide +kernel
theorem dX8_shaped_46 : decode cX8_shaped 46 = .ok (.lstore 6, 2) := by decide +kernel
theorem dX8_shaped_48 : decode cX8_shaped 48 = .ok (.aload_n 0, 1) := by decide +kernel
theorem dX8_shaped_49 : decode cX8_shaped 49 = .ok (.getfield 20, 3) := by decide +kernel
theorem dX8_shaped_52 : decode cX8_shaped 52 = .ok (.iconst 3, 1) := by decide +kernel
theorem dX8_shaped_53 : decode cX8_shaped 53 = .ok (.aload_n 1, 1) := by decide +kernel
theorem dX8_shaped_54 : decode cX8_shaped 54 = .ok (.iload_n 3, 1) := by decide +kernel
theorem dX8_shaped_55 : decode cX8_shaped 55 = .ok (.iaload, 1) := by decide +kernel
theorem dX8_shaped_56 : decode cX8_shaped 56 = .ok (.imul, 1) := by decide +kernel
theorem dX8_shaped_57 : decode cX8_shaped 57 = .ok (.iconst 2, 1) := by decide +kernel
theorem dX8_shaped_58 : decode cX8_shaped 58 = .ok (.iadd, 1) := by decide +kernel
theorem dX8_shaped_59 : decode cX8_shaped 59 = .ok (.laload, 1) := by decide +kernel
theorem dX8_shaped_60 : decode cX8_shaped 60 = .ok (.lstore 8, 2) := by decide +kernel
theorem dX8_shaped_62 : decode cX8_shaped 62 = .ok (.aload_n 0, 1) := by decide +kernel
theorem dX8_shaped_63 : decode cX8_shaped 63 = .ok (.lload 4, 2) := by decide +kernel
theorem dX8_shaped_65 : decode cX8_shaped 65 = .ok (.aload_n 0, 1) := by decide +kernel
theorem dX8_shaped_66 : decode cX8_shaped 66 = .ok (.getfield 173, 3) := by decide +kernel
theorem dX8_shaped_69 : decode cX8_shaped 69 = .ok (.lmul, 1) := by decide +kernel
theorem dX8_shaped_70 : decode cX8_shaped 70 = .ok (.lload 6, 2) := by decide +kernel
theorem dX8_shaped_72 : decode cX8_shaped 72 = .ok (.aload_n 0, 1) := by decide +kernel
theorem dX8_shaped_73 : decode cX8_shaped 73 = .ok (.getfield 176, 3) := by decide +kernel
theorem dX8_shaped_76 : decode cX8_shaped 76 = .ok (.lmul, 1) := by decide +kernel
theorem dX8_shaped_77 : decode cX8_shaped 77 = .ok (.ladd, 1) := by decide +kernel
theorem dX8_shaped_78 : decode cX8_shaped 78 = .ok (.putfield 173, 3) := by decide +kernel
theorem dX8_shaped_81 : decode cX8_shaped 81 = .ok (.aload_n 0, 1) := by decide +kernel
theorem dX8_shaped_82 : decode cX8_shaped 82 = .ok (.lload 4, 2) := by decide +kernel
theorem dX8_shaped_84 : decode cX8_shaped 84 = .ok (.aload_n 0, 1) := by decide +kernel
theorem dX8_shaped_85 : decode cX8_shaped 85 = .ok (.getfield 170, 3) := by decide +kernel
theorem dX8_shaped_88 : decode cX8_shaped 88 = .ok (.lmul, 1) := by decide +kernel
theorem dX8_shaped_89 : decode cX8_shaped 89 = .ok (.putfield 170, 3) := by decide +kernel
theorem dX8_shaped_92 : decode cX8_shaped 92 = .ok (.aload_n 0, 1) := by decide +kernel
theorem dX8_shaped_93 : decode cX8_shaped 93 = .ok (.lload 8, 2) := by decide +kernel
theorem dX8_shaped_95 : decode cX8_shaped 95 = .ok (.aload_n 0, 1) := by decide +kernel
theorem dX8_shaped_96 : decode cX8_shaped 96 = .ok (.getfield 176, 3) := by decide +kernel
theorem dX8_shaped_99 : decode cX8_shaped 99 = .ok (.lmul, 1) := by decide +kernel
theorem dX8_shaped_100 : decode cX8_shaped 100 = .ok (.putfield 176, 3) := by decide +kernel
theorem dX8_shaped_103 : decode cX8_shaped 103 = .ok (.aload_n 0, 1) := by decide +kernel
theorem dX8_shaped_104 : decode cX8_shaped 104 = .ok (.getfield 170, 3) := by decide +kernel
theorem dX8_shaped_107 : decode cX8_shaped 107 = .ok (.aload_n 0, 1) := by decide +kernel
theorem dX8_shaped_108 : decode cX8_shaped 108 = .ok (.getfield 173, 3) := by decide +kernel
theorem dX8_shaped_111 : decode cX8_shaped 111 = .ok (.invokestatic 114, 3) := by decide +kernel
theorem dX8_shaped_114 : decode cX8_shaped 114 = .ok (.aload_n 0, 1) := by decide +kernel
theorem dX8_shaped_115 : decode cX8_shaped 115 = .ok (.getfield 176, 3) := by decide +kernel
theorem dX8_shaped_118 : decode cX8_shaped 118 = .ok (.invokestatic 114, 3) := by decide +kernel
theorem dX8_shaped_121 : decode cX8_shaped 121 = .ok (.lstore 10, 2) := by decide +kernel
theorem dX8_shaped_123 : decode cX8_shaped 123 = .ok (.aload_n 0, 1) := by decide +kernel
theorem dX8_shaped_124 : decode cX8_shaped 124 = .ok (.dup, 1) := by decide +kernel
theorem dX8_shaped_125 : decode cX8_shaped 125 = .ok (.getfield 170, 3) := by decide +kernel
theorem dX8_shaped_128 : decode cX8_shaped 128 = .ok (.lload 10, 2) := by decide +kernel
theorem dX8_shaped_130 : decode cX8_shaped 130 = .ok (.ldiv, 1) := by decide +kernel
theorem dX8_shaped_131 : decode cX8_shaped 131 = .ok (.putfield 170, 3) := by decide +kernel
theorem dX8_shaped_134 : decode cX8_shaped 134 = .ok (.aload_n 0, 1) := by decide +kernel
theorem dX8_shaped_135 : decode cX8_shaped 135 = .ok (.dup, 1) := by decide +kernel
theorem dX8_shaped_136 : decode cX8_shaped 136 = .ok (.getfield 173, 3) := by decide +kernel
theorem dX8_shaped_139 : decode cX8_shaped 139 = .ok (.lload 10, 2) := by decide +kernel
theorem dX8_shaped_141 : decode cX8_shaped 141 = .ok (.ldiv, 1) := by decide +kernel
theorem dX8_shaped_142 : decode cX8_shaped 142 = .ok (.putfield 173, 3) := by decide +kernel
theorem dX8_shaped_145 : decode cX8_shaped 145 = .ok (.aload_n 0, 1) := by decide +kernel
theorem dX8_shaped_146 : decode cX8_shaped 146 = .ok (.dup, 1) := by decide +kernel
theorem dX8_shaped_147 : decode cX8_shaped 147 = .ok (.getfield 176, 3) := by decide +kernel
theorem dX8_shaped_150 : decode cX8_shaped 150 = .ok (.lload 10, 2) := by decide +kernel
theorem dX8_shaped_152 : decode cX8_shaped 152 = .ok (.ldiv, 1) := by decide +kernel
theorem dX8_shaped_153 : decode cX8_shaped 153 = .ok (.putfield 176, 3) := by decide +kernel
theorem dX8_shaped_156 : decode cX8_shaped 156 = .ok (.aload_n 0, 1) := by decide +kernel
theorem dX8_shaped_157 : decode cX8_shaped 157 = .ok (.getfield 170, 3) := by decide +kernel
theorem dX8_shaped_160 : decode cX8_shaped 160 = .ok (.invokestatic 150, 3) := by decide +kernel
theorem dX8_shaped_163 : decode cX8_shaped 163 = .ok (.ifCond .eq 23, 3) := by decide +kernel
theorem dX8_shaped_166 : decode cX8_shaped 166 = .ok (.aload_n 0, 1) := by decide +kernel
theorem dX8_shaped_167 : decode cX8_shaped 167 = .ok (.getfield 173, 3) := by decide +kernel
theorem dX8_shaped_170 : decode cX8_shaped 170 = .ok (.invokestatic 150, 3) := by decide +kernel
theorem dX8_shaped_173 : decode cX8_shaped 173 = .ok (.ifCond .eq 13, 3) := by decide +kernel
theorem dX8_shaped_176 : decode cX8_shaped 176 = .ok (.aload_n 0, 1) := by decide +kernel
theorem dX8_shaped_177 : decode cX8_shaped 177 = .ok (.getfield 176, 3) := by decide +kernel
theorem dX8_shaped_180 : decode cX8_shaped 180 = .ok (.invokestatic 150, 3) := by decide +kernel
theorem dX8_shaped_183 : decode cX8_shaped 183 = .ok (.ifCond .ne 5, 3) := by decide +kernel
theorem dX8_shaped_186 : decode cX8_shaped 186 = .ok (.iconst 0, 1) := by decide +kernel
theorem dX8_shaped_187 : decode cX8_shaped 187 = .ok (.ireturn, 1) := by decide +kernel
theorem dX8_shaped_188 : decode cX8_shaped 188 = .ok (.iinc 3 1, 3) := by decide +kernel
theorem dX8_shaped_191 : decode cX8_shaped 191 = .ok (.goto (-174), 3) := by decide +kernel
theorem dX8_shaped_194 : decode cX8_shaped 194 = .ok (.iconst 1, 1) := by decide +kernel
theorem dX8_shaped_195 : decode cX8_shaped 195 = .ok (.ireturn, 1) := by decide +kernel
theorem dX8_isWord_0 : decode cX8_isWord 0 = .ok (.aload_n 0, 1) := by decide +kernel
theorem dX8_isWord_1 : decode cX8_isWord 1 = .ok (.getfield 108, 3) := by decide +kernel
theorem dX8_isWord_4 : decode cX8_isWord 4 = .ok (.iconst 1, 1) := by decide +kernel
theorem dX8_isWord_5 : decode cX8_isWord 5 = .ok (.if_icmp .ne 14, 3) := by decide +kernel
theorem dX8_isWord_8 : decode cX8_isWord 8 = .ok (.aload_n 0, 1) := by decide +kernel
theorem dX8_isWord_9 : decode cX8_isWord 9 = .ok (.getfield 127, 3) := by decide +kernel
theorem dX8_isWord_12 : decode cX8_isWord 12 = .ok (.ifCond .le 7, 3) := by decide +kernel
theorem dX8_isWord_15 : decode cX8_isWord 15 = .ok (.iconst 1, 1) := by decide +kernel
theorem dX8_isWord_16 : decode cX8_isWord 16 = .ok (.goto 4, 3) := by decide +kernel
theorem dX8_isWord_19 : decode cX8_isWord 19 = .ok (.iconst 0, 1) := by decide +kernel
theorem dX8_isWord_20 : decode cX8_isWord 20 = .ok (.istore_n 1, 1) := by decide +kernel
theorem dX8_isWord_21 : decode cX8_isWord 21 = .ok (.iconst 0, 1) := by decide +kernel
theorem dX8_isWord_22 : decode cX8_isWord 22 = .ok (.istore_n 2, 1) := by decide +kernel
theorem dX8_isWord_23 : decode cX8_isWord 23 = .ok (.iload_n 2, 1) := by decide +kernel
theorem dX8_isWord_24 : decode cX8_isWord 24 = .ok (.aload_n 0, 1) := by decide +kernel
theorem dX8_isWord_25 : decode cX8_isWord 25 = .ok (.getfield 127, 3) := by decide +kernel
theorem dX8_isWord_28 : decode cX8_isWord 28 = .ok (.if_icmp .ge 32, 3) := by decide +kernel
theorem dX8_isWord_31 : decode cX8_isWord 31 = .ok (.iload_n 1, 1) := by decide +kernel
theorem dX8_isWord_32 : decode cX8_isWord 32 = .ok (.ifCond .eq 28, 3) := by decide +kernel
theorem dX8_isWord_35 : decode cX8_isWord 35 = .ok (.aload_n 0, 1) := by decide +kernel
theorem dX8_isWord_36 : decode cX8_isWord 36 = .ok (.getfield 35, 3) := by decide +kernel
theorem dX8_isWord_39 : decode cX8_isWord 39 = .ok (.iload_n 2, 1) := by decide +kernel
theorem dX8_isWord_40 : decode cX8_isWord 40 = .ok (.iaload, 1) := by decide +kernel
theorem dX8_isWord_41 : decode cX8_isWord 41 = .ok (.aload_n 0, 1) := by decide +kernel
theorem dX8_isWord_42 : decode cX8_isWord 42 = .ok (.getfield 105, 3) := by decide +kernel
theorem dX8_isWord_45 : decode cX8_isWord 45 = .ok (.if_icmp .ge 7, 3) := by decide +kernel
theorem dX8_isWord_48 : decode cX8_isWord 48 = .ok (.iconst 1, 1) := by decide +kernel
theorem dX8_isWord_49 : decode cX8_isWord 49 = .ok (.goto 4, 3) := by decide +kernel
theorem dX8_isWord_52 : decode cX8_isWord 52 = .ok (.iconst 0, 1) := by decide +kernel
theorem dX8_isWord_53 : decode cX8_isWord 53 = .ok (.istore_n 1, 1) := by decide +kernel
theorem dX8_isWord_54 : decode cX8_isWord 54 = .ok (.iinc 2 1, 3) := by decide +kernel
theorem dX8_isWord_57 : decode cX8_isWord 57 = .ok (.goto (-34), 3) := by decide +kernel
theorem dX8_isWord_60 : decode cX8_isWord 60 = .ok (.iload_n 1, 1) := by decide +kernel
theorem dX8_isWord_61 : decode cX8_isWord 61 = .ok (.ireturn, 1) := by decide +kernel
set_option maxRecDepth 20000 in
theorem ggX8_shape_X8_isWord : GoodIn wsX8_shape wsX8_isWord := goodIn_r _ [12, 13, 3, 2, 14, 41, 42, 43, 44, 45, 46, 47, 48, 49, 50, 51, 52, 53, 54, 55, 56, 57, 58, 59, 60, 61, 62, 63, 64, 65, 66, 67, 68, 69, 70, 71, 72, 73] (by decide +kernel) (by decide +kernel)
set_option maxRecDepth 20000 in
theorem gX8_shape_X8_isWord : GoodIn wsX8_shape (wsV RX8 179 RX8 yX8_isWord wsX8_isWord) := goodIn_app (goodIn_of _ (by decide +kernel)) ggX8_shape_X8_isWord
set_option maxRecDepth 20000 in
theorem ggX8_shape_X8_shaped : GoodIn wsX8_shape wsX8_shaped := goodIn_ca (goodIn_r _ [18, 5, 6, 7, 19, 20, 21, 11, 22, 23, 24, 25, 26, 27, 28, 29, 30, 41, 42, 43, 44, 45, 46, 47, 48, 49, 50, 51, 52, 53, 54, 55, 56, 57, 58, 59, 60, 61, 62, 63, 64, 65, 66, 67, 68, 69, 70, 71, 72, 73] (by decide +kernel) (by decide +kernel)) (goodIn_sub (fun _ h => List.mem_cons_of_mem _ (List.mem_append_right _ h)) (by decide +kernel))
set_option maxRecDepth 20000 in
theorem gX8_shape_X8_shaped : GoodIn wsX8_shape (wsV RX8 183 RX8 yX8_shaped wsX8_shaped) := goodIn_app (goodIn_of _ (by decide +kernel)) ggX8_shape_X8_shaped
set_option maxRecDepth 20000 in
theorem ggX8_shape_X8_tells : GoodIn wsX8_shape wsX8_tells := goodIn_r _ [34, 35, 36, 37, 38, 39, 40, 4, 41, 42, 43, 44, 45, 46, 47, 48, 49, 50, 51, 52, 53, 54, 55, 56, 57, 58, 59, 60, 61, 62, 63, 64, 65, 66, 67, 68, 69, 70, 71, 72, 73] (by decide +kernel) (by decide +kernel)
set_option maxRecDepth 20000 in
theorem gX8_shape_X8_tells : GoodIn wsX8_shape (wsV RX8 164 RX8 yX8_tells wsX8_tells) := goodIn_app (goodIn_of _ (by decide +kernel)) ggX8_shape_X8_tells
theorem dX8_shape_0 : decode cX8_shape 0 = .ok (.aload_n 0, 1) := by decide +kernel
theorem dX8_shape_1 : decode cX8_shape 1 = .ok (.iconst 0, 1) := by decide +kernel
theorem dX8_shape_2 : decode cX8_shape 2 = .ok (.putfield 61, 3) := by decide +kernel
theorem dX8_shape_5 : decode cX8_shape 5 = .ok (.aload_n 0, 1) := by decide +kernel
theorem dX8_shape_6 : decode cX8_shape 6 = .ok (.invokevirtual 179, 3) := by decide +kernel
theorem dX8_shape_9 : decode cX8_shape 9 = .ok (.ifCond .ne 5, 3) := by decide +kernel
theorem dX8_shape_12 : decode cX8_shape 12 = .ok (.iconst (-1), 1) := by decide +kernel
theorem dX8_shape_13 : decode cX8_shape 13 = .ok (.ireturn, 1) := by decide +kernel
theorem dX8_shape_14 : decode cX8_shape 14 = .ok (.aload_n 0, 1) := by decide +kernel
theorem dX8_shape_15 : decode cX8_shape 15 = .ok (.aload_n 0, 1) := by decide +kernel
theorem dX8_shape_16 : decode cX8_shape 16 = .ok (.getfield 35, 3) := by decide +kernel
theorem dX8_shape_19 : decode cX8_shape 19 = .ok (.aload_n 0, 1) := by decide +kernel
theorem dX8_shape_20 : decode cX8_shape 20 = .ok (.getfield 127, 3) := by decide +kernel
theorem dX8_shape_23 : decode cX8_shape 23 = .ok (.invokevirtual 183, 3) := by decide +kernel
theorem dX8_shape_26 : decode cX8_shape 26 = .ok (.ifCond .ne 6, 3) := by decide +kernel
theorem dX8_shape_29 : decode cX8_shape 29 = .ok (.bipush (-2), 2) := by decide +kernel
theorem dX8_shape_31 : decode cX8_shape 31 = .ok (.ireturn, 1) := by decide +kernel
theorem dX8_shape_32 : decode cX8_shape 32 = .ok (.aload_n 0, 1) := by decide +kernel
theorem dX8_shape_33 : decode cX8_shape 33 = .ok (.getfield 32, 3) := by decide +kernel
theorem dX8_shape_36 : decode cX8_shape 36 = .ok (.iconst 0, 1) := by decide +kernel
theorem dX8_shape_37 : decode cX8_shape 37 = .ok (.aload_n 0, 1) := by decide +kernel
theorem dX8_shape_38 : decode cX8_shape 38 = .ok (.getfield 170, 3) := by decide +kernel
theorem dX8_shape_41 : decode cX8_shape 41 = .ok (.lastore, 1) := by decide +kernel
theorem dX8_shape_42 : decode cX8_shape 42 = .ok (.aload_n 0, 1) := by decide +kernel
theorem dX8_shape_43 : decode cX8_shape 43 = .ok (.getfield 32, 3) := by decide +kernel
theorem dX8_shape_46 : decode cX8_shape 46 = .ok (.iconst 1, 1) := by decide +kernel
theorem dX8_shape_47 : decode cX8_shape 47 = .ok (.aload_n 0, 1) := by decide +kernel
theorem dX8_shape_48 : decode cX8_shape 48 = .ok (.getfield 173, 3) := by decide +kernel
theorem dX8_shape_51 : decode cX8_shape 51 = .ok (.lastore, 1) := by decide +kernel
theorem dX8_shape_52 : decode cX8_shape 52 = .ok (.aload_n 0, 1) := by decide +kernel
theorem dX8_shape_53 : decode cX8_shape 53 = .ok (.getfield 32, 3) := by decide +kernel
theorem dX8_shape_56 : decode cX8_shape 56 = .ok (.iconst 2, 1) := by decide +kernel
theorem dX8_shape_57 : decode cX8_shape 57 = .ok (.aload_n 0, 1) := by decide +kernel
theorem dX8_shape_58 : decode cX8_shape 58 = .ok (.getfield 176, 3) := by decide +kernel
theorem dX8_shape_61 : decode cX8_shape 61 = .ok (.lastore, 1) := by decide +kernel
theorem dX8_shape_62 : decode cX8_shape 62 = .ok (.aload_n 0, 1) := by decide +kernel
theorem dX8_shape_63 : decode cX8_shape 63 = .ok (.iconst 3, 1) := by decide +kernel
theorem dX8_shape_64 : decode cX8_shape 64 = .ok (.invokevirtual 164, 3) := by decide +kernel
theorem dX8_shape_67 : decode cX8_shape 67 = .ok (.iconst 1, 1) := by decide +kernel
theorem dX8_shape_68 : decode cX8_shape 68 = .ok (.ireturn, 1) := by decide +kernel
set_option maxRecDepth 20000 in
theorem ggX8_ringOf_X8_isNumber : GoodIn wsX8_ringOf wsX8_isNumber := goodIn_r _ [16, 17, 18, 19, 20, 15, 21] (by decide +kernel) (by decide +kernel)
set_option maxRecDepth 20000 in
theorem gX8_ringOf_X8_isNumber : GoodIn wsX8_ringOf (va_wsS RX8 150 yX8_isNumber wsX8_isNumber) := goodIn_app (goodIn_of _ (by decide +kernel)) ggX8_ringOf_X8_isNumber
set_option maxRecDepth 20000 in
theorem ggX8_ringOf_X8_restBy : GoodIn wsX8_ringOf wsX8_restBy := goodIn_r _ [24, 25, 26, 27, 28] (by decide +kernel) (by decide +kernel)
set_option maxRecDepth 20000 in
theorem gX8_ringOf_X8_restBy : GoodIn wsX8_ringOf (va_wsS RX8 136 yX8_restBy wsX8_restBy) := goodIn_app (goodIn_of _ (by decide +kernel)) ggX8_ringOf_X8_restBy
set_option maxRecDepth 20000 in
theorem ggX8_ringOf_X8_goes : GoodIn wsX8_ringOf wsX8_goes := goodIn_ca (goodIn_r _ [32, 33, 34, 18, 35, 36, 7, 37, 38, 39, 40, 15, 41, 8, 42, 22, 23, 24, 25, 26, 27, 28, 13, 14, 16, 17, 19, 20, 21, 43, 44, 45, 46, 47, 48, 49, 50, 51, 52, 53, 54, 55, 56, 57, 58, 59, 60, 61, 62, 63, 64, 65, 66, 67, 68, 69, 70, 71, 72, 73, 74, 75] (by decide +kernel) (by decide +kernel)) (goodIn_sub (fun _ h => List.mem_cons_of_mem _ (List.mem_append_right _ h)) (by decide +kernel))
set_option maxRecDepth 20000 in
theorem gX8_ringOf_X8_goes : GoodIn wsX8_ringOf (wsV RX8 154 RX8 yX8_goes wsX8_goes) := goodIn_app (goodIn_of _ (by decide +kernel)) ggX8_ringOf_X8_goes
theorem dX8_ringOf_0 : decode cX8_ringOf 0 = .ok (.aload_n 0, 1) := by decide +kernel
theorem dX8_ringOf_1 : decode cX8_ringOf 1 = .ok (.getfield 170, 3) := by decide +kernel
theorem dX8_ringOf_4 : decode cX8_ringOf 4 = .ok (.aload_n 0, 1) := by decide +kernel
theorem dX8_ringOf_5 : decode cX8_ringOf 5 = .ok (.getfield 176, 3) := by decide +kernel
theorem dX8_ringOf_8 : decode cX8_ringOf 8 = .ok (.lcmp, 1) := by decide +kernel
theorem dX8_ringOf_9 : decode cX8_ringOf 9 = .ok (.ifCond .ne 18, 3) := by decide +kernel
theorem dX8_ringOf_12 : decode cX8_ringOf 12 = .ok (.aload_n 0, 1) := by decide +kernel
theorem dX8_ringOf_13 : decode cX8_ringOf 13 = .ok (.getfield 173, 3) := by decide +kernel
theorem dX8_ringOf_16 : decode cX8_ringOf 16 = .ok (.lconst 0, 1) := by decide +kernel
theorem dX8_ringOf_17 : decode cX8_ringOf 17 = .ok (.lcmp, 1) := by decide +kernel
theorem dX8_ringOf_18 : decode cX8_ringOf 18 = .ok (.ifCond .ne 7, 3) := by decide +kernel
theorem dX8_ringOf_21 : decode cX8_ringOf 21 = .ok (.iconst 2, 1) := by decide +kernel
theorem dX8_ringOf_22 : decode cX8_ringOf 22 = .ok (.goto 4, 3) := by decide +kernel
theorem dX8_ringOf_25 : decode cX8_ringOf 25 = .ok (.iconst 0, 1) := by decide +kernel
theorem dX8_ringOf_26 : decode cX8_ringOf 26 = .ok (.ireturn, 1) := by decide +kernel
theorem dX8_ringOf_27 : decode cX8_ringOf 27 = .ok (.aload_n 0, 1) := by decide +kernel
theorem dX8_ringOf_28 : decode cX8_ringOf 28 = .ok (.getfield 176, 3) := by decide +kernel
theorem dX8_ringOf_31 : decode cX8_ringOf 31 = .ok (.aload_n 0, 1) := by decide +kernel
theorem dX8_ringOf_32 : decode cX8_ringOf 32 = .ok (.getfield 170, 3) := by decide +kernel
theorem dX8_ringOf_35 : decode cX8_ringOf 35 = .ok (.lsub, 1) := by decide +kernel
theorem dX8_ringOf_36 : decode cX8_ringOf 36 = .ok (.lstore_n 3, 1) := by decide +kernel
theorem dX8_ringOf_37 : decode cX8_ringOf 37 = .ok (.aload_n 0, 1) := by decide +kernel
theorem dX8_ringOf_38 : decode cX8_ringOf 38 = .ok (.getfield 173, 3) := by decide +kernel
theorem dX8_ringOf_41 : decode cX8_ringOf 41 = .ok (.lload_n 3, 1) := by decide +kernel
theorem dX8_ringOf_42 : decode cX8_ringOf 42 = .ok (.lrem, 1) := by decide +kernel
theorem dX8_ringOf_43 : decode cX8_ringOf 43 = .ok (.lconst 0, 1) := by decide +kernel
theorem dX8_ringOf_44 : decode cX8_ringOf 44 = .ok (.lcmp, 1) := by decide +kernel
theorem dX8_ringOf_45 : decode cX8_ringOf 45 = .ok (.ifCond .eq 5, 3) := by decide +kernel
theorem dX8_ringOf_48 : decode cX8_ringOf 48 = .ok (.iconst 0, 1) := by decide +kernel
theorem dX8_ringOf_49 : decode cX8_ringOf 49 = .ok (.ireturn, 1) := by decide +kernel
theorem dX8_ringOf_50 : decode cX8_ringOf 50 = .ok (.aload_n 0, 1) := by decide +kernel
theorem dX8_ringOf_51 : decode cX8_ringOf 51 = .ok (.aload_n 0, 1) := by decide +kernel
theorem dX8_ringOf_52 : decode cX8_ringOf 52 = .ok (.getfield 173, 3) := by decide +kernel
theorem dX8_ringOf_55 : decode cX8_ringOf 55 = .ok (.lload_n 3, 1) := by decide +kernel
theorem dX8_ringOf_56 : decode cX8_ringOf 56 = .ok (.ldiv, 1) := by decide +kernel
theorem dX8_ringOf_57 : decode cX8_ringOf 57 = .ok (.putfield 187, 3) := by decide +kernel
theorem dX8_ringOf_60 : decode cX8_ringOf 60 = .ok (.aload_n 0, 1) := by decide +kernel
theorem dX8_ringOf_61 : decode cX8_ringOf 61 = .ok (.aload_n 0, 1) := by decide +kernel
theorem dX8_ringOf_62 : decode cX8_ringOf 62 = .ok (.getfield 187, 3) := by decide +kernel
theorem dX8_ringOf_65 : decode cX8_ringOf 65 = .ok (.putfield 190, 3) := by decide +kernel
theorem dX8_ringOf_68 : decode cX8_ringOf 68 = .ok (.aload_n 0, 1) := by decide +kernel
theorem dX8_ringOf_69 : decode cX8_ringOf 69 = .ok (.iconst 1, 1) := by decide +kernel
theorem dX8_ringOf_70 : decode cX8_ringOf 70 = .ok (.putfield 193, 3) := by decide +kernel
theorem dX8_ringOf_73 : decode cX8_ringOf 73 = .ok (.aload_n 0, 1) := by decide +kernel
theorem dX8_ringOf_74 : decode cX8_ringOf 74 = .ok (.aload_n 0, 1) := by decide +kernel
theorem dX8_ringOf_75 : decode cX8_ringOf 75 = .ok (.getfield 187, 3) := by decide +kernel
theorem dX8_ringOf_78 : decode cX8_ringOf 78 = .ok (.putfield 146, 3) := by decide +kernel
theorem dX8_ringOf_81 : decode cX8_ringOf 81 = .ok (.iconst 0, 1) := by decide +kernel
theorem dX8_ringOf_82 : decode cX8_ringOf 82 = .ok (.istore 5, 2) := by decide +kernel
theorem dX8_ringOf_84 : decode cX8_ringOf 84 = .ok (.iload 5, 2) := by decide +kernel
theorem dX8_ringOf_86 : decode cX8_ringOf 86 = .ok (.iload_n 2, 1) := by decide +kernel
theorem dX8_ringOf_87 : decode cX8_ringOf 87 = .ok (.if_icmp .ge 102, 3) := by decide +kernel
theorem dX8_ringOf_90 : decode cX8_ringOf 90 = .ok (.aload_n 0, 1) := by decide +kernel
theorem dX8_ringOf_91 : decode cX8_ringOf 91 = .ok (.getfield 146, 3) := by decide +kernel
theorem dX8_ringOf_94 : decode cX8_ringOf 94 = .ok (.invokestatic 150, 3) := by decide +kernel
theorem dX8_ringOf_97 : decode cX8_ringOf 97 = .ok (.ifCond .eq 23, 3) := by decide +kernel
theorem dX8_ringOf_100 : decode cX8_ringOf 100 = .ok (.aload_n 0, 1) := by decide +kernel
theorem dX8_ringOf_101 : decode cX8_ringOf 101 = .ok (.getfield 146, 3) := by decide +kernel
theorem dX8_ringOf_104 : decode cX8_ringOf 104 = .ok (.aload_n 0, 1) := by decide +kernel
theorem dX8_ringOf_105 : decode cX8_ringOf 105 = .ok (.getfield 105, 3) := by decide +kernel
theorem dX8_ringOf_108 : decode cX8_ringOf 108 = .ok (.invokestatic 136, 3) := by decide +kernel
theorem dX8_ringOf_111 : decode cX8_ringOf 111 = .ok (.aload_n 1, 1) := by decide +kernel
theorem dX8_ringOf_112 : decode cX8_ringOf 112 = .ok (.iload 5, 2) := by decide +kernel
theorem dX8_ringOf_114 : decode cX8_ringOf 114 = .ok (.iaload, 1) := by decide +kernel
theorem dX8_ringOf_115 : decode cX8_ringOf 115 = .ok (.i2l, 1) := by decide +kernel
theorem dX8_ringOf_116 : decode cX8_ringOf 116 = .ok (.lcmp, 1) := by decide +kernel
theorem dX8_ringOf_117 : decode cX8_ringOf 117 = .ok (.ifCond .eq 5, 3) := by decide +kernel
theorem dX8_ringOf_120 : decode cX8_ringOf 120 = .ok (.iconst 0, 1) := by decide +kernel
theorem dX8_ringOf_121 : decode cX8_ringOf 121 = .ok (.ireturn, 1) := by decide +kernel
theorem dX8_ringOf_122 : decode cX8_ringOf 122 = .ok (.aload_n 0, 1) := by decide +kernel
theorem dX8_ringOf_123 : decode cX8_ringOf 123 = .ok (.aload_n 0, 1) := by decide +kernel
theorem dX8_ringOf_124 : decode cX8_ringOf 124 = .ok (.getfield 193, 3) := by decide +kernel
theorem dX8_ringOf_127 : decode cX8_ringOf 127 = .ok (.ifCond .eq 24, 3) := by decide +kernel
theorem dX8_ringOf_130 : decode cX8_ringOf 130 = .ok (.iload 5, 2) := by decide +kernel
theorem dX8_ringOf_132 : decode cX8_ringOf 132 = .ok (.ifCond .eq 15, 3) := by decide +kernel
theorem dX8_ringOf_135 : decode cX8_ringOf 135 = .ok (.aload_n 0, 1) := by decide +kernel
theorem dX8_ringOf_136 : decode cX8_ringOf 136 = .ok (.getfield 146, 3) := by decide +kernel
theorem dX8_ringOf_139 : decode cX8_ringOf 139 = .ok (.aload_n 0, 1) := by decide +kernel
theorem dX8_ringOf_140 : decode cX8_ringOf 140 = .ok (.getfield 187, 3) := by decide +kernel
theorem dX8_ringOf_143 : decode cX8_ringOf 143 = .ok (.lcmp, 1) := by decide +kernel
theorem dX8_ringOf_144 : decode cX8_ringOf 144 = .ok (.ifCond .eq 7, 3) := by decide +kernel
theorem dX8_ringOf_147 : decode cX8_ringOf 147 = .ok (.iconst 1, 1) := by decide +kernel
theorem dX8_ringOf_148 : decode cX8_ringOf 148 = .ok (.goto 4, 3) := by decide +kernel
theorem dX8_ringOf_151 : decode cX8_ringOf 151 = .ok (.iconst 0, 1) := by decide +kernel
theorem dX8_ringOf_152 : decode cX8_ringOf 152 = .ok (.putfield 193, 3) := by decide +kernel
theorem dX8_ringOf_155 : decode cX8_ringOf 155 = .ok (.aload_n 0, 1) := by decide +kernel
theorem dX8_ringOf_156 : decode cX8_ringOf 156 = .ok (.aload_n 0, 1) := by decide +kernel
theorem dX8_ringOf_157 : decode cX8_ringOf 157 = .ok (.getfield 190, 3) := by decide +kernel
theorem dX8_ringOf_160 : decode cX8_ringOf 160 = .ok (.aload_n 0, 1) := by decide +kernel
theorem dX8_ringOf_161 : decode cX8_ringOf 161 = .ok (.getfield 146, 3) := by decide +kernel
theorem dX8_ringOf_164 : decode cX8_ringOf 164 = .ok (.invokestatic 196, 3) := by decide +kernel
theorem dX8_ringOf_167 : decode cX8_ringOf 167 = .ok (.putfield 190, 3) := by decide +kernel
theorem dX8_ringOf_170 : decode cX8_ringOf 170 = .ok (.aload_n 0, 1) := by decide +kernel
theorem dX8_ringOf_171 : decode cX8_ringOf 171 = .ok (.aload_n 0, 1) := by decide +kernel
theorem dX8_ringOf_172 : decode cX8_ringOf 172 = .ok (.getfield 146, 3) := by decide +kernel
theorem dX8_ringOf_175 : decode cX8_ringOf 175 = .ok (.invokevirtual 154, 3) := by decide +kernel
theorem dX8_ringOf_178 : decode cX8_ringOf 178 = .ok (.ifCond .eq 5, 3) := by decide +kernel
theorem dX8_ringOf_181 : decode cX8_ringOf 181 = .ok (.iconst 0, 1) := by decide +kernel
theorem dX8_ringOf_182 : decode cX8_ringOf 182 = .ok (.ireturn, 1) := by decide +kernel
theorem dX8_ringOf_183 : decode cX8_ringOf 183 = .ok (.iinc 5 1, 3) := by decide +kernel
theorem dX8_ringOf_186 : decode cX8_ringOf 186 = .ok (.goto (-102), 3) := by decide +kernel
theorem dX8_ringOf_189 : decode cX8_ringOf 189 = .ok (.aload_n 0, 1) := by decide +kernel
theorem dX8_ringOf_190 : decode cX8_ringOf 190 = .ok (.getfield 146, 3) := by decide +kernel
theorem dX8_ringOf_193 : decode cX8_ringOf 193 = .ok (.aload_n 0, 1) := by decide +kernel
theorem dX8_ringOf_194 : decode cX8_ringOf 194 = .ok (.getfield 187, 3) := by decide +kernel
theorem dX8_ringOf_197 : decode cX8_ringOf 197 = .ok (.lcmp, 1) := by decide +kernel
theorem dX8_ringOf_198 : decode cX8_ringOf 198 = .ok (.ifCond .ne 7, 3) := by decide +kernel
theorem dX8_ringOf_201 : decode cX8_ringOf 201 = .ok (.iconst 1, 1) := by decide +kernel
theorem dX8_ringOf_202 : decode cX8_ringOf 202 = .ok (.goto 4, 3) := by decide +kernel
theorem dX8_ringOf_205 : decode cX8_ringOf 205 = .ok (.iconst 0, 1) := by decide +kernel
theorem dX8_ringOf_206 : decode cX8_ringOf 206 = .ok (.ireturn, 1) := by decide +kernel
set_option maxRecDepth 20000 in
theorem ggX8_ring_X8_isWord : GoodIn wsX8_ring wsX8_isWord := goodIn_r _ [10, 11, 3, 2, 12, 71, 72, 73, 74, 75, 76, 77, 78, 79, 80, 81, 82, 83, 84, 85, 86, 87, 88, 89, 90, 91, 92, 93, 94, 95, 96, 97, 98, 99, 100, 101, 102, 103] (by decide +kernel) (by decide +kernel)
set_option maxRecDepth 20000 in
theorem gX8_ring_X8_isWord : GoodIn wsX8_ring (wsV RX8 179 RX8 yX8_isWord wsX8_isWord) := goodIn_app (goodIn_of _ (by decide +kernel)) ggX8_ring_X8_isWord
set_option maxRecDepth 20000 in
theorem ggX8_ring_X8_shaped : GoodIn wsX8_ring wsX8_shaped := goodIn_ca (goodIn_r _ [16, 17, 18, 19, 20, 21, 22, 9, 23, 24, 25, 26, 27, 28, 29, 30, 31, 71, 72, 73, 74, 75, 76, 77, 78, 79, 80, 81, 82, 83, 84, 85, 86, 87, 88, 89, 90, 91, 92, 93, 94, 95, 96, 97, 98, 99, 100, 101, 102, 103] (by decide +kernel) (by decide +kernel)) (goodIn_sub (fun _ h => List.mem_cons_of_mem _ (List.mem_append_right _ h)) (by decide +kernel))
set_option maxRecDepth 20000 in
theorem gX8_ring_X8_shaped : GoodIn wsX8_ring (wsV RX8 183 RX8 yX8_shaped wsX8_shaped) := goodIn_app (goodIn_of _ (by decide +kernel)) ggX8_ring_X8_shaped
set_option maxRecDepth 20000 in
theorem ggX8_ring_X8_ringOf : GoodIn wsX8_ring wsX8_ringOf := goodIn_ca (goodIn_r _ [35, 17, 19, 18, 5, 36, 37, 38, 12, 39, 40, 41, 42, 24, 25, 9, 26, 27, 28, 29, 30, 31, 43, 44, 45, 46, 47, 48, 49, 50, 51, 52, 53, 11, 54, 55, 56, 20, 57, 58, 59, 60, 61, 71, 72, 73, 74, 75, 76, 77, 78, 79, 80, 81, 82, 83, 84, 85, 86, 87, 88, 89, 90, 91, 92, 93, 94, 95, 96, 97, 98, 99, 100, 101, 102, 103] (by decide +kernel) (by decide +kernel)) (goodIn_sub (fun _ h => List.mem_cons_of_mem _ (List.mem_append_right _ h)) (by decide +kernel))
set_option maxRecDepth 20000 in
theorem gX8_ring_X8_ringOf : GoodIn wsX8_ring (wsV RX8 198 RX8 yX8_ringOf wsX8_ringOf) := goodIn_app (goodIn_of _ (by decide +kernel)) ggX8_ring_X8_ringOf
set_option maxRecDepth 20000 in
theorem ggX8_ring_X8_tells : GoodIn wsX8_ring wsX8_tells := goodIn_r _ [65, 66, 67, 41, 68, 69, 70, 4, 71, 72, 73, 74, 75, 76, 77, 78, 79, 80, 81, 82, 83, 84, 85, 86, 87, 88, 89, 90, 91, 92, 93, 94, 95, 96, 97, 98, 99, 100, 101, 102, 103] (by decide +kernel) (by decide +kernel)
set_option maxRecDepth 20000 in
theorem gX8_ring_X8_tells : GoodIn wsX8_ring (wsV RX8 164 RX8 yX8_tells wsX8_tells) := goodIn_app (goodIn_of _ (by decide +kernel)) ggX8_ring_X8_tells
theorem dX8_ring_0 : decode cX8_ring 0 = .ok (.aload_n 0, 1) := by decide +kernel
theorem dX8_ring_1 : decode cX8_ring 1 = .ok (.iconst 0, 1) := by decide +kernel
theorem dX8_ring_2 : decode cX8_ring 2 = .ok (.putfield 61, 3) := by decide +kernel
theorem dX8_ring_5 : decode cX8_ring 5 = .ok (.aload_n 0, 1) := by decide +kernel
theorem dX8_ring_6 : decode cX8_ring 6 = .ok (.invokevirtual 179, 3) := by decide +kernel
theorem dX8_ring_9 : decode cX8_ring 9 = .ok (.ifCond .ne 5, 3) := by decide +kernel
theorem dX8_ring_12 : decode cX8_ring 12 = .ok (.iconst (-1), 1) := by decide +kernel
theorem dX8_ring_13 : decode cX8_ring 13 = .ok (.ireturn, 1) := by decide +kernel
theorem dX8_ring_14 : decode cX8_ring 14 = .ok (.aload_n 0, 1) := by decide +kernel
theorem dX8_ring_15 : decode cX8_ring 15 = .ok (.aload_n 0, 1) := by decide +kernel
theorem dX8_ring_16 : decode cX8_ring 16 = .ok (.getfield 35, 3) := by decide +kernel
theorem dX8_ring_19 : decode cX8_ring 19 = .ok (.aload_n 0, 1) := by decide +kernel
theorem dX8_ring_20 : decode cX8_ring 20 = .ok (.getfield 127, 3) := by decide +kernel
theorem dX8_ring_23 : decode cX8_ring 23 = .ok (.invokevirtual 183, 3) := by decide +kernel
theorem dX8_ring_26 : decode cX8_ring 26 = .ok (.ifCond .ne 6, 3) := by decide +kernel
theorem dX8_ring_29 : decode cX8_ring 29 = .ok (.bipush (-2), 2) := by decide +kernel
theorem dX8_ring_31 : decode cX8_ring 31 = .ok (.ireturn, 1) := by decide +kernel
theorem dX8_ring_32 : decode cX8_ring 32 = .ok (.aload_n 0, 1) := by decide +kernel
theorem dX8_ring_33 : decode cX8_ring 33 = .ok (.aload_n 0, 1) := by decide +kernel
theorem dX8_ring_34 : decode cX8_ring 34 = .ok (.getfield 35, 3) := by decide +kernel
theorem dX8_ring_37 : decode cX8_ring 37 = .ok (.aload_n 0, 1) := by decide +kernel
theorem dX8_ring_38 : decode cX8_ring 38 = .ok (.getfield 127, 3) := by decide +kernel
theorem dX8_ring_41 : decode cX8_ring 41 = .ok (.invokevirtual 198, 3) := by decide +kernel
theorem dX8_ring_44 : decode cX8_ring 44 = .ok (.istore_n 1, 1) := by decide +kernel
theorem dX8_ring_45 : decode cX8_ring 45 = .ok (.iload_n 1, 1) := by decide +kernel
theorem dX8_ring_46 : decode cX8_ring 46 = .ok (.iconst 1, 1) := by decide +kernel
theorem dX8_ring_47 : decode cX8_ring 47 = .ok (.if_icmp .ne 18, 3) := by decide +kernel
theorem dX8_ring_50 : decode cX8_ring 50 = .ok (.aload_n 0, 1) := by decide +kernel
theorem dX8_ring_51 : decode cX8_ring 51 = .ok (.getfield 32, 3) := by decide +kernel
theorem dX8_ring_54 : decode cX8_ring 54 = .ok (.iconst 0, 1) := by decide +kernel
theorem dX8_ring_55 : decode cX8_ring 55 = .ok (.aload_n 0, 1) := by decide +kernel
theorem dX8_ring_56 : decode cX8_ring 56 = .ok (.getfield 187, 3) := by decide +kernel
theorem dX8_ring_59 : decode cX8_ring 59 = .ok (.lastore, 1) := by decide +kernel
theorem dX8_ring_60 : decode cX8_ring 60 = .ok (.aload_n 0, 1) := by decide +kernel
theorem dX8_ring_61 : decode cX8_ring 61 = .ok (.iconst 1, 1) := by decide +kernel
theorem dX8_ring_62 : decode cX8_ring 62 = .ok (.invokevirtual 164, 3) := by decide +kernel
theorem dX8_ring_65 : decode cX8_ring 65 = .ok (.iload_n 1, 1) := by decide +kernel
theorem dX8_ring_66 : decode cX8_ring 66 = .ok (.ireturn, 1) := by decide +kernel
theorem dX8_power_0 : decode cX8_power 0 = .ok (.iconst 1, 1) := by decide +kernel
theorem dX8_power_1 : decode cX8_power 1 = .ok (.istore_n 2, 1) := by decide +kernel
theorem dX8_power_2 : decode cX8_power 2 = .ok (.iconst 0, 1) := by decide +kernel
theorem dX8_power_3 : decode cX8_power 3 = .ok (.istore_n 3, 1) := by decide +kernel
theorem dX8_power_4 : decode cX8_power 4 = .ok (.iload_n 3, 1) := by decide +kernel
theorem dX8_power_5 : decode cX8_power 5 = .ok (.iload_n 1, 1) := by decide +kernel
theorem dX8_power_6 : decode cX8_power 6 = .ok (.if_icmp .ge 23, 3) := by decide +kernel
theorem dX8_power_9 : decode cX8_power 9 = .ok (.iload_n 2, 1) := by decide +kernel
theorem dX8_power_10 : decode cX8_power 10 = .ok (.sipush 20000, 3) := by decide +kernel
theorem dX8_power_13 : decode cX8_power 13 = .ok (.if_icmp .gt 16, 3) := by decide +kernel
theorem dX8_power_16 : decode cX8_power 16 = .ok (.iload_n 2, 1) := by decide +kernel
theorem dX8_power_17 : decode cX8_power 17 = .ok (.aload_n 0, 1) := by decide +kernel
theorem dX8_power_18 : decode cX8_power 18 = .ok (.getfield 105, 3) := by decide +kernel
theorem dX8_power_21 : decode cX8_power 21 = .ok (.imul, 1) := by decide +kernel
theorem dX8_power_22 : decode cX8_power 22 = .ok (.istore_n 2, 1) := by decide +kernel
theorem dX8_power_23 : decode cX8_power 23 = .ok (.iinc 3 1, 3) := by decide +kernel
theorem dX8_power_26 : decode cX8_power 26 = .ok (.goto (-22), 3) := by decide +kernel
theorem dX8_power_29 : decode cX8_power 29 = .ok (.iload_n 2, 1) := by decide +kernel
theorem dX8_power_30 : decode cX8_power 30 = .ok (.sipush 20001, 3) := by decide +kernel
theorem dX8_power_33 : decode cX8_power 33 = .ok (.invokestatic 88, 3) := by decide +kernel
theorem dX8_power_36 : decode cX8_power 36 = .ok (.ireturn, 1) := by decide +kernel
theorem dX8_ascend_0 : decode cX8_ascend 0 = .ok (.iconst 1, 1) := by decide +kernel
theorem dX8_ascend_1 : decode cX8_ascend 1 = .ok (.istore_n 2, 1) := by decide +kernel
theorem dX8_ascend_2 : decode cX8_ascend 2 = .ok (.iload_n 2, 1) := by decide +kernel
theorem dX8_ascend_3 : decode cX8_ascend 3 = .ok (.iload_n 1, 1) := by decide +kernel
theorem dX8_ascend_4 : decode cX8_ascend 4 = .ok (.if_icmp .ge 68, 3) := by decide +kernel
theorem dX8_ascend_7 : decode cX8_ascend 7 = .ok (.aload_n 0, 1) := by decide +kernel
theorem dX8_ascend_8 : decode cX8_ascend 8 = .ok (.getfield 32, 3) := by decide +kernel
theorem dX8_ascend_11 : decode cX8_ascend 11 = .ok (.iload_n 2, 1) := by decide +kernel
theorem dX8_ascend_12 : decode cX8_ascend 12 = .ok (.laload, 1) := by decide +kernel
theorem dX8_ascend_13 : decode cX8_ascend 13 = .ok (.lstore_n 3, 1) := by decide +kernel
theorem dX8_ascend_14 : decode cX8_ascend 14 = .ok (.iload_n 2, 1) := by decide +kernel
theorem dX8_ascend_15 : decode cX8_ascend 15 = .ok (.istore 5, 2) := by decide +kernel
theorem dX8_ascend_17 : decode cX8_ascend 17 = .ok (.iload 5, 2) := by decide +kernel
theorem dX8_ascend_19 : decode cX8_ascend 19 = .ok (.ifCond .le 39, 3) := by decide +kernel
theorem dX8_ascend_22 : decode cX8_ascend 22 = .ok (.aload_n 0, 1) := by decide +kernel
theorem dX8_ascend_23 : decode cX8_ascend 23 = .ok (.getfield 32, 3) := by decide +kernel
theorem dX8_ascend_26 : decode cX8_ascend 26 = .ok (.iload 5, 2) := by decide +kernel
theorem dX8_ascend_28 : decode cX8_ascend 28 = .ok (.iconst 1, 1) := by decide +kernel
theorem dX8_ascend_29 : decode cX8_ascend 29 = .ok (.isub, 1) := by decide +kernel
theorem dX8_ascend_30 : decode cX8_ascend 30 = .ok (.laload, 1) := by decide +kernel
theorem dX8_ascend_31 : decode cX8_ascend 31 = .ok (.lload_n 3, 1) := by decide +kernel
theorem dX8_ascend_32 : decode cX8_ascend 32 = .ok (.lcmp, 1) := by decide +kernel
theorem dX8_ascend_33 : decode cX8_ascend 33 = .ok (.ifCond .le 25, 3) := by decide +kernel
theorem dX8_ascend_36 : decode cX8_ascend 36 = .ok (.aload_n 0, 1) := by decide +kernel
theorem dX8_ascend_37 : decode cX8_ascend 37 = .ok (.getfield 32, 3) := by decide +kernel
theorem dX8_ascend_40 : decode cX8_ascend 40 = .ok (.iload 5, 2) := by decide +kernel
theorem dX8_ascend_42 : decode cX8_ascend 42 = .ok (.aload_n 0, 1) := by decide +kernel
theorem dX8_ascend_43 : decode cX8_ascend 43 = .ok (.getfield 32, 3) := by decide +kernel
theorem dX8_ascend_46 : decode cX8_ascend 46 = .ok (.iload 5, 2) := by decide +kernel
theorem dX8_ascend_48 : decode cX8_ascend 48 = .ok (.iconst 1, 1) := by decide +kernel
theorem dX8_ascend_49 : decode cX8_ascend 49 = .ok (.isub, 1) := by decide +kernel
theorem dX8_ascend_50 : decode cX8_ascend 50 = .ok (.laload, 1) := by decide +kernel
theorem dX8_ascend_51 : decode cX8_ascend 51 = .ok (.lastore, 1) := by decide +kernel
theorem dX8_ascend_52 : decode cX8_ascend 52 = .ok (.iinc 5 (-1), 3) := by decide +kernel
theorem dX8_ascend_55 : decode cX8_ascend 55 = .ok (.goto (-38), 3) := by decide +kernel
theorem dX8_ascend_58 : decode cX8_ascend 58 = .ok (.aload_n 0, 1) := by decide +kernel
theorem dX8_ascend_59 : decode cX8_ascend 59 = .ok (.getfield 32, 3) := by decide +kernel
theorem dX8_ascend_62 : decode cX8_ascend 62 = .ok (.iload 5, 2) := by decide +kernel
theorem dX8_ascend_64 : decode cX8_ascend 64 = .ok (.lload_n 3, 1) := by decide +kernel
theorem dX8_ascend_65 : decode cX8_ascend 65 = .ok (.lastore, 1) := by decide +kernel
theorem dX8_ascend_66 : decode cX8_ascend 66 = .ok (.iinc 2 1, 3) := by decide +kernel
theorem dX8_ascend_69 : decode cX8_ascend 69 = .ok (.goto (-67), 3) := by decide +kernel
theorem dX8_ascend_72 : decode cX8_ascend 72 = .ok (.return_, 1) := by decide +kernel
set_option maxRecDepth 20000 in
theorem ggX8_rings_X8_in : GoodIn wsX8_rings wsX8_in := goodIn_r _ [13] (by decide +kernel) (by decide +kernel)
set_option maxRecDepth 20000 in
theorem gX8_rings_X8_in : GoodIn wsX8_rings (va_wsS RX8 68 yX8_in wsX8_in) := goodIn_app (goodIn_of _ (by decide +kernel)) ggX8_rings_X8_in
set_option maxRecDepth 20000 in
theorem ggX8_rings_X8_power : GoodIn wsX8_rings wsX8_power := goodIn_r _ [17, 5, 18, 19, 20, 21, 75, 76, 77, 78, 79, 80, 81, 82, 83, 84, 85, 86, 87, 88, 89, 90, 91, 92, 93, 94, 95, 96, 97, 98, 99, 100, 101, 102, 103, 104, 105, 106, 107] (by decide +kernel) (by decide +kernel)
set_option maxRecDepth 20000 in
theorem gX8_rings_X8_power : GoodIn wsX8_rings (wsV RX8 204 RX8 yX8_power wsX8_power) := goodIn_app (goodIn_of _ (by decide +kernel)) ggX8_rings_X8_power
set_option maxRecDepth 20000 in
theorem ggX8_rings_X8_shaped : GoodIn wsX8_rings wsX8_shaped := goodIn_ca (goodIn_r _ [25, 26, 27, 28, 29, 30, 31, 12, 32, 33, 34, 35, 36, 37, 10, 11, 13, 75, 76, 77, 78, 79, 80, 81, 82, 83, 84, 85, 86, 87, 88, 89, 90, 91, 92, 93, 94, 95, 96, 97, 98, 99, 100, 101, 102, 103, 104, 105, 106, 107] (by decide +kernel) (by decide +kernel)) (goodIn_sub (fun _ h => List.mem_cons_of_mem _ (List.mem_append_right _ h)) (by decide +kernel))
set_option maxRecDepth 20000 in
theorem gX8_rings_X8_shaped : GoodIn wsX8_rings (wsV RX8 183 RX8 yX8_shaped wsX8_shaped) := goodIn_app (goodIn_of _ (by decide +kernel)) ggX8_rings_X8_shaped
set_option maxRecDepth 20000 in
theorem ggX8_rings_X8_ringOf : GoodIn wsX8_rings wsX8_ringOf := goodIn_ca (goodIn_r _ [41, 26, 28, 27, 8, 7, 6, 42, 5, 43, 44, 20, 45, 33, 34, 12, 35, 36, 37, 10, 11, 13, 46, 47, 48, 49, 50, 51, 52, 53, 54, 55, 56, 2, 57, 58, 59, 29, 60, 61, 62, 63, 64, 75, 76, 77, 78, 79, 80, 81, 82, 83, 84, 85, 86, 87, 88, 89, 90, 91, 92, 93, 94, 95, 96, 97, 98, 99, 100, 101, 102, 103, 104, 105, 106, 107] (by decide +kernel) (by decide +kernel)) (goodIn_sub (fun _ h => List.mem_cons_of_mem _ (List.mem_append_right _ h)) (by decide +kernel))
set_option maxRecDepth 20000 in
theorem gX8_rings_X8_ringOf : GoodIn wsX8_rings (wsV RX8 198 RX8 yX8_ringOf wsX8_ringOf) := goodIn_app (goodIn_of _ (by decide +kernel)) ggX8_rings_X8_ringOf
set_option maxRecDepth 20000 in
theorem ggX8_rings_X8_ascend : GoodIn wsX8_rings wsX8_ascend := goodIn_r _ [68, 9, 75, 76, 77, 78, 79, 80, 81, 82, 83, 84, 85, 86, 87, 88, 89, 90, 91, 92, 93, 94, 95, 96, 97, 98, 99, 100, 101, 102, 103, 104, 105, 106, 107] (by decide +kernel) (by decide +kernel)
set_option maxRecDepth 20000 in
theorem gX8_rings_X8_ascend : GoodIn wsX8_rings (wsV RX8 208 RX8 yX8_ascend wsX8_ascend) := goodIn_app (goodIn_of _ (by decide +kernel)) ggX8_rings_X8_ascend
set_option maxRecDepth 20000 in
theorem ggX8_rings_X8_tells : GoodIn wsX8_rings wsX8_tells := goodIn_r _ [72, 18, 19, 20, 21, 73, 74, 9, 75, 76, 77, 78, 79, 80, 81, 82, 83, 84, 85, 86, 87, 88, 89, 90, 91, 92, 93, 94, 95, 96, 97, 98, 99, 100, 101, 102, 103, 104, 105, 106, 107] (by decide +kernel) (by decide +kernel)
set_option maxRecDepth 20000 in
theorem gX8_rings_X8_tells : GoodIn wsX8_rings (wsV RX8 164 RX8 yX8_tells wsX8_tells) := goodIn_app (goodIn_of _ (by decide +kernel)) ggX8_rings_X8_tells
theorem dX8_rings_0 : decode cX8_rings 0 = .ok (.aload_n 0, 1) := by decide +kernel
theorem dX8_rings_1 : decode cX8_rings 1 = .ok (.iconst 0, 1) := by decide +kernel
theorem dX8_rings_2 : decode cX8_rings 2 = .ok (.putfield 61, 3) := by decide +kernel
theorem dX8_rings_5 : decode cX8_rings 5 = .ok (.aload_n 0, 1) := by decide +kernel
theorem dX8_rings_6 : decode cX8_rings 6 = .ok (.getfield 108, 3) := by decide +kernel
theorem dX8_rings_9 : decode cX8_rings 9 = .ok (.iconst 1, 1) := by decide +kernel
theorem dX8_rings_10 : decode cX8_rings 10 = .ok (.if_icmp .ne 15, 3) := by decide +kernel
theorem dX8_rings_13 : decode cX8_rings 13 = .ok (.iload_n 1, 1) := by decide +kernel
theorem dX8_rings_14 : decode cX8_rings 14 = .ok (.i2l, 1) := by decide +kernel
theorem dX8_rings_15 : decode cX8_rings 15 = .ok (.lconst 1, 1) := by decide +kernel
theorem dX8_rings_16 : decode cX8_rings 16 = .ok (.ldc2_w 202, 3) := by decide +kernel
theorem dX8_rings_19 : decode cX8_rings 19 = .ok (.invokestatic 68, 3) := by decide +kernel
theorem dX8_rings_22 : decode cX8_rings 22 = .ok (.ifCond .ne 5, 3) := by decide +kernel
theorem dX8_rings_25 : decode cX8_rings 25 = .ok (.iconst (-1), 1) := by decide +kernel
theorem dX8_rings_26 : decode cX8_rings 26 = .ok (.ireturn, 1) := by decide +kernel
theorem dX8_rings_27 : decode cX8_rings 27 = .ok (.aload_n 0, 1) := by decide +kernel
theorem dX8_rings_28 : decode cX8_rings 28 = .ok (.iload_n 1, 1) := by decide +kernel
theorem dX8_rings_29 : decode cX8_rings 29 = .ok (.invokevirtual 204, 3) := by decide +kernel
theorem dX8_rings_32 : decode cX8_rings 32 = .ok (.istore_n 2, 1) := by decide +kernel
theorem dX8_rings_33 : decode cX8_rings 33 = .ok (.iload_n 2, 1) := by decide +kernel
theorem dX8_rings_34 : decode cX8_rings 34 = .ok (.sipush 20000, 3) := by decide +kernel
theorem dX8_rings_37 : decode cX8_rings 37 = .ok (.if_icmp .le 6, 3) := by decide +kernel
theorem dX8_rings_40 : decode cX8_rings 40 = .ok (.bipush (-2), 2) := by decide +kernel
theorem dX8_rings_42 : decode cX8_rings 42 = .ok (.ireturn, 1) := by decide +kernel
theorem dX8_rings_43 : decode cX8_rings 43 = .ok (.iconst 0, 1) := by decide +kernel
theorem dX8_rings_44 : decode cX8_rings 44 = .ok (.istore_n 3, 1) := by decide +kernel
theorem dX8_rings_45 : decode cX8_rings 45 = .ok (.iconst 0, 1) := by decide +kernel
theorem dX8_rings_46 : decode cX8_rings 46 = .ok (.istore 4, 2) := by decide +kernel
theorem dX8_rings_48 : decode cX8_rings 48 = .ok (.iload 4, 2) := by decide +kernel
theorem dX8_rings_50 : decode cX8_rings 50 = .ok (.iload_n 2, 1) := by decide +kernel
theorem dX8_rings_51 : decode cX8_rings 51 = .ok (.if_icmp .ge 111, 3) := by decide +kernel
theorem dX8_rings_54 : decode cX8_rings 54 = .ok (.iload 4, 2) := by decide +kernel
theorem dX8_rings_56 : decode cX8_rings 56 = .ok (.istore 5, 2) := by decide +kernel
theorem dX8_rings_58 : decode cX8_rings 58 = .ok (.iconst 0, 1) := by decide +kernel
theorem dX8_rings_59 : decode cX8_rings 59 = .ok (.istore 6, 2) := by decide +kernel
theorem dX8_rings_61 : decode cX8_rings 61 = .ok (.iload 6, 2) := by decide +kernel
theorem dX8_rings_63 : decode cX8_rings 63 = .ok (.iload_n 1, 1) := by decide +kernel
theorem dX8_rings_64 : decode cX8_rings 64 = .ok (.if_icmp .ge 32, 3) := by decide +kernel
theorem dX8_rings_67 : decode cX8_rings 67 = .ok (.aload_n 0, 1) := by decide +kernel
theorem dX8_rings_68 : decode cX8_rings 68 = .ok (.getfield 39, 3) := by decide +kernel
theorem dX8_rings_71 : decode cX8_rings 71 = .ok (.iload 6, 2) := by decide +kernel
theorem dX8_rings_73 : decode cX8_rings 73 = .ok (.iload 5, 2) := by decide +kernel
theorem dX8_rings_75 : decode cX8_rings 75 = .ok (.aload_n 0, 1) := by decide +kernel
theorem dX8_rings_76 : decode cX8_rings 76 = .ok (.getfield 105, 3) := by decide +kernel
theorem dX8_rings_79 : decode cX8_rings 79 = .ok (.irem, 1) := by decide +kernel
theorem dX8_rings_80 : decode cX8_rings 80 = .ok (.iastore, 1) := by decide +kernel
theorem dX8_rings_81 : decode cX8_rings 81 = .ok (.iload 5, 2) := by decide +kernel
theorem dX8_rings_83 : decode cX8_rings 83 = .ok (.aload_n 0, 1) := by decide +kernel
theorem dX8_rings_84 : decode cX8_rings 84 = .ok (.getfield 105, 3) := by decide +kernel
theorem dX8_rings_87 : decode cX8_rings 87 = .ok (.idiv, 1) := by decide +kernel
theorem dX8_rings_88 : decode cX8_rings 88 = .ok (.istore 5, 2) := by decide +kernel
theorem dX8_rings_90 : decode cX8_rings 90 = .ok (.iinc 6 1, 3) := by decide +kernel
theorem dX8_rings_93 : decode cX8_rings 93 = .ok (.goto (-32), 3) := by decide +kernel
theorem dX8_rings_96 : decode cX8_rings 96 = .ok (.aload_n 0, 1) := by decide +kernel
theorem dX8_rings_97 : decode cX8_rings 97 = .ok (.aload_n 0, 1) := by decide +kernel
theorem dX8_rings_98 : decode cX8_rings 98 = .ok (.getfield 39, 3) := by decide +kernel
theorem dX8_rings_101 : decode cX8_rings 101 = .ok (.iload_n 1, 1) := by decide +kernel
theorem dX8_rings_102 : decode cX8_rings 102 = .ok (.invokevirtual 183, 3) := by decide +kernel
theorem dX8_rings_105 : decode cX8_rings 105 = .ok (.ifCond .ne 6, 3) := by decide +kernel
theorem dX8_rings_108 : decode cX8_rings 108 = .ok (.bipush (-2), 2) := by decide +kernel
theorem dX8_rings_110 : decode cX8_rings 110 = .ok (.ireturn, 1) := by decide +kernel
theorem dX8_rings_111 : decode cX8_rings 111 = .ok (.aload_n 0, 1) := by decide +kernel
theorem dX8_rings_112 : decode cX8_rings 112 = .ok (.aload_n 0, 1) := by decide +kernel
theorem dX8_rings_113 : decode cX8_rings 113 = .ok (.getfield 39, 3) := by decide +kernel
theorem dX8_rings_116 : decode cX8_rings 116 = .ok (.iload_n 1, 1) := by decide +kernel
theorem dX8_rings_117 : decode cX8_rings 117 = .ok (.invokevirtual 198, 3) := by decide +kernel
theorem dX8_rings_120 : decode cX8_rings 120 = .ok (.iconst 1, 1) := by decide +kernel
theorem dX8_rings_121 : decode cX8_rings 121 = .ok (.if_icmp .ne 35, 3) := by decide +kernel
theorem dX8_rings_124 : decode cX8_rings 124 = .ok (.aload_n 0, 1) := by decide +kernel
theorem dX8_rings_125 : decode cX8_rings 125 = .ok (.getfield 193, 3) := by decide +kernel
theorem dX8_rings_128 : decode cX8_rings 128 = .ok (.ifCond .eq 28, 3) := by decide +kernel
theorem dX8_rings_131 : decode cX8_rings 131 = .ok (.aload_n 0, 1) := by decide +kernel
theorem dX8_rings_132 : decode cX8_rings 132 = .ok (.getfield 190, 3) := by decide +kernel
theorem dX8_rings_135 : decode cX8_rings 135 = .ok (.aload_n 0, 1) := by decide +kernel
theorem dX8_rings_136 : decode cX8_rings 136 = .ok (.getfield 187, 3) := by decide +kernel
theorem dX8_rings_139 : decode cX8_rings 139 = .ok (.lcmp, 1) := by decide +kernel
theorem dX8_rings_140 : decode cX8_rings 140 = .ok (.ifCond .ne 16, 3) := by decide +kernel
theorem dX8_rings_143 : decode cX8_rings 143 = .ok (.aload_n 0, 1) := by decide +kernel
theorem dX8_rings_144 : decode cX8_rings 144 = .ok (.getfield 32, 3) := by decide +kernel
theorem dX8_rings_147 : decode cX8_rings 147 = .ok (.iload_n 3, 1) := by decide +kernel
theorem dX8_rings_148 : decode cX8_rings 148 = .ok (.aload_n 0, 1) := by decide +kernel
theorem dX8_rings_149 : decode cX8_rings 149 = .ok (.getfield 187, 3) := by decide +kernel
theorem dX8_rings_152 : decode cX8_rings 152 = .ok (.lastore, 1) := by decide +kernel
theorem dX8_rings_153 : decode cX8_rings 153 = .ok (.iinc 3 1, 3) := by decide +kernel
theorem dX8_rings_156 : decode cX8_rings 156 = .ok (.iinc 4 1, 3) := by decide +kernel
theorem dX8_rings_159 : decode cX8_rings 159 = .ok (.goto (-111), 3) := by decide +kernel
theorem dX8_rings_162 : decode cX8_rings 162 = .ok (.aload_n 0, 1) := by decide +kernel
theorem dX8_rings_163 : decode cX8_rings 163 = .ok (.iload_n 3, 1) := by decide +kernel
theorem dX8_rings_164 : decode cX8_rings 164 = .ok (.invokevirtual 208, 3) := by decide +kernel
theorem dX8_rings_167 : decode cX8_rings 167 = .ok (.aload_n 0, 1) := by decide +kernel
theorem dX8_rings_168 : decode cX8_rings 168 = .ok (.iload_n 3, 1) := by decide +kernel
theorem dX8_rings_169 : decode cX8_rings 169 = .ok (.invokevirtual 164, 3) := by decide +kernel
theorem dX8_rings_172 : decode cX8_rings 172 = .ok (.iload_n 3, 1) := by decide +kernel
theorem dX8_rings_173 : decode cX8_rings 173 = .ok (.ireturn, 1) := by decide +kernel
theorem dX8_set_0 : decode cX8_set 0 = .ok (.lload_n 1, 1) := by decide +kernel
theorem dX8_set_1 : decode cX8_set 1 = .ok (.lconst 0, 1) := by decide +kernel
theorem dX8_set_2 : decode cX8_set 2 = .ok (.lcmp, 1) := by decide +kernel
theorem dX8_set_3 : decode cX8_set 3 = .ok (.ifCond .ge 8, 3) := by decide +kernel
theorem dX8_set_6 : decode cX8_set 6 = .ok (.lload_n 1, 1) := by decide +kernel
theorem dX8_set_7 : decode cX8_set 7 = .ok (.lneg, 1) := by decide +kernel
theorem dX8_set_8 : decode cX8_set 8 = .ok (.goto 4, 3) := by decide +kernel
theorem dX8_set_11 : decode cX8_set 11 = .ok (.lload_n 1, 1) := by decide +kernel
theorem dX8_set_12 : decode cX8_set 12 = .ok (.lstore_n 3, 1) := by decide +kernel
theorem dX8_set_13 : decode cX8_set 13 = .ok (.iconst 0, 1) := by decide +kernel
theorem dX8_set_14 : decode cX8_set 14 = .ok (.istore 5, 2) := by decide +kernel
theorem dX8_set_16 : decode cX8_set 16 = .ok (.iload 5, 2) := by decide +kernel
theorem dX8_set_18 : decode cX8_set 18 = .ok (.bipush 26, 2) := by decide +kernel
theorem dX8_set_20 : decode cX8_set 20 = .ok (.if_icmp .ge 24, 3) := by decide +kernel
theorem dX8_set_23 : decode cX8_set 23 = .ok (.aload_n 0, 1) := by decide +kernel
theorem dX8_set_24 : decode cX8_set 24 = .ok (.iload 5, 2) := by decide +kernel
theorem dX8_set_26 : decode cX8_set 26 = .ok (.lload_n 3, 1) := by decide +kernel
theorem dX8_set_27 : decode cX8_set 27 = .ok (.ldc2_w 118, 3) := by decide +kernel
theorem dX8_set_30 : decode cX8_set 30 = .ok (.lrem, 1) := by decide +kernel
theorem dX8_set_31 : decode cX8_set 31 = .ok (.lastore, 1) := by decide +kernel
theorem dX8_set_32 : decode cX8_set 32 = .ok (.lload_n 3, 1) := by decide +kernel
theorem dX8_set_33 : decode cX8_set 33 = .ok (.ldc2_w 118, 3) := by decide +kernel
theorem dX8_set_36 : decode cX8_set 36 = .ok (.ldiv, 1) := by decide +kernel
theorem dX8_set_37 : decode cX8_set 37 = .ok (.lstore_n 3, 1) := by decide +kernel
theorem dX8_set_38 : decode cX8_set 38 = .ok (.iinc 5 1, 3) := by decide +kernel
theorem dX8_set_41 : decode cX8_set 41 = .ok (.goto (-25), 3) := by decide +kernel
theorem dX8_set_44 : decode cX8_set 44 = .ok (.return_, 1) := by decide +kernel
theorem dX8_times_0 : decode cX8_times 0 = .ok (.lconst 0, 1) := by decide +kernel
theorem dX8_times_1 : decode cX8_times 1 = .ok (.lstore_n 3, 1) := by decide +kernel
theorem dX8_times_2 : decode cX8_times 2 = .ok (.iconst 0, 1) := by decide +kernel
theorem dX8_times_3 : decode cX8_times 3 = .ok (.istore 5, 2) := by decide +kernel
theorem dX8_times_5 : decode cX8_times 5 = .ok (.iload 5, 2) := by decide +kernel
theorem dX8_times_7 : decode cX8_times 7 = .ok (.bipush 26, 2) := by decide +kernel
theorem dX8_times_9 : decode cX8_times 9 = .ok (.if_icmp .ge 36, 3) := by decide +kernel
theorem dX8_times_12 : decode cX8_times 12 = .ok (.aload_n 0, 1) := by decide +kernel
theorem dX8_times_13 : decode cX8_times 13 = .ok (.iload 5, 2) := by decide +kernel
theorem dX8_times_15 : decode cX8_times 15 = .ok (.laload, 1) := by decide +kernel
theorem dX8_times_16 : decode cX8_times 16 = .ok (.lload_n 1, 1) := by decide +kernel
theorem dX8_times_17 : decode cX8_times 17 = .ok (.lmul, 1) := by decide +kernel
theorem dX8_times_18 : decode cX8_times 18 = .ok (.lload_n 3, 1) := by decide +kernel
theorem dX8_times_19 : decode cX8_times 19 = .ok (.ladd, 1) := by decide +kernel
theorem dX8_times_20 : decode cX8_times 20 = .ok (.lstore 6, 2) := by decide +kernel
theorem dX8_times_22 : decode cX8_times 22 = .ok (.aload_n 0, 1) := by decide +kernel
theorem dX8_times_23 : decode cX8_times 23 = .ok (.iload 5, 2) := by decide +kernel
theorem dX8_times_25 : decode cX8_times 25 = .ok (.lload 6, 2) := by decide +kernel
theorem dX8_times_27 : decode cX8_times 27 = .ok (.ldc2_w 118, 3) := by decide +kernel
theorem dX8_times_30 : decode cX8_times 30 = .ok (.lrem, 1) := by decide +kernel
theorem dX8_times_31 : decode cX8_times 31 = .ok (.lastore, 1) := by decide +kernel
theorem dX8_times_32 : decode cX8_times 32 = .ok (.lload 6, 2) := by decide +kernel
theorem dX8_times_34 : decode cX8_times 34 = .ok (.ldc2_w 118, 3) := by decide +kernel
theorem dX8_times_37 : decode cX8_times 37 = .ok (.ldiv, 1) := by decide +kernel
theorem dX8_times_38 : decode cX8_times 38 = .ok (.lstore_n 3, 1) := by decide +kernel
theorem dX8_times_39 : decode cX8_times 39 = .ok (.iinc 5 1, 3) := by decide +kernel
theorem dX8_times_42 : decode cX8_times 42 = .ok (.goto (-37), 3) := by decide +kernel
theorem dX8_times_45 : decode cX8_times 45 = .ok (.return_, 1) := by decide +kernel
set_option maxRecDepth 20000 in
theorem ggX8_takesOne_X8_restBy : GoodIn wsX8_takesOne wsX8_restBy := goodIn_r _ [7, 8, 9, 10, 11] (by decide +kernel) (by decide +kernel)
set_option maxRecDepth 20000 in
theorem gX8_takesOne_X8_restBy : GoodIn wsX8_takesOne (va_wsS RX8 136 yX8_restBy wsX8_restBy) := goodIn_app (goodIn_of _ (by decide +kernel)) ggX8_takesOne_X8_restBy
set_option maxRecDepth 20000 in
theorem ggX8_takesOne_X8_shaped : GoodIn wsX8_takesOne wsX8_shaped := goodIn_ca (goodIn_r _ [15, 16, 17, 18, 3, 19, 20, 6, 21, 22, 23, 24, 25, 26, 27, 28, 29, 30, 31, 32, 33, 34, 35, 36, 37, 38, 39, 40, 41, 42, 43, 44, 45, 46, 47, 48, 49, 50, 51, 52, 53, 54, 55, 56, 57, 58, 59, 60, 61, 62] (by decide +kernel) (by decide +kernel)) (goodIn_sub (fun _ h => List.mem_cons_of_mem _ (List.mem_append_right _ h)) (by decide +kernel))
set_option maxRecDepth 20000 in
theorem gX8_takesOne_X8_shaped : GoodIn wsX8_takesOne (wsV RX8 183 RX8 yX8_shaped wsX8_shaped) := goodIn_app (goodIn_of _ (by decide +kernel)) ggX8_takesOne_X8_shaped
set_option maxRecDepth 20000 in
theorem ggX8_takesOne_X8_isNumber : GoodIn wsX8_takesOne wsX8_isNumber := goodIn_r _ [24, 25, 26, 27, 28, 6, 29] (by decide +kernel) (by decide +kernel)
set_option maxRecDepth 20000 in
theorem gX8_takesOne_X8_isNumber : GoodIn wsX8_takesOne (va_wsS RX8 150 yX8_isNumber wsX8_isNumber) := goodIn_app (goodIn_of _ (by decide +kernel)) ggX8_takesOne_X8_isNumber
theorem dX8_takesOne_0 : decode cX8_takesOne 0 = .ok (.iload_n 1, 1) := by decide +kernel
theorem dX8_takesOne_1 : decode cX8_takesOne 1 = .ok (.i2l, 1) := by decide +kernel
theorem dX8_takesOne_2 : decode cX8_takesOne 2 = .ok (.lstore 4, 2) := by decide +kernel
theorem dX8_takesOne_4 : decode cX8_takesOne 4 = .ok (.iload_n 2, 1) := by decide +kernel
theorem dX8_takesOne_5 : decode cX8_takesOne 5 = .ok (.i2l, 1) := by decide +kernel
theorem dX8_takesOne_6 : decode cX8_takesOne 6 = .ok (.lstore 6, 2) := by decide +kernel
theorem dX8_takesOne_8 : decode cX8_takesOne 8 = .ok (.iconst 0, 1) := by decide +kernel
theorem dX8_takesOne_9 : decode cX8_takesOne 9 = .ok (.istore 8, 2) := by decide +kernel
theorem dX8_takesOne_11 : decode cX8_takesOne 11 = .ok (.iload 8, 2) := by decide +kernel
theorem dX8_takesOne_13 : decode cX8_takesOne 13 = .ok (.iload_n 3, 1) := by decide +kernel
theorem dX8_takesOne_14 : decode cX8_takesOne 14 = .ok (.if_icmp .ge 144, 3) := by decide +kernel
theorem dX8_takesOne_17 : decode cX8_takesOne 17 = .ok (.lload 6, 2) := by decide +kernel
theorem dX8_takesOne_19 : decode cX8_takesOne 19 = .ok (.aload_n 0, 1) := by decide +kernel
theorem dX8_takesOne_20 : decode cX8_takesOne 20 = .ok (.getfield 105, 3) := by decide +kernel
theorem dX8_takesOne_23 : decode cX8_takesOne 23 = .ok (.i2l, 1) := by decide +kernel
theorem dX8_takesOne_24 : decode cX8_takesOne 24 = .ok (.lrem, 1) := by decide +kernel
theorem dX8_takesOne_25 : decode cX8_takesOne 25 = .ok (.lconst 0, 1) := by decide +kernel
theorem dX8_takesOne_26 : decode cX8_takesOne 26 = .ok (.lcmp, 1) := by decide +kernel
theorem dX8_takesOne_27 : decode cX8_takesOne 27 = .ok (.ifCond .eq 6, 3) := by decide +kernel
theorem dX8_takesOne_30 : decode cX8_takesOne 30 = .ok (.bipush (-3), 2) := by decide +kernel
theorem dX8_takesOne_32 : decode cX8_takesOne 32 = .ok (.ireturn, 1) := by decide +kernel
theorem dX8_takesOne_33 : decode cX8_takesOne 33 = .ok (.lload 4, 2) := by decide +kernel
theorem dX8_takesOne_35 : decode cX8_takesOne 35 = .ok (.aload_n 0, 1) := by decide +kernel
theorem dX8_takesOne_36 : decode cX8_takesOne 36 = .ok (.getfield 105, 3) := by decide +kernel
theorem dX8_takesOne_39 : decode cX8_takesOne 39 = .ok (.invokestatic 136, 3) := by decide +kernel
theorem dX8_takesOne_42 : decode cX8_takesOne 42 = .ok (.l2i, 1) := by decide +kernel
theorem dX8_takesOne_43 : decode cX8_takesOne 43 = .ok (.istore 9, 2) := by decide +kernel
theorem dX8_takesOne_45 : decode cX8_takesOne 45 = .ok (.aload_n 0, 1) := by decide +kernel
theorem dX8_takesOne_46 : decode cX8_takesOne 46 = .ok (.getfield 39, 3) := by decide +kernel
theorem dX8_takesOne_49 : decode cX8_takesOne 49 = .ok (.iload 8, 2) := by decide +kernel
theorem dX8_takesOne_51 : decode cX8_takesOne 51 = .ok (.iload 9, 2) := by decide +kernel
theorem dX8_takesOne_53 : decode cX8_takesOne 53 = .ok (.iastore, 1) := by decide +kernel
theorem dX8_takesOne_54 : decode cX8_takesOne 54 = .ok (.aload_n 0, 1) := by decide +kernel
theorem dX8_takesOne_55 : decode cX8_takesOne 55 = .ok (.getfield 20, 3) := by decide +kernel
theorem dX8_takesOne_58 : decode cX8_takesOne 58 = .ok (.iconst 3, 1) := by decide +kernel
theorem dX8_takesOne_59 : decode cX8_takesOne 59 = .ok (.iload 9, 2) := by decide +kernel
theorem dX8_takesOne_61 : decode cX8_takesOne 61 = .ok (.imul, 1) := by decide +kernel
theorem dX8_takesOne_62 : decode cX8_takesOne 62 = .ok (.laload, 1) := by decide +kernel
theorem dX8_takesOne_63 : decode cX8_takesOne 63 = .ok (.lload 4, 2) := by decide +kernel
theorem dX8_takesOne_65 : decode cX8_takesOne 65 = .ok (.lmul, 1) := by decide +kernel
theorem dX8_takesOne_66 : decode cX8_takesOne 66 = .ok (.aload_n 0, 1) := by decide +kernel
theorem dX8_takesOne_67 : decode cX8_takesOne 67 = .ok (.getfield 20, 3) := by decide +kernel
theorem dX8_takesOne_70 : decode cX8_takesOne 70 = .ok (.iconst 3, 1) := by decide +kernel
theorem dX8_takesOne_71 : decode cX8_takesOne 71 = .ok (.iload 9, 2) := by decide +kernel
theorem dX8_takesOne_73 : decode cX8_takesOne 73 = .ok (.imul, 1) := by decide +kernel
theorem dX8_takesOne_74 : decode cX8_takesOne 74 = .ok (.iconst 1, 1) := by decide +kernel
theorem dX8_takesOne_75 : decode cX8_takesOne 75 = .ok (.iadd, 1) := by decide +kernel
theorem dX8_takesOne_76 : decode cX8_takesOne 76 = .ok (.laload, 1) := by decide +kernel
theorem dX8_takesOne_77 : decode cX8_takesOne 77 = .ok (.ladd, 1) := by decide +kernel
theorem dX8_takesOne_78 : decode cX8_takesOne 78 = .ok (.aload_n 0, 1) := by decide +kernel
theorem dX8_takesOne_79 : decode cX8_takesOne 79 = .ok (.getfield 20, 3) := by decide +kernel
theorem dX8_takesOne_82 : decode cX8_takesOne 82 = .ok (.iconst 3, 1) := by decide +kernel
theorem dX8_takesOne_83 : decode cX8_takesOne 83 = .ok (.iload 9, 2) := by decide +kernel
theorem dX8_takesOne_85 : decode cX8_takesOne 85 = .ok (.imul, 1) := by decide +kernel
theorem dX8_takesOne_86 : decode cX8_takesOne 86 = .ok (.iconst 2, 1) := by decide +kernel
theorem dX8_takesOne_87 : decode cX8_takesOne 87 = .ok (.iadd, 1) := by decide +kernel
theorem dX8_takesOne_88 : decode cX8_takesOne 88 = .ok (.laload, 1) := by decide +kernel
theorem dX8_takesOne_89 : decode cX8_takesOne 89 = .ok (.ldiv, 1) := by decide +kernel
theorem dX8_takesOne_90 : decode cX8_takesOne 90 = .ok (.lstore 4, 2) := by decide +kernel
theorem dX8_takesOne_92 : decode cX8_takesOne 92 = .ok (.aload_n 0, 1) := by decide +kernel
theorem dX8_takesOne_93 : decode cX8_takesOne 93 = .ok (.getfield 20, 3) := by decide +kernel
theorem dX8_takesOne_96 : decode cX8_takesOne 96 = .ok (.iconst 3, 1) := by decide +kernel
theorem dX8_takesOne_97 : decode cX8_takesOne 97 = .ok (.iload 9, 2) := by decide +kernel
theorem dX8_takesOne_99 : decode cX8_takesOne 99 = .ok (.imul, 1) := by decide +kernel
theorem dX8_takesOne_100 : decode cX8_takesOne 100 = .ok (.laload, 1) := by decide +kernel
theorem dX8_takesOne_101 : decode cX8_takesOne 101 = .ok (.lload 6, 2) := by decide +kernel
theorem dX8_takesOne_103 : decode cX8_takesOne 103 = .ok (.lmul, 1) := by decide +kernel
theorem dX8_takesOne_104 : decode cX8_takesOne 104 = .ok (.aload_n 0, 1) := by decide +kernel
theorem dX8_takesOne_105 : decode cX8_takesOne 105 = .ok (.getfield 20, 3) := by decide +kernel
theorem dX8_takesOne_108 : decode cX8_takesOne 108 = .ok (.iconst 3, 1) := by decide +kernel
theorem dX8_takesOne_109 : decode cX8_takesOne 109 = .ok (.iload 9, 2) := by decide +kernel
theorem dX8_takesOne_111 : decode cX8_takesOne 111 = .ok (.imul, 1) := by decide +kernel
theorem dX8_takesOne_112 : decode cX8_takesOne 112 = .ok (.iconst 2, 1) := by decide +kernel
theorem dX8_takesOne_113 : decode cX8_takesOne 113 = .ok (.iadd, 1) := by decide +kernel
theorem dX8_takesOne_114 : decode cX8_takesOne 114 = .ok (.laload, 1) := by decide +kernel
theorem dX8_takesOne_115 : decode cX8_takesOne 115 = .ok (.ldiv, 1) := by decide +kernel
theorem dX8_takesOne_116 : decode cX8_takesOne 116 = .ok (.lstore 6, 2) := by decide +kernel
theorem dX8_takesOne_118 : decode cX8_takesOne 118 = .ok (.aload_n 0, 1) := by decide +kernel
theorem dX8_takesOne_119 : decode cX8_takesOne 119 = .ok (.aload_n 0, 1) := by decide +kernel
theorem dX8_takesOne_120 : decode cX8_takesOne 120 = .ok (.getfield 39, 3) := by decide +kernel
theorem dX8_takesOne_123 : decode cX8_takesOne 123 = .ok (.iload 8, 2) := by decide +kernel
theorem dX8_takesOne_125 : decode cX8_takesOne 125 = .ok (.iconst 1, 1) := by decide +kernel
theorem dX8_takesOne_126 : decode cX8_takesOne 126 = .ok (.iadd, 1) := by decide +kernel
theorem dX8_takesOne_127 : decode cX8_takesOne 127 = .ok (.invokevirtual 183, 3) := by decide +kernel
theorem dX8_takesOne_130 : decode cX8_takesOne 130 = .ok (.ifCond .eq 19, 3) := by decide +kernel
theorem dX8_takesOne_133 : decode cX8_takesOne 133 = .ok (.lload 4, 2) := by decide +kernel
theorem dX8_takesOne_135 : decode cX8_takesOne 135 = .ok (.invokestatic 150, 3) := by decide +kernel
theorem dX8_takesOne_138 : decode cX8_takesOne 138 = .ok (.ifCond .eq 11, 3) := by decide +kernel
theorem dX8_takesOne_141 : decode cX8_takesOne 141 = .ok (.lload 6, 2) := by decide +kernel
theorem dX8_takesOne_143 : decode cX8_takesOne 143 = .ok (.invokestatic 150, 3) := by decide +kernel
theorem dX8_takesOne_146 : decode cX8_takesOne 146 = .ok (.ifCond .ne 6, 3) := by decide +kernel
theorem dX8_takesOne_149 : decode cX8_takesOne 149 = .ok (.bipush (-4), 2) := by decide +kernel
theorem dX8_takesOne_151 : decode cX8_takesOne 151 = .ok (.ireturn, 1) := by decide +kernel
theorem dX8_takesOne_152 : decode cX8_takesOne 152 = .ok (.iinc 8 1, 3) := by decide +kernel
theorem dX8_takesOne_155 : decode cX8_takesOne 155 = .ok (.goto (-144), 3) := by decide +kernel
theorem dX8_takesOne_158 : decode cX8_takesOne 158 = .ok (.iconst 0, 1) := by decide +kernel
theorem dX8_takesOne_159 : decode cX8_takesOne 159 = .ok (.ireturn, 1) := by decide +kernel
set_option maxRecDepth 20000 in
theorem ggX8_falls_X8_in : GoodIn wsX8_falls wsX8_in := goodIn_r _ [9] (by decide +kernel) (by decide +kernel)
set_option maxRecDepth 20000 in
theorem gX8_falls_X8_in : GoodIn wsX8_falls (va_wsS RX8 68 yX8_in wsX8_in) := goodIn_app (goodIn_of _ (by decide +kernel)) ggX8_falls_X8_in
set_option maxRecDepth 20000 in
theorem ggX8_falls_X8_power : GoodIn wsX8_falls wsX8_power := goodIn_r _ [13, 14, 15, 16, 17, 18, 45, 46, 47, 48, 49, 50, 51, 52, 53, 54, 55, 56, 57, 58, 59, 60, 61, 62, 63, 64, 65, 66, 67, 68, 69, 70, 71, 72, 73, 74, 75, 76, 77] (by decide +kernel) (by decide +kernel)
set_option maxRecDepth 20000 in
theorem gX8_falls_X8_power : GoodIn wsX8_falls (wsV RX8 204 RX8 yX8_power wsX8_power) := goodIn_app (goodIn_of _ (by decide +kernel)) ggX8_falls_X8_power
set_option maxRecDepth 20000 in
theorem ggX8_falls_X8_takesOne : GoodIn wsX8_falls wsX8_takesOne := goodIn_ca (goodIn_r _ [22, 14, 23, 24, 25, 26, 8, 27, 28, 29, 30, 31, 32, 33, 34, 35, 4, 36, 5, 37, 38, 39, 40, 41, 42, 43, 44, 6, 7, 9, 45, 46, 47, 48, 49, 50, 51, 52, 53, 54, 55, 56, 57, 58, 59, 60, 61, 62, 63, 64, 65, 66, 67, 68, 69, 70, 71, 72, 73, 74, 75, 76, 77] (by decide +kernel) (by decide +kernel)) (goodIn_sub (fun _ h => List.mem_cons_of_mem _ (List.mem_append_right _ h)) (by decide +kernel))
set_option maxRecDepth 20000 in
theorem gX8_falls_X8_takesOne : GoodIn wsX8_falls (wsV RX8 211 RX8 yX8_takesOne wsX8_takesOne) := goodIn_app (goodIn_of _ (by decide +kernel)) ggX8_falls_X8_takesOne
theorem dX8_falls_0 : decode cX8_falls 0 = .ok (.aload_n 0, 1) := by decide +kernel
theorem dX8_falls_1 : decode cX8_falls 1 = .ok (.iconst 0, 1) := by decide +kernel
theorem dX8_falls_2 : decode cX8_falls 2 = .ok (.putfield 61, 3) := by decide +kernel
theorem dX8_falls_5 : decode cX8_falls 5 = .ok (.aload_n 0, 1) := by decide +kernel
theorem dX8_falls_6 : decode cX8_falls 6 = .ok (.getfield 108, 3) := by decide +kernel
theorem dX8_falls_9 : decode cX8_falls 9 = .ok (.iconst 1, 1) := by decide +kernel
theorem dX8_falls_10 : decode cX8_falls 10 = .ok (.if_icmp .ne 15, 3) := by decide +kernel
theorem dX8_falls_13 : decode cX8_falls 13 = .ok (.iload_n 1, 1) := by decide +kernel
theorem dX8_falls_14 : decode cX8_falls 14 = .ok (.i2l, 1) := by decide +kernel
theorem dX8_falls_15 : decode cX8_falls 15 = .ok (.lconst 1, 1) := by decide +kernel
theorem dX8_falls_16 : decode cX8_falls 16 = .ok (.ldc2_w 202, 3) := by decide +kernel
theorem dX8_falls_19 : decode cX8_falls 19 = .ok (.invokestatic 68, 3) := by decide +kernel
theorem dX8_falls_22 : decode cX8_falls 22 = .ok (.ifCond .ne 5, 3) := by decide +kernel
theorem dX8_falls_25 : decode cX8_falls 25 = .ok (.iconst (-1), 1) := by decide +kernel
theorem dX8_falls_26 : decode cX8_falls 26 = .ok (.ireturn, 1) := by decide +kernel
theorem dX8_falls_27 : decode cX8_falls 27 = .ok (.aload_n 0, 1) := by decide +kernel
theorem dX8_falls_28 : decode cX8_falls 28 = .ok (.iload_n 1, 1) := by decide +kernel
theorem dX8_falls_29 : decode cX8_falls 29 = .ok (.invokevirtual 204, 3) := by decide +kernel
theorem dX8_falls_32 : decode cX8_falls 32 = .ok (.istore_n 2, 1) := by decide +kernel
theorem dX8_falls_33 : decode cX8_falls 33 = .ok (.iload_n 2, 1) := by decide +kernel
theorem dX8_falls_34 : decode cX8_falls 34 = .ok (.sipush 20000, 3) := by decide +kernel
theorem dX8_falls_37 : decode cX8_falls 37 = .ok (.if_icmp .le 6, 3) := by decide +kernel
theorem dX8_falls_40 : decode cX8_falls 40 = .ok (.bipush (-2), 2) := by decide +kernel
theorem dX8_falls_42 : decode cX8_falls 42 = .ok (.ireturn, 1) := by decide +kernel
theorem dX8_falls_43 : decode cX8_falls 43 = .ok (.iconst 0, 1) := by decide +kernel
theorem dX8_falls_44 : decode cX8_falls 44 = .ok (.istore_n 3, 1) := by decide +kernel
theorem dX8_falls_45 : decode cX8_falls 45 = .ok (.iconst 0, 1) := by decide +kernel
theorem dX8_falls_46 : decode cX8_falls 46 = .ok (.istore 4, 2) := by decide +kernel
theorem dX8_falls_48 : decode cX8_falls 48 = .ok (.iload 4, 2) := by decide +kernel
theorem dX8_falls_50 : decode cX8_falls 50 = .ok (.iload_n 2, 1) := by decide +kernel
theorem dX8_falls_51 : decode cX8_falls 51 = .ok (.if_icmp .ge 47, 3) := by decide +kernel
theorem dX8_falls_54 : decode cX8_falls 54 = .ok (.aload_n 0, 1) := by decide +kernel
theorem dX8_falls_55 : decode cX8_falls 55 = .ok (.iload 4, 2) := by decide +kernel
theorem dX8_falls_57 : decode cX8_falls 57 = .ok (.iload_n 2, 1) := by decide +kernel
theorem dX8_falls_58 : decode cX8_falls 58 = .ok (.iload_n 1, 1) := by decide +kernel
theorem dX8_falls_59 : decode cX8_falls 59 = .ok (.invokevirtual 211, 3) := by decide +kernel
theorem dX8_falls_62 : decode cX8_falls 62 = .ok (.istore 5, 2) := by decide +kernel
theorem dX8_falls_64 : decode cX8_falls 64 = .ok (.iload 5, 2) := by decide +kernel
theorem dX8_falls_66 : decode cX8_falls 66 = .ok (.ifCond .eq 6, 3) := by decide +kernel
theorem dX8_falls_69 : decode cX8_falls 69 = .ok (.iload 5, 2) := by decide +kernel
theorem dX8_falls_71 : decode cX8_falls 71 = .ok (.ireturn, 1) := by decide +kernel
theorem dX8_falls_72 : decode cX8_falls 72 = .ok (.iload_n 3, 1) := by decide +kernel
theorem dX8_falls_73 : decode cX8_falls 73 = .ok (.aload_n 0, 1) := by decide +kernel
theorem dX8_falls_74 : decode cX8_falls 74 = .ok (.getfield 170, 3) := by decide +kernel
theorem dX8_falls_77 : decode cX8_falls 77 = .ok (.aload_n 0, 1) := by decide +kernel
theorem dX8_falls_78 : decode cX8_falls 78 = .ok (.getfield 176, 3) := by decide +kernel
theorem dX8_falls_81 : decode cX8_falls 81 = .ok (.lcmp, 1) := by decide +kernel
theorem dX8_falls_82 : decode cX8_falls 82 = .ok (.ifCond .ge 7, 3) := by decide +kernel
theorem dX8_falls_85 : decode cX8_falls 85 = .ok (.iconst 1, 1) := by decide +kernel
theorem dX8_falls_86 : decode cX8_falls 86 = .ok (.goto 4, 3) := by decide +kernel
theorem dX8_falls_89 : decode cX8_falls 89 = .ok (.iconst 0, 1) := by decide +kernel
theorem dX8_falls_90 : decode cX8_falls 90 = .ok (.iadd, 1) := by decide +kernel
theorem dX8_falls_91 : decode cX8_falls 91 = .ok (.istore_n 3, 1) := by decide +kernel
theorem dX8_falls_92 : decode cX8_falls 92 = .ok (.iinc 4 1, 3) := by decide +kernel
theorem dX8_falls_95 : decode cX8_falls 95 = .ok (.goto (-47), 3) := by decide +kernel
theorem dX8_falls_98 : decode cX8_falls 98 = .ok (.iload_n 3, 1) := by decide +kernel
theorem dX8_falls_99 : decode cX8_falls 99 = .ok (.ireturn, 1) := by decide +kernel
set_option maxRecDepth 20000 in
theorem ggX8_least_X8_in : GoodIn wsX8_least wsX8_in := goodIn_r _ [9] (by decide +kernel) (by decide +kernel)
set_option maxRecDepth 20000 in
theorem gX8_least_X8_in : GoodIn wsX8_least (va_wsS RX8 68 yX8_in wsX8_in) := goodIn_app (goodIn_of _ (by decide +kernel)) ggX8_least_X8_in
set_option maxRecDepth 20000 in
theorem ggX8_least_X8_goes : GoodIn wsX8_least wsX8_goes := goodIn_ca (goodIn_r _ [13, 2, 14, 15, 16, 17, 5, 18, 19, 20, 21, 8, 22, 23, 24, 25, 26, 27, 28, 29, 30, 31, 32, 33, 34, 35, 6, 7, 9, 36, 37, 38, 39, 40, 41, 42, 43, 44, 45, 46, 47, 48, 49, 50, 51, 52, 53, 54, 55, 56, 57, 58, 59, 60, 61, 62, 63, 64, 65, 66, 67, 68] (by decide +kernel) (by decide +kernel)) (goodIn_sub (fun _ h => List.mem_cons_of_mem _ (List.mem_append_right _ h)) (by decide +kernel))
set_option maxRecDepth 20000 in
theorem gX8_least_X8_goes : GoodIn wsX8_least (wsV RX8 154 RX8 yX8_goes wsX8_goes) := goodIn_app (goodIn_of _ (by decide +kernel)) ggX8_least_X8_goes
theorem dX8_least_0 : decode cX8_least 0 = .ok (.aload_n 0, 1) := by decide +kernel
theorem dX8_least_1 : decode cX8_least 1 = .ok (.iconst 0, 1) := by decide +kernel
theorem dX8_least_2 : decode cX8_least 2 = .ok (.putfield 61, 3) := by decide +kernel
theorem dX8_least_5 : decode cX8_least 5 = .ok (.aload_n 0, 1) := by decide +kernel
theorem dX8_least_6 : decode cX8_least 6 = .ok (.getfield 108, 3) := by decide +kernel
theorem dX8_least_9 : decode cX8_least 9 = .ok (.ifCond .eq 27, 3) := by decide +kernel
theorem dX8_least_12 : decode cX8_least 12 = .ok (.iload_n 1, 1) := by decide +kernel
theorem dX8_least_13 : decode cX8_least 13 = .ok (.i2l, 1) := by decide +kernel
theorem dX8_least_14 : decode cX8_least 14 = .ok (.lconst 1, 1) := by decide +kernel
theorem dX8_least_15 : decode cX8_least 15 = .ok (.ldc2_w 215, 3) := by decide +kernel
theorem dX8_least_18 : decode cX8_least 18 = .ok (.invokestatic 68, 3) := by decide +kernel
theorem dX8_least_21 : decode cX8_least 21 = .ok (.ifCond .eq 15, 3) := by decide +kernel
theorem dX8_least_24 : decode cX8_least 24 = .ok (.iload_n 2, 1) := by decide +kernel
theorem dX8_least_25 : decode cX8_least 25 = .ok (.i2l, 1) := by decide +kernel
theorem dX8_least_26 : decode cX8_least 26 = .ok (.lconst 0, 1) := by decide +kernel
theorem dX8_least_27 : decode cX8_least 27 = .ok (.ldc2_w 217, 3) := by decide +kernel
theorem dX8_least_30 : decode cX8_least 30 = .ok (.invokestatic 68, 3) := by decide +kernel
theorem dX8_least_33 : decode cX8_least 33 = .ok (.ifCond .ne 5, 3) := by decide +kernel
theorem dX8_least_36 : decode cX8_least 36 = .ok (.iconst (-1), 1) := by decide +kernel
theorem dX8_least_37 : decode cX8_least 37 = .ok (.ireturn, 1) := by decide +kernel
theorem dX8_least_38 : decode cX8_least 38 = .ok (.iconst 2, 1) := by decide +kernel
theorem dX8_least_39 : decode cX8_least 39 = .ok (.istore_n 3, 1) := by decide +kernel
theorem dX8_least_40 : decode cX8_least 40 = .ok (.iload_n 3, 1) := by decide +kernel
theorem dX8_least_41 : decode cX8_least 41 = .ok (.iload_n 1, 1) := by decide +kernel
theorem dX8_least_42 : decode cX8_least 42 = .ok (.if_icmp .gt 82, 3) := by decide +kernel
theorem dX8_least_45 : decode cX8_least 45 = .ok (.aload_n 0, 1) := by decide +kernel
theorem dX8_least_46 : decode cX8_least 46 = .ok (.iload_n 3, 1) := by decide +kernel
theorem dX8_least_47 : decode cX8_least 47 = .ok (.i2l, 1) := by decide +kernel
theorem dX8_least_48 : decode cX8_least 48 = .ok (.putfield 146, 3) := by decide +kernel
theorem dX8_least_51 : decode cX8_least 51 = .ok (.iconst 0, 1) := by decide +kernel
theorem dX8_least_52 : decode cX8_least 52 = .ok (.istore 4, 2) := by decide +kernel
theorem dX8_least_54 : decode cX8_least 54 = .ok (.iconst 0, 1) := by decide +kernel
theorem dX8_least_55 : decode cX8_least 55 = .ok (.istore 5, 2) := by decide +kernel
theorem dX8_least_57 : decode cX8_least 57 = .ok (.iload 5, 2) := by decide +kernel
theorem dX8_least_59 : decode cX8_least 59 = .ok (.iload_n 2, 1) := by decide +kernel
theorem dX8_least_60 : decode cX8_least 60 = .ok (.if_icmp .ge 51, 3) := by decide +kernel
theorem dX8_least_63 : decode cX8_least 63 = .ok (.iload 4, 2) := by decide +kernel
theorem dX8_least_65 : decode cX8_least 65 = .ok (.ifCond .ne 46, 3) := by decide +kernel
theorem dX8_least_68 : decode cX8_least 68 = .ok (.aload_n 0, 1) := by decide +kernel
theorem dX8_least_69 : decode cX8_least 69 = .ok (.aload_n 0, 1) := by decide +kernel
theorem dX8_least_70 : decode cX8_least 70 = .ok (.getfield 146, 3) := by decide +kernel
theorem dX8_least_73 : decode cX8_least 73 = .ok (.invokevirtual 154, 3) := by decide +kernel
theorem dX8_least_76 : decode cX8_least 76 = .ok (.ifCond .ne 35, 3) := by decide +kernel
theorem dX8_least_79 : decode cX8_least 79 = .ok (.aload_n 0, 1) := by decide +kernel
theorem dX8_least_80 : decode cX8_least 80 = .ok (.getfield 146, 3) := by decide +kernel
theorem dX8_least_83 : decode cX8_least 83 = .ok (.iload_n 3, 1) := by decide +kernel
theorem dX8_least_84 : decode cX8_least 84 = .ok (.i2l, 1) := by decide +kernel
theorem dX8_least_85 : decode cX8_least 85 = .ok (.lcmp, 1) := by decide +kernel
theorem dX8_least_86 : decode cX8_least 86 = .ok (.ifCond .lt 12, 3) := by decide +kernel
theorem dX8_least_89 : decode cX8_least 89 = .ok (.aload_n 0, 1) := by decide +kernel
theorem dX8_least_90 : decode cX8_least 90 = .ok (.getfield 146, 3) := by decide +kernel
theorem dX8_least_93 : decode cX8_least 93 = .ok (.lconst 1, 1) := by decide +kernel
theorem dX8_least_94 : decode cX8_least 94 = .ok (.lcmp, 1) := by decide +kernel
theorem dX8_least_95 : decode cX8_least 95 = .ok (.ifCond .ne 7, 3) := by decide +kernel
theorem dX8_least_98 : decode cX8_least 98 = .ok (.iconst 1, 1) := by decide +kernel
theorem dX8_least_99 : decode cX8_least 99 = .ok (.goto 4, 3) := by decide +kernel
theorem dX8_least_102 : decode cX8_least 102 = .ok (.iconst 0, 1) := by decide +kernel
theorem dX8_least_103 : decode cX8_least 103 = .ok (.istore 4, 2) := by decide +kernel
theorem dX8_least_105 : decode cX8_least 105 = .ok (.iinc 5 1, 3) := by decide +kernel
theorem dX8_least_108 : decode cX8_least 108 = .ok (.goto (-51), 3) := by decide +kernel
theorem dX8_least_111 : decode cX8_least 111 = .ok (.iload 4, 2) := by decide +kernel
theorem dX8_least_113 : decode cX8_least 113 = .ok (.ifCond .ne 5, 3) := by decide +kernel
theorem dX8_least_116 : decode cX8_least 116 = .ok (.iload_n 3, 1) := by decide +kernel
theorem dX8_least_117 : decode cX8_least 117 = .ok (.ireturn, 1) := by decide +kernel
theorem dX8_least_118 : decode cX8_least 118 = .ok (.iinc 3 1, 3) := by decide +kernel
theorem dX8_least_121 : decode cX8_least 121 = .ok (.goto (-81), 3) := by decide +kernel
theorem dX8_least_124 : decode cX8_least 124 = .ok (.iconst 0, 1) := by decide +kernel
theorem dX8_least_125 : decode cX8_least 125 = .ok (.ireturn, 1) := by decide +kernel
set_option maxRecDepth 20000 in
theorem ggX8_backOf_X8_isNumber : GoodIn wsX8_backOf wsX8_isNumber := goodIn_r _ [7, 8, 9, 10, 11, 6, 12] (by decide +kernel) (by decide +kernel)
set_option maxRecDepth 20000 in
theorem gX8_backOf_X8_isNumber : GoodIn wsX8_backOf (va_wsS RX8 150 yX8_isNumber wsX8_isNumber) := goodIn_app (goodIn_of _ (by decide +kernel)) ggX8_backOf_X8_isNumber
set_option maxRecDepth 20000 in
theorem ggX8_backOf_X8_restBy : GoodIn wsX8_backOf wsX8_restBy := goodIn_r _ [15, 16, 17, 18, 19] (by decide +kernel) (by decide +kernel)
set_option maxRecDepth 20000 in
theorem gX8_backOf_X8_restBy : GoodIn wsX8_backOf (va_wsS RX8 136 yX8_restBy wsX8_restBy) := goodIn_app (goodIn_of _ (by decide +kernel)) ggX8_backOf_X8_restBy
theorem dX8_backOf_0 : decode cX8_backOf 0 = .ok (.iload_n 3, 1) := by decide +kernel
theorem dX8_backOf_1 : decode cX8_backOf 1 = .ok (.istore 4, 2) := by decide +kernel
theorem dX8_backOf_3 : decode cX8_backOf 3 = .ok (.iconst 0, 1) := by decide +kernel
theorem dX8_backOf_4 : decode cX8_backOf 4 = .ok (.istore 5, 2) := by decide +kernel
theorem dX8_backOf_6 : decode cX8_backOf 6 = .ok (.iload 5, 2) := by decide +kernel
theorem dX8_backOf_8 : decode cX8_backOf 8 = .ok (.aload_n 0, 1) := by decide +kernel
theorem dX8_backOf_9 : decode cX8_backOf 9 = .ok (.getfield 105, 3) := by decide +kernel
theorem dX8_backOf_12 : decode cX8_backOf 12 = .ok (.if_icmp .ge 112, 3) := by decide +kernel
theorem dX8_backOf_15 : decode cX8_backOf 15 = .ok (.aload_n 0, 1) := by decide +kernel
theorem dX8_backOf_16 : decode cX8_backOf 16 = .ok (.getfield 20, 3) := by decide +kernel
theorem dX8_backOf_19 : decode cX8_backOf 19 = .ok (.iconst 3, 1) := by decide +kernel
theorem dX8_backOf_20 : decode cX8_backOf 20 = .ok (.iload 5, 2) := by decide +kernel
theorem dX8_backOf_22 : decode cX8_backOf 22 = .ok (.imul, 1) := by decide +kernel
theorem dX8_backOf_23 : decode cX8_backOf 23 = .ok (.laload, 1) := by decide +kernel
theorem dX8_backOf_24 : decode cX8_backOf 24 = .ok (.lstore 6, 2) := by decide +kernel
theorem dX8_backOf_26 : decode cX8_backOf 26 = .ok (.lload_n 1, 1) := by decide +kernel
theorem dX8_backOf_27 : decode cX8_backOf 27 = .ok (.aload_n 0, 1) := by decide +kernel
theorem dX8_backOf_28 : decode cX8_backOf 28 = .ok (.getfield 20, 3) := by decide +kernel
theorem dX8_backOf_31 : decode cX8_backOf 31 = .ok (.iconst 3, 1) := by decide +kernel
theorem dX8_backOf_32 : decode cX8_backOf 32 = .ok (.iload 5, 2) := by decide +kernel
theorem dX8_backOf_34 : decode cX8_backOf 34 = .ok (.imul, 1) := by decide +kernel
theorem dX8_backOf_35 : decode cX8_backOf 35 = .ok (.iconst 2, 1) := by decide +kernel
theorem dX8_backOf_36 : decode cX8_backOf 36 = .ok (.iadd, 1) := by decide +kernel
theorem dX8_backOf_37 : decode cX8_backOf 37 = .ok (.laload, 1) := by decide +kernel
theorem dX8_backOf_38 : decode cX8_backOf 38 = .ok (.lmul, 1) := by decide +kernel
theorem dX8_backOf_39 : decode cX8_backOf 39 = .ok (.aload_n 0, 1) := by decide +kernel
theorem dX8_backOf_40 : decode cX8_backOf 40 = .ok (.getfield 20, 3) := by decide +kernel
theorem dX8_backOf_43 : decode cX8_backOf 43 = .ok (.iconst 3, 1) := by decide +kernel
theorem dX8_backOf_44 : decode cX8_backOf 44 = .ok (.iload 5, 2) := by decide +kernel
theorem dX8_backOf_46 : decode cX8_backOf 46 = .ok (.imul, 1) := by decide +kernel
theorem dX8_backOf_47 : decode cX8_backOf 47 = .ok (.iconst 1, 1) := by decide +kernel
theorem dX8_backOf_48 : decode cX8_backOf 48 = .ok (.iadd, 1) := by decide +kernel
theorem dX8_backOf_49 : decode cX8_backOf 49 = .ok (.laload, 1) := by decide +kernel
theorem dX8_backOf_50 : decode cX8_backOf 50 = .ok (.lsub, 1) := by decide +kernel
theorem dX8_backOf_51 : decode cX8_backOf 51 = .ok (.lstore 8, 2) := by decide +kernel
theorem dX8_backOf_53 : decode cX8_backOf 53 = .ok (.lload 6, 2) := by decide +kernel
theorem dX8_backOf_55 : decode cX8_backOf 55 = .ok (.lconst 0, 1) := by decide +kernel
theorem dX8_backOf_56 : decode cX8_backOf 56 = .ok (.lcmp, 1) := by decide +kernel
theorem dX8_backOf_57 : decode cX8_backOf 57 = .ok (.ifCond .eq 61, 3) := by decide +kernel
theorem dX8_backOf_60 : decode cX8_backOf 60 = .ok (.lload 8, 2) := by decide +kernel
theorem dX8_backOf_62 : decode cX8_backOf 62 = .ok (.lload 6, 2) := by decide +kernel
theorem dX8_backOf_64 : decode cX8_backOf 64 = .ok (.lrem, 1) := by decide +kernel
theorem dX8_backOf_65 : decode cX8_backOf 65 = .ok (.lconst 0, 1) := by decide +kernel
theorem dX8_backOf_66 : decode cX8_backOf 66 = .ok (.lcmp, 1) := by decide +kernel
theorem dX8_backOf_67 : decode cX8_backOf 67 = .ok (.ifCond .ne 51, 3) := by decide +kernel
theorem dX8_backOf_70 : decode cX8_backOf 70 = .ok (.lload 8, 2) := by decide +kernel
theorem dX8_backOf_72 : decode cX8_backOf 72 = .ok (.lload 6, 2) := by decide +kernel
theorem dX8_backOf_74 : decode cX8_backOf 74 = .ok (.ldiv, 1) := by decide +kernel
theorem dX8_backOf_75 : decode cX8_backOf 75 = .ok (.invokestatic 150, 3) := by decide +kernel
theorem dX8_backOf_78 : decode cX8_backOf 78 = .ok (.ifCond .eq 40, 3) := by decide +kernel
theorem dX8_backOf_81 : decode cX8_backOf 81 = .ok (.lload 8, 2) := by decide +kernel
theorem dX8_backOf_83 : decode cX8_backOf 83 = .ok (.lload 6, 2) := by decide +kernel
theorem dX8_backOf_85 : decode cX8_backOf 85 = .ok (.ldiv, 1) := by decide +kernel
theorem dX8_backOf_86 : decode cX8_backOf 86 = .ok (.aload_n 0, 1) := by decide +kernel
theorem dX8_backOf_87 : decode cX8_backOf 87 = .ok (.getfield 105, 3) := by decide +kernel
theorem dX8_backOf_90 : decode cX8_backOf 90 = .ok (.invokestatic 136, 3) := by decide +kernel
theorem dX8_backOf_93 : decode cX8_backOf 93 = .ok (.iload 5, 2) := by decide +kernel
theorem dX8_backOf_95 : decode cX8_backOf 95 = .ok (.i2l, 1) := by decide +kernel
theorem dX8_backOf_96 : decode cX8_backOf 96 = .ok (.lcmp, 1) := by decide +kernel
theorem dX8_backOf_97 : decode cX8_backOf 97 = .ok (.ifCond .eq 6, 3) := by decide +kernel
theorem dX8_backOf_100 : decode cX8_backOf 100 = .ok (.goto 18, 3) := by decide +kernel
theorem dX8_backOf_103 : decode cX8_backOf 103 = .ok (.aload_n 0, 1) := by decide +kernel
theorem dX8_backOf_104 : decode cX8_backOf 104 = .ok (.getfield 32, 3) := by decide +kernel
theorem dX8_backOf_107 : decode cX8_backOf 107 = .ok (.iload 4, 2) := by decide +kernel
theorem dX8_backOf_109 : decode cX8_backOf 109 = .ok (.lload 8, 2) := by decide +kernel
theorem dX8_backOf_111 : decode cX8_backOf 111 = .ok (.lload 6, 2) := by decide +kernel
theorem dX8_backOf_113 : decode cX8_backOf 113 = .ok (.ldiv, 1) := by decide +kernel
theorem dX8_backOf_114 : decode cX8_backOf 114 = .ok (.lastore, 1) := by decide +kernel
theorem dX8_backOf_115 : decode cX8_backOf 115 = .ok (.iinc 4 1, 3) := by decide +kernel
theorem dX8_backOf_118 : decode cX8_backOf 118 = .ok (.iinc 5 1, 3) := by decide +kernel
theorem dX8_backOf_121 : decode cX8_backOf 121 = .ok (.goto (-115), 3) := by decide +kernel
theorem dX8_backOf_124 : decode cX8_backOf 124 = .ok (.iload 4, 2) := by decide +kernel
theorem dX8_backOf_126 : decode cX8_backOf 126 = .ok (.ireturn, 1) := by decide +kernel
set_option maxRecDepth 20000 in
theorem ggX8_back_X8_isNumber : GoodIn wsX8_back wsX8_isNumber := goodIn_r _ [6, 7, 8, 9, 10, 5, 11] (by decide +kernel) (by decide +kernel)
set_option maxRecDepth 20000 in
theorem gX8_back_X8_isNumber : GoodIn wsX8_back (va_wsS RX8 150 yX8_isNumber wsX8_isNumber) := goodIn_app (goodIn_of _ (by decide +kernel)) ggX8_back_X8_isNumber
set_option maxRecDepth 20000 in
theorem ggX8_back_X8_backOf : GoodIn wsX8_back wsX8_backOf := goodIn_ca (goodIn_r _ [15, 16, 17, 18, 3, 4, 5, 6, 7, 8, 9, 10, 11, 19, 20, 21, 22, 23, 24, 25, 40, 41, 42, 43, 44, 45, 46, 47, 48, 49, 50, 51, 52, 53, 54, 55, 56, 57, 58, 59, 60, 61, 62, 63, 64, 65, 66, 67, 68, 69, 70, 71, 72] (by decide +kernel) (by decide +kernel)) (goodIn_sub (fun _ h => List.mem_cons_of_mem _ (List.mem_append_right _ h)) (by decide +kernel))
set_option maxRecDepth 20000 in
theorem gX8_back_X8_backOf : GoodIn wsX8_back (wsV RX8 219 RX8 yX8_backOf wsX8_backOf) := goodIn_app (goodIn_of _ (by decide +kernel)) ggX8_back_X8_backOf
set_option maxRecDepth 20000 in
theorem ggX8_back_X8_ascend : GoodIn wsX8_back wsX8_ascend := goodIn_r _ [29, 18, 40, 41, 42, 43, 44, 45, 46, 47, 48, 49, 50, 51, 52, 53, 54, 55, 56, 57, 58, 59, 60, 61, 62, 63, 64, 65, 66, 67, 68, 69, 70, 71, 72] (by decide +kernel) (by decide +kernel)
set_option maxRecDepth 20000 in
theorem gX8_back_X8_ascend : GoodIn wsX8_back (wsV RX8 208 RX8 yX8_ascend wsX8_ascend) := goodIn_app (goodIn_of _ (by decide +kernel)) ggX8_back_X8_ascend
set_option maxRecDepth 20000 in
theorem ggX8_back_X8_tells : GoodIn wsX8_back wsX8_tells := goodIn_r _ [33, 34, 35, 36, 37, 38, 39, 18, 40, 41, 42, 43, 44, 45, 46, 47, 48, 49, 50, 51, 52, 53, 54, 55, 56, 57, 58, 59, 60, 61, 62, 63, 64, 65, 66, 67, 68, 69, 70, 71, 72] (by decide +kernel) (by decide +kernel)
set_option maxRecDepth 20000 in
theorem gX8_back_X8_tells : GoodIn wsX8_back (wsV RX8 164 RX8 yX8_tells wsX8_tells) := goodIn_app (goodIn_of _ (by decide +kernel)) ggX8_back_X8_tells
theorem dX8_back_0 : decode cX8_back 0 = .ok (.aload_n 0, 1) := by decide +kernel
theorem dX8_back_1 : decode cX8_back 1 = .ok (.iconst 0, 1) := by decide +kernel
theorem dX8_back_2 : decode cX8_back 2 = .ok (.putfield 61, 3) := by decide +kernel
theorem dX8_back_5 : decode cX8_back 5 = .ok (.aload_n 0, 1) := by decide +kernel
theorem dX8_back_6 : decode cX8_back 6 = .ok (.getfield 108, 3) := by decide +kernel
theorem dX8_back_9 : decode cX8_back 9 = .ok (.iconst 1, 1) := by decide +kernel
theorem dX8_back_10 : decode cX8_back 10 = .ok (.if_icmp .ne 10, 3) := by decide +kernel
theorem dX8_back_13 : decode cX8_back 13 = .ok (.lload_n 1, 1) := by decide +kernel
theorem dX8_back_14 : decode cX8_back 14 = .ok (.invokestatic 150, 3) := by decide +kernel
theorem dX8_back_17 : decode cX8_back 17 = .ok (.ifCond .ne 5, 3) := by decide +kernel
theorem dX8_back_20 : decode cX8_back 20 = .ok (.iconst (-1), 1) := by decide +kernel
theorem dX8_back_21 : decode cX8_back 21 = .ok (.ireturn, 1) := by decide +kernel
theorem dX8_back_22 : decode cX8_back 22 = .ok (.aload_n 0, 1) := by decide +kernel
theorem dX8_back_23 : decode cX8_back 23 = .ok (.lload_n 1, 1) := by decide +kernel
theorem dX8_back_24 : decode cX8_back 24 = .ok (.iconst 0, 1) := by decide +kernel
theorem dX8_back_25 : decode cX8_back 25 = .ok (.invokevirtual 219, 3) := by decide +kernel
theorem dX8_back_28 : decode cX8_back 28 = .ok (.istore_n 3, 1) := by decide +kernel
theorem dX8_back_29 : decode cX8_back 29 = .ok (.aload_n 0, 1) := by decide +kernel
theorem dX8_back_30 : decode cX8_back 30 = .ok (.iload_n 3, 1) := by decide +kernel
theorem dX8_back_31 : decode cX8_back 31 = .ok (.invokevirtual 208, 3) := by decide +kernel
theorem dX8_back_34 : decode cX8_back 34 = .ok (.aload_n 0, 1) := by decide +kernel
theorem dX8_back_35 : decode cX8_back 35 = .ok (.iload_n 3, 1) := by decide +kernel
theorem dX8_back_36 : decode cX8_back 36 = .ok (.invokevirtual 164, 3) := by decide +kernel
theorem dX8_back_39 : decode cX8_back 39 = .ok (.iload_n 3, 1) := by decide +kernel
theorem dX8_back_40 : decode cX8_back 40 = .ok (.ireturn, 1) := by decide +kernel
set_option maxRecDepth 20000 in
theorem ggX8_whole_X8_isNumber : GoodIn wsX8_whole wsX8_isNumber := goodIn_r _ [8, 9, 10, 11, 12, 7, 13] (by decide +kernel) (by decide +kernel)
set_option maxRecDepth 20000 in
theorem gX8_whole_X8_isNumber : GoodIn wsX8_whole (va_wsS RX8 150 yX8_isNumber wsX8_isNumber) := goodIn_app (goodIn_of _ (by decide +kernel)) ggX8_whole_X8_isNumber
theorem dX8_whole_0 : decode cX8_whole 0 = .ok (.aload_n 0, 1) := by decide +kernel
theorem dX8_whole_1 : decode cX8_whole 1 = .ok (.iconst 0, 1) := by decide +kernel
theorem dX8_whole_2 : decode cX8_whole 2 = .ok (.putfield 61, 3) := by decide +kernel
theorem dX8_whole_5 : decode cX8_whole 5 = .ok (.lconst 0, 1) := by decide +kernel
theorem dX8_whole_6 : decode cX8_whole 6 = .ok (.lstore_n 3, 1) := by decide +kernel
theorem dX8_whole_7 : decode cX8_whole 7 = .ok (.iconst 0, 1) := by decide +kernel
theorem dX8_whole_8 : decode cX8_whole 8 = .ok (.istore 5, 2) := by decide +kernel
theorem dX8_whole_10 : decode cX8_whole 10 = .ok (.iload 5, 2) := by decide +kernel
theorem dX8_whole_12 : decode cX8_whole 12 = .ok (.aload_n 0, 1) := by decide +kernel
theorem dX8_whole_13 : decode cX8_whole 13 = .ok (.getfield 105, 3) := by decide +kernel
theorem dX8_whole_16 : decode cX8_whole 16 = .ok (.if_icmp .ge 77, 3) := by decide +kernel
theorem dX8_whole_19 : decode cX8_whole 19 = .ok (.aload_n 0, 1) := by decide +kernel
theorem dX8_whole_20 : decode cX8_whole 20 = .ok (.getfield 108, 3) := by decide +kernel
theorem dX8_whole_23 : decode cX8_whole 23 = .ok (.iconst 1, 1) := by decide +kernel
theorem dX8_whole_24 : decode cX8_whole 24 = .ok (.if_icmp .ne 69, 3) := by decide +kernel
theorem dX8_whole_27 : decode cX8_whole 27 = .ok (.lload_n 1, 1) := by decide +kernel
theorem dX8_whole_28 : decode cX8_whole 28 = .ok (.invokestatic 150, 3) := by decide +kernel
theorem dX8_whole_31 : decode cX8_whole 31 = .ok (.ifCond .eq 62, 3) := by decide +kernel
theorem dX8_whole_34 : decode cX8_whole 34 = .ok (.lload_n 3, 1) := by decide +kernel
theorem dX8_whole_35 : decode cX8_whole 35 = .ok (.aload_n 0, 1) := by decide +kernel
theorem dX8_whole_36 : decode cX8_whole 36 = .ok (.getfield 20, 3) := by decide +kernel
theorem dX8_whole_39 : decode cX8_whole 39 = .ok (.iconst 3, 1) := by decide +kernel
theorem dX8_whole_40 : decode cX8_whole 40 = .ok (.iload 5, 2) := by decide +kernel
theorem dX8_whole_42 : decode cX8_whole 42 = .ok (.imul, 1) := by decide +kernel
theorem dX8_whole_43 : decode cX8_whole 43 = .ok (.laload, 1) := by decide +kernel
theorem dX8_whole_44 : decode cX8_whole 44 = .ok (.lconst 0, 1) := by decide +kernel
theorem dX8_whole_45 : decode cX8_whole 45 = .ok (.lcmp, 1) := by decide +kernel
theorem dX8_whole_46 : decode cX8_whole 46 = .ok (.ifCond .ne 38, 3) := by decide +kernel
theorem dX8_whole_49 : decode cX8_whole 49 = .ok (.aload_n 0, 1) := by decide +kernel
theorem dX8_whole_50 : decode cX8_whole 50 = .ok (.getfield 20, 3) := by decide +kernel
theorem dX8_whole_53 : decode cX8_whole 53 = .ok (.iconst 3, 1) := by decide +kernel
theorem dX8_whole_54 : decode cX8_whole 54 = .ok (.iload 5, 2) := by decide +kernel
theorem dX8_whole_56 : decode cX8_whole 56 = .ok (.imul, 1) := by decide +kernel
theorem dX8_whole_57 : decode cX8_whole 57 = .ok (.iconst 1, 1) := by decide +kernel
theorem dX8_whole_58 : decode cX8_whole 58 = .ok (.iadd, 1) := by decide +kernel
theorem dX8_whole_59 : decode cX8_whole 59 = .ok (.laload, 1) := by decide +kernel
theorem dX8_whole_60 : decode cX8_whole 60 = .ok (.aload_n 0, 1) := by decide +kernel
theorem dX8_whole_61 : decode cX8_whole 61 = .ok (.getfield 20, 3) := by decide +kernel
theorem dX8_whole_64 : decode cX8_whole 64 = .ok (.iconst 3, 1) := by decide +kernel
theorem dX8_whole_65 : decode cX8_whole 65 = .ok (.iload 5, 2) := by decide +kernel
theorem dX8_whole_67 : decode cX8_whole 67 = .ok (.imul, 1) := by decide +kernel
theorem dX8_whole_68 : decode cX8_whole 68 = .ok (.iconst 2, 1) := by decide +kernel
theorem dX8_whole_69 : decode cX8_whole 69 = .ok (.iadd, 1) := by decide +kernel
theorem dX8_whole_70 : decode cX8_whole 70 = .ok (.laload, 1) := by decide +kernel
theorem dX8_whole_71 : decode cX8_whole 71 = .ok (.ldiv, 1) := by decide +kernel
theorem dX8_whole_72 : decode cX8_whole 72 = .ok (.lload_n 1, 1) := by decide +kernel
theorem dX8_whole_73 : decode cX8_whole 73 = .ok (.lcmp, 1) := by decide +kernel
theorem dX8_whole_74 : decode cX8_whole 74 = .ok (.ifCond .ne 10, 3) := by decide +kernel
theorem dX8_whole_77 : decode cX8_whole 77 = .ok (.lconst 1, 1) := by decide +kernel
theorem dX8_whole_78 : decode cX8_whole 78 = .ok (.iload 5, 2) := by decide +kernel
theorem dX8_whole_80 : decode cX8_whole 80 = .ok (.lshl, 1) := by decide +kernel
theorem dX8_whole_81 : decode cX8_whole 81 = .ok (.goto 4, 3) := by decide +kernel
theorem dX8_whole_84 : decode cX8_whole 84 = .ok (.lconst 0, 1) := by decide +kernel
theorem dX8_whole_85 : decode cX8_whole 85 = .ok (.lor, 1) := by decide +kernel
theorem dX8_whole_86 : decode cX8_whole 86 = .ok (.lstore_n 3, 1) := by decide +kernel
theorem dX8_whole_87 : decode cX8_whole 87 = .ok (.iinc 5 1, 3) := by decide +kernel
theorem dX8_whole_90 : decode cX8_whole 90 = .ok (.goto (-80), 3) := by decide +kernel
theorem dX8_whole_93 : decode cX8_whole 93 = .ok (.lload_n 3, 1) := by decide +kernel
theorem dX8_whole_94 : decode cX8_whole 94 = .ok (.lreturn, 1) := by decide +kernel
set_option maxRecDepth 20000 in
theorem ggX8_backs_X8_isNumber : GoodIn wsX8_backs wsX8_isNumber := goodIn_r _ [9, 10, 11, 12, 13, 8, 14] (by decide +kernel) (by decide +kernel)
set_option maxRecDepth 20000 in
theorem gX8_backs_X8_isNumber : GoodIn wsX8_backs (va_wsS RX8 150 yX8_isNumber wsX8_isNumber) := goodIn_app (goodIn_of _ (by decide +kernel)) ggX8_backs_X8_isNumber
set_option maxRecDepth 20000 in
theorem ggX8_backs_X8_in : GoodIn wsX8_backs wsX8_in := goodIn_r _ [14] (by decide +kernel) (by decide +kernel)
set_option maxRecDepth 20000 in
theorem gX8_backs_X8_in : GoodIn wsX8_backs (va_wsS RX8 68 yX8_in wsX8_in) := goodIn_app (goodIn_of _ (by decide +kernel)) ggX8_backs_X8_in
set_option maxRecDepth 20000 in
theorem ggX8_backs_X8_backOf : GoodIn wsX8_backs wsX8_backOf := goodIn_ca (goodIn_r _ [18, 19, 20, 5, 6, 7, 8, 9, 10, 11, 12, 13, 14, 21, 22, 23, 24, 25, 26, 27, 28, 29, 30, 31, 32, 33, 34, 35, 36, 37, 38, 39, 40, 41, 42, 43, 44, 45, 46, 47, 48, 49, 50, 51, 52, 53, 54, 55, 56, 57, 58, 59, 60] (by decide +kernel) (by decide +kernel)) (goodIn_sub (fun _ h => List.mem_cons_of_mem _ (List.mem_append_right _ h)) (by decide +kernel))
set_option maxRecDepth 20000 in
theorem gX8_backs_X8_backOf : GoodIn wsX8_backs (wsV RX8 219 RX8 yX8_backOf wsX8_backOf) := goodIn_app (goodIn_of _ (by decide +kernel)) ggX8_backs_X8_backOf
theorem dX8_backs_0 : decode cX8_backs 0 = .ok (.aload_n 0, 1) := by decide +kernel
theorem dX8_backs_1 : decode cX8_backs 1 = .ok (.iconst 0, 1) := by decide +kernel
theorem dX8_backs_2 : decode cX8_backs 2 = .ok (.putfield 61, 3) := by decide +kernel
theorem dX8_backs_5 : decode cX8_backs 5 = .ok (.aload_n 0, 1) := by decide +kernel
theorem dX8_backs_6 : decode cX8_backs 6 = .ok (.getfield 108, 3) := by decide +kernel
theorem dX8_backs_9 : decode cX8_backs 9 = .ok (.iconst 1, 1) := by decide +kernel
theorem dX8_backs_10 : decode cX8_backs 10 = .ok (.if_icmp .ne 22, 3) := by decide +kernel
theorem dX8_backs_13 : decode cX8_backs 13 = .ok (.lload_n 1, 1) := by decide +kernel
theorem dX8_backs_14 : decode cX8_backs 14 = .ok (.invokestatic 150, 3) := by decide +kernel
theorem dX8_backs_17 : decode cX8_backs 17 = .ok (.ifCond .eq 15, 3) := by decide +kernel
theorem dX8_backs_20 : decode cX8_backs 20 = .ok (.iload_n 3, 1) := by decide +kernel
theorem dX8_backs_21 : decode cX8_backs 21 = .ok (.i2l, 1) := by decide +kernel
theorem dX8_backs_22 : decode cX8_backs 22 = .ok (.lconst 0, 1) := by decide +kernel
theorem dX8_backs_23 : decode cX8_backs 23 = .ok (.ldc2_w 223, 3) := by decide +kernel
theorem dX8_backs_26 : decode cX8_backs 26 = .ok (.invokestatic 68, 3) := by decide +kernel
theorem dX8_backs_29 : decode cX8_backs 29 = .ok (.ifCond .ne 5, 3) := by decide +kernel
theorem dX8_backs_32 : decode cX8_backs 32 = .ok (.iconst (-1), 1) := by decide +kernel
theorem dX8_backs_33 : decode cX8_backs 33 = .ok (.ireturn, 1) := by decide +kernel
theorem dX8_backs_34 : decode cX8_backs 34 = .ok (.aload_n 0, 1) := by decide +kernel
theorem dX8_backs_35 : decode cX8_backs 35 = .ok (.getfield 48, 3) := by decide +kernel
theorem dX8_backs_38 : decode cX8_backs 38 = .ok (.iconst 0, 1) := by decide +kernel
theorem dX8_backs_39 : decode cX8_backs 39 = .ok (.lload_n 1, 1) := by decide +kernel
theorem dX8_backs_40 : decode cX8_backs 40 = .ok (.lastore, 1) := by decide +kernel
theorem dX8_backs_41 : decode cX8_backs 41 = .ok (.iconst 1, 1) := by decide +kernel
theorem dX8_backs_42 : decode cX8_backs 42 = .ok (.istore 4, 2) := by decide +kernel
theorem dX8_backs_44 : decode cX8_backs 44 = .ok (.iconst 0, 1) := by decide +kernel
theorem dX8_backs_45 : decode cX8_backs 45 = .ok (.istore 5, 2) := by decide +kernel
theorem dX8_backs_47 : decode cX8_backs 47 = .ok (.iload 5, 2) := by decide +kernel
theorem dX8_backs_49 : decode cX8_backs 49 = .ok (.iload_n 3, 1) := by decide +kernel
theorem dX8_backs_50 : decode cX8_backs 50 = .ok (.if_icmp .ge 88, 3) := by decide +kernel
theorem dX8_backs_53 : decode cX8_backs 53 = .ok (.iconst 0, 1) := by decide +kernel
theorem dX8_backs_54 : decode cX8_backs 54 = .ok (.istore 6, 2) := by decide +kernel
theorem dX8_backs_56 : decode cX8_backs 56 = .ok (.iconst 0, 1) := by decide +kernel
theorem dX8_backs_57 : decode cX8_backs 57 = .ok (.istore 7, 2) := by decide +kernel
theorem dX8_backs_59 : decode cX8_backs 59 = .ok (.iload 7, 2) := by decide +kernel
theorem dX8_backs_61 : decode cX8_backs 61 = .ok (.iload 4, 2) := by decide +kernel
theorem dX8_backs_63 : decode cX8_backs 63 = .ok (.if_icmp .ge 35, 3) := by decide +kernel
theorem dX8_backs_66 : decode cX8_backs 66 = .ok (.aload_n 0, 1) := by decide +kernel
theorem dX8_backs_67 : decode cX8_backs 67 = .ok (.aload_n 0, 1) := by decide +kernel
theorem dX8_backs_68 : decode cX8_backs 68 = .ok (.getfield 48, 3) := by decide +kernel
theorem dX8_backs_71 : decode cX8_backs 71 = .ok (.iload 7, 2) := by decide +kernel
theorem dX8_backs_73 : decode cX8_backs 73 = .ok (.laload, 1) := by decide +kernel
theorem dX8_backs_74 : decode cX8_backs 74 = .ok (.iload 6, 2) := by decide +kernel
theorem dX8_backs_76 : decode cX8_backs 76 = .ok (.invokevirtual 219, 3) := by decide +kernel
theorem dX8_backs_79 : decode cX8_backs 79 = .ok (.istore 6, 2) := by decide +kernel
theorem dX8_backs_81 : decode cX8_backs 81 = .ok (.iload 6, 2) := by decide +kernel
theorem dX8_backs_83 : decode cX8_backs 83 = .ok (.sipush 1000, 3) := by decide +kernel
theorem dX8_backs_86 : decode cX8_backs 86 = .ok (.if_icmp .le 6, 3) := by decide +kernel
theorem dX8_backs_89 : decode cX8_backs 89 = .ok (.bipush (-2), 2) := by decide +kernel
theorem dX8_backs_91 : decode cX8_backs 91 = .ok (.ireturn, 1) := by decide +kernel
theorem dX8_backs_92 : decode cX8_backs 92 = .ok (.iinc 7 1, 3) := by decide +kernel
theorem dX8_backs_95 : decode cX8_backs 95 = .ok (.goto (-36), 3) := by decide +kernel
theorem dX8_backs_98 : decode cX8_backs 98 = .ok (.iconst 0, 1) := by decide +kernel
theorem dX8_backs_99 : decode cX8_backs 99 = .ok (.istore 7, 2) := by decide +kernel
theorem dX8_backs_101 : decode cX8_backs 101 = .ok (.iload 7, 2) := by decide +kernel
theorem dX8_backs_103 : decode cX8_backs 103 = .ok (.iload 6, 2) := by decide +kernel
theorem dX8_backs_105 : decode cX8_backs 105 = .ok (.if_icmp .ge 23, 3) := by decide +kernel
theorem dX8_backs_108 : decode cX8_backs 108 = .ok (.aload_n 0, 1) := by decide +kernel
theorem dX8_backs_109 : decode cX8_backs 109 = .ok (.getfield 48, 3) := by decide +kernel
theorem dX8_backs_112 : decode cX8_backs 112 = .ok (.iload 7, 2) := by decide +kernel
theorem dX8_backs_114 : decode cX8_backs 114 = .ok (.aload_n 0, 1) := by decide +kernel
theorem dX8_backs_115 : decode cX8_backs 115 = .ok (.getfield 32, 3) := by decide +kernel
theorem dX8_backs_118 : decode cX8_backs 118 = .ok (.iload 7, 2) := by decide +kernel
theorem dX8_backs_120 : decode cX8_backs 120 = .ok (.laload, 1) := by decide +kernel
theorem dX8_backs_121 : decode cX8_backs 121 = .ok (.lastore, 1) := by decide +kernel
theorem dX8_backs_122 : decode cX8_backs 122 = .ok (.iinc 7 1, 3) := by decide +kernel
theorem dX8_backs_125 : decode cX8_backs 125 = .ok (.goto (-24), 3) := by decide +kernel
theorem dX8_backs_128 : decode cX8_backs 128 = .ok (.iload 6, 2) := by decide +kernel
theorem dX8_backs_130 : decode cX8_backs 130 = .ok (.istore 4, 2) := by decide +kernel
theorem dX8_backs_132 : decode cX8_backs 132 = .ok (.iinc 5 1, 3) := by decide +kernel
theorem dX8_backs_135 : decode cX8_backs 135 = .ok (.goto (-88), 3) := by decide +kernel
theorem dX8_backs_138 : decode cX8_backs 138 = .ok (.iload 4, 2) := by decide +kernel
theorem dX8_backs_140 : decode cX8_backs 140 = .ok (.ireturn, 1) := by decide +kernel
theorem dX8_gap_0 : decode cX8_gap 0 = .ok (.aload_n 0, 1) := by decide +kernel
theorem dX8_gap_1 : decode cX8_gap 1 = .ok (.getfield 20, 3) := by decide +kernel
theorem dX8_gap_4 : decode cX8_gap 4 = .ok (.iconst 3, 1) := by decide +kernel
theorem dX8_gap_5 : decode cX8_gap 5 = .ok (.iload_n 1, 1) := by decide +kernel
theorem dX8_gap_6 : decode cX8_gap 6 = .ok (.imul, 1) := by decide +kernel
theorem dX8_gap_7 : decode cX8_gap 7 = .ok (.laload, 1) := by decide +kernel
theorem dX8_gap_8 : decode cX8_gap 8 = .ok (.aload_n 0, 1) := by decide +kernel
theorem dX8_gap_9 : decode cX8_gap 9 = .ok (.getfield 105, 3) := by decide +kernel
theorem dX8_gap_12 : decode cX8_gap 12 = .ok (.i2l, 1) := by decide +kernel
theorem dX8_gap_13 : decode cX8_gap 13 = .ok (.lmul, 1) := by decide +kernel
theorem dX8_gap_14 : decode cX8_gap 14 = .ok (.aload_n 0, 1) := by decide +kernel
theorem dX8_gap_15 : decode cX8_gap 15 = .ok (.getfield 20, 3) := by decide +kernel
theorem dX8_gap_18 : decode cX8_gap 18 = .ok (.iconst 3, 1) := by decide +kernel
theorem dX8_gap_19 : decode cX8_gap 19 = .ok (.iload_n 1, 1) := by decide +kernel
theorem dX8_gap_20 : decode cX8_gap 20 = .ok (.imul, 1) := by decide +kernel
theorem dX8_gap_21 : decode cX8_gap 21 = .ok (.iconst 2, 1) := by decide +kernel
theorem dX8_gap_22 : decode cX8_gap 22 = .ok (.iadd, 1) := by decide +kernel
theorem dX8_gap_23 : decode cX8_gap 23 = .ok (.laload, 1) := by decide +kernel
theorem dX8_gap_24 : decode cX8_gap 24 = .ok (.ldiv, 1) := by decide +kernel
theorem dX8_gap_25 : decode cX8_gap 25 = .ok (.lstore_n 2, 1) := by decide +kernel
theorem dX8_gap_26 : decode cX8_gap 26 = .ok (.lload_n 2, 1) := by decide +kernel
theorem dX8_gap_27 : decode cX8_gap 27 = .ok (.lconst 0, 1) := by decide +kernel
theorem dX8_gap_28 : decode cX8_gap 28 = .ok (.lcmp, 1) := by decide +kernel
theorem dX8_gap_29 : decode cX8_gap 29 = .ok (.ifCond .ge 8, 3) := by decide +kernel
theorem dX8_gap_32 : decode cX8_gap 32 = .ok (.lload_n 2, 1) := by decide +kernel
theorem dX8_gap_33 : decode cX8_gap 33 = .ok (.lneg, 1) := by decide +kernel
theorem dX8_gap_34 : decode cX8_gap 34 = .ok (.goto 4, 3) := by decide +kernel
theorem dX8_gap_37 : decode cX8_gap 37 = .ok (.lload_n 2, 1) := by decide +kernel
theorem dX8_gap_38 : decode cX8_gap 38 = .ok (.lreturn, 1) := by decide +kernel
theorem dX8_first_0 : decode cX8_first 0 = .ok (.aload_n 0, 1) := by decide +kernel
theorem dX8_first_1 : decode cX8_first 1 = .ok (.getfield 20, 3) := by decide +kernel
theorem dX8_first_4 : decode cX8_first 4 = .ok (.iconst 3, 1) := by decide +kernel
theorem dX8_first_5 : decode cX8_first 5 = .ok (.iload_n 1, 1) := by decide +kernel
theorem dX8_first_6 : decode cX8_first 6 = .ok (.imul, 1) := by decide +kernel
theorem dX8_first_7 : decode cX8_first 7 = .ok (.laload, 1) := by decide +kernel
theorem dX8_first_8 : decode cX8_first 8 = .ok (.iload_n 1, 1) := by decide +kernel
theorem dX8_first_9 : decode cX8_first 9 = .ok (.i2l, 1) := by decide +kernel
theorem dX8_first_10 : decode cX8_first 10 = .ok (.lmul, 1) := by decide +kernel
theorem dX8_first_11 : decode cX8_first 11 = .ok (.aload_n 0, 1) := by decide +kernel
theorem dX8_first_12 : decode cX8_first 12 = .ok (.getfield 20, 3) := by decide +kernel
theorem dX8_first_15 : decode cX8_first 15 = .ok (.iconst 3, 1) := by decide +kernel
theorem dX8_first_16 : decode cX8_first 16 = .ok (.iload_n 1, 1) := by decide +kernel
theorem dX8_first_17 : decode cX8_first 17 = .ok (.imul, 1) := by decide +kernel
theorem dX8_first_18 : decode cX8_first 18 = .ok (.iconst 1, 1) := by decide +kernel
theorem dX8_first_19 : decode cX8_first 19 = .ok (.iadd, 1) := by decide +kernel
theorem dX8_first_20 : decode cX8_first 20 = .ok (.laload, 1) := by decide +kernel
theorem dX8_first_21 : decode cX8_first 21 = .ok (.ladd, 1) := by decide +kernel
theorem dX8_first_22 : decode cX8_first 22 = .ok (.aload_n 0, 1) := by decide +kernel
theorem dX8_first_23 : decode cX8_first 23 = .ok (.getfield 20, 3) := by decide +kernel
theorem dX8_first_26 : decode cX8_first 26 = .ok (.iconst 3, 1) := by decide +kernel
theorem dX8_first_27 : decode cX8_first 27 = .ok (.iload_n 1, 1) := by decide +kernel
theorem dX8_first_28 : decode cX8_first 28 = .ok (.imul, 1) := by decide +kernel
theorem dX8_first_29 : decode cX8_first 29 = .ok (.iconst 2, 1) := by decide +kernel
theorem dX8_first_30 : decode cX8_first 30 = .ok (.iadd, 1) := by decide +kernel
theorem dX8_first_31 : decode cX8_first 31 = .ok (.laload, 1) := by decide +kernel
theorem dX8_first_32 : decode cX8_first 32 = .ok (.ldiv, 1) := by decide +kernel
theorem dX8_first_33 : decode cX8_first 33 = .ok (.lreturn, 1) := by decide +kernel
set_option maxRecDepth 20000 in
theorem ggX8_measure_X8_gap : GoodIn wsX8_measure wsX8_gap := goodIn_ca (goodIn_r _ [13, 2, 1, 17, 18, 19, 20, 21, 22, 23, 24, 25, 26, 27, 28, 29, 30, 31, 32, 33, 34, 35, 36, 37, 38, 39, 40, 41, 42, 43, 44, 45, 46, 47, 48, 49] (by decide +kernel) (by decide +kernel)) (goodIn_sub (fun _ h => List.mem_cons_of_mem _ (List.mem_append_right _ h)) (by decide +kernel))
set_option maxRecDepth 20000 in
theorem gX8_measure_X8_gap : GoodIn wsX8_measure (wsV RX8 225 RX8 yX8_gap wsX8_gap) := goodIn_app (goodIn_of _ (by decide +kernel)) ggX8_measure_X8_gap
set_option maxRecDepth 20000 in
theorem ggX8_measure_X8_common : GoodIn wsX8_measure wsX8_common := goodIn_ca (goodIn_r _ [16] (by decide +kernel) (by decide +kernel)) (goodIn_sub (fun _ h => List.mem_cons_of_mem _ (List.mem_append_right _ h)) (by decide +kernel))
set_option maxRecDepth 20000 in
theorem gX8_measure_X8_common : GoodIn wsX8_measure (va_wsS RX8 114 yX8_common wsX8_common) := goodIn_app (goodIn_of _ (by decide +kernel)) ggX8_measure_X8_common
theorem dX8_measure_0 : decode cX8_measure 0 = .ok (.lconst 1, 1) := by decide +kernel
theorem dX8_measure_1 : decode cX8_measure 1 = .ok (.lstore_n 1, 1) := by decide +kernel
theorem dX8_measure_2 : decode cX8_measure 2 = .ok (.iconst 0, 1) := by decide +kernel
theorem dX8_measure_3 : decode cX8_measure 3 = .ok (.istore_n 3, 1) := by decide +kernel
theorem dX8_measure_4 : decode cX8_measure 4 = .ok (.iload_n 3, 1) := by decide +kernel
theorem dX8_measure_5 : decode cX8_measure 5 = .ok (.aload_n 0, 1) := by decide +kernel
theorem dX8_measure_6 : decode cX8_measure 6 = .ok (.getfield 105, 3) := by decide +kernel
theorem dX8_measure_9 : decode cX8_measure 9 = .ok (.if_icmp .ge 24, 3) := by decide +kernel
theorem dX8_measure_12 : decode cX8_measure 12 = .ok (.aload_n 0, 1) := by decide +kernel
theorem dX8_measure_13 : decode cX8_measure 13 = .ok (.getfield 20, 3) := by decide +kernel
theorem dX8_measure_16 : decode cX8_measure 16 = .ok (.iconst 3, 1) := by decide +kernel
theorem dX8_measure_17 : decode cX8_measure 17 = .ok (.iload_n 3, 1) := by decide +kernel
theorem dX8_measure_18 : decode cX8_measure 18 = .ok (.imul, 1) := by decide +kernel
theorem dX8_measure_19 : decode cX8_measure 19 = .ok (.laload, 1) := by decide +kernel
theorem dX8_measure_20 : decode cX8_measure 20 = .ok (.lconst 0, 1) := by decide +kernel
theorem dX8_measure_21 : decode cX8_measure 21 = .ok (.lcmp, 1) := by decide +kernel
theorem dX8_measure_22 : decode cX8_measure 22 = .ok (.ifCond .ne 5, 3) := by decide +kernel
theorem dX8_measure_25 : decode cX8_measure 25 = .ok (.iconst 0, 1) := by decide +kernel
theorem dX8_measure_26 : decode cX8_measure 26 = .ok (.ireturn, 1) := by decide +kernel
theorem dX8_measure_27 : decode cX8_measure 27 = .ok (.iinc 3 1, 3) := by decide +kernel
theorem dX8_measure_30 : decode cX8_measure 30 = .ok (.goto (-26), 3) := by decide +kernel
theorem dX8_measure_33 : decode cX8_measure 33 = .ok (.iconst 0, 1) := by decide +kernel
theorem dX8_measure_34 : decode cX8_measure 34 = .ok (.istore_n 3, 1) := by decide +kernel
theorem dX8_measure_35 : decode cX8_measure 35 = .ok (.iload_n 3, 1) := by decide +kernel
theorem dX8_measure_36 : decode cX8_measure 36 = .ok (.aload_n 0, 1) := by decide +kernel
theorem dX8_measure_37 : decode cX8_measure 37 = .ok (.getfield 105, 3) := by decide +kernel
theorem dX8_measure_40 : decode cX8_measure 40 = .ok (.if_icmp .ge 35, 3) := by decide +kernel
theorem dX8_measure_43 : decode cX8_measure 43 = .ok (.lload_n 1, 1) := by decide +kernel
theorem dX8_measure_44 : decode cX8_measure 44 = .ok (.ldc2_w 157, 3) := by decide +kernel
theorem dX8_measure_47 : decode cX8_measure 47 = .ok (.lcmp, 1) := by decide +kernel
theorem dX8_measure_48 : decode cX8_measure 48 = .ok (.ifCond .gt 27, 3) := by decide +kernel
theorem dX8_measure_51 : decode cX8_measure 51 = .ok (.lload_n 1, 1) := by decide +kernel
theorem dX8_measure_52 : decode cX8_measure 52 = .ok (.lload_n 1, 1) := by decide +kernel
theorem dX8_measure_53 : decode cX8_measure 53 = .ok (.aload_n 0, 1) := by decide +kernel
theorem dX8_measure_54 : decode cX8_measure 54 = .ok (.iload_n 3, 1) := by decide +kernel
theorem dX8_measure_55 : decode cX8_measure 55 = .ok (.invokevirtual 225, 3) := by decide +kernel
theorem dX8_measure_58 : decode cX8_measure 58 = .ok (.invokestatic 114, 3) := by decide +kernel
theorem dX8_measure_61 : decode cX8_measure 61 = .ok (.ldiv, 1) := by decide +kernel
theorem dX8_measure_62 : decode cX8_measure 62 = .ok (.aload_n 0, 1) := by decide +kernel
theorem dX8_measure_63 : decode cX8_measure 63 = .ok (.iload_n 3, 1) := by decide +kernel
theorem dX8_measure_64 : decode cX8_measure 64 = .ok (.invokevirtual 225, 3) := by decide +kernel
theorem dX8_measure_67 : decode cX8_measure 67 = .ok (.lmul, 1) := by decide +kernel
theorem dX8_measure_68 : decode cX8_measure 68 = .ok (.lstore_n 1, 1) := by decide +kernel
theorem dX8_measure_69 : decode cX8_measure 69 = .ok (.iinc 3 1, 3) := by decide +kernel
theorem dX8_measure_72 : decode cX8_measure 72 = .ok (.goto (-37), 3) := by decide +kernel
theorem dX8_measure_75 : decode cX8_measure 75 = .ok (.lload_n 1, 1) := by decide +kernel
theorem dX8_measure_76 : decode cX8_measure 76 = .ok (.ldc2_w 228, 3) := by decide +kernel
theorem dX8_measure_79 : decode cX8_measure 79 = .ok (.invokestatic 196, 3) := by decide +kernel
theorem dX8_measure_82 : decode cX8_measure 82 = .ok (.l2i, 1) := by decide +kernel
theorem dX8_measure_83 : decode cX8_measure 83 = .ok (.ireturn, 1) := by decide +kernel
set_option maxRecDepth 20000 in
theorem ggX8_both_X8_measure : GoodIn wsX8_both wsX8_measure := goodIn_ca (goodIn_r _ [10, 5, 11, 12, 13, 14, 15, 16, 17, 18, 19, 20, 9, 21, 22, 23, 24, 33, 34, 35, 36, 37, 38, 39, 40, 41, 42, 43, 44, 45, 46, 47, 48, 49, 50, 51, 52, 53, 54, 55, 56, 57, 58, 59, 60, 61, 62, 63, 64, 65] (by decide +kernel) (by decide +kernel)) (goodIn_sub (fun _ h => List.mem_cons_of_mem _ (List.mem_append_right _ h)) (by decide +kernel))
set_option maxRecDepth 20000 in
theorem gX8_both_X8_measure : GoodIn wsX8_both (wsV RX8 230 RX8 yX8_measure wsX8_measure) := goodIn_app (goodIn_of _ (by decide +kernel)) ggX8_both_X8_measure
set_option maxRecDepth 20000 in
theorem ggX8_both_X8_gap : GoodIn wsX8_both wsX8_gap := goodIn_ca (goodIn_r _ [21, 11, 5, 33, 34, 35, 36, 37, 38, 39, 40, 41, 42, 43, 44, 45, 46, 47, 48, 49, 50, 51, 52, 53, 54, 55, 56, 57, 58, 59, 60, 61, 62, 63, 64, 65] (by decide +kernel) (by decide +kernel)) (goodIn_sub (fun _ h => List.mem_cons_of_mem _ (List.mem_append_right _ h)) (by decide +kernel))
set_option maxRecDepth 20000 in
theorem gX8_both_X8_gap : GoodIn wsX8_both (wsV RX8 225 RX8 yX8_gap wsX8_gap) := goodIn_app (goodIn_of _ (by decide +kernel)) ggX8_both_X8_gap
set_option maxRecDepth 20000 in
theorem ggX8_both_X8_first : GoodIn wsX8_both wsX8_first := goodIn_ca (goodIn_r _ [28, 11, 33, 34, 35, 36, 37, 38, 39, 40, 41, 42, 43, 44, 45, 46, 47, 48, 49, 50, 51, 52, 53, 54, 55, 56, 57, 58, 59, 60, 61, 62, 63, 64, 65] (by decide +kernel) (by decide +kernel)) (goodIn_sub (fun _ h => List.mem_cons_of_mem _ (List.mem_append_right _ h)) (by decide +kernel))
set_option maxRecDepth 20000 in
theorem gX8_both_X8_first : GoodIn wsX8_both (wsV RX8 234 RX8 yX8_first wsX8_first) := goodIn_app (goodIn_of _ (by decide +kernel)) ggX8_both_X8_first
set_option maxRecDepth 20000 in
theorem ggX8_both_J9_floorMod_f86c9 : GoodIn wsX8_both wsJ9_floorMod_f86c9 := goodIn_r _ [32] (by decide +kernel) (by decide +kernel)
set_option maxRecDepth 20000 in
theorem gX8_both_J9_floorMod_f86c9 : GoodIn wsX8_both (va_wsS RX8 133 yJ9_floorMod_f86c9 wsJ9_floorMod_f86c9) := goodIn_app (goodIn_of _ (by decide +kernel)) ggX8_both_J9_floorMod_f86c9
theorem dX8_both_0 : decode cX8_both 0 = .ok (.aload_n 0, 1) := by decide +kernel
theorem dX8_both_1 : decode cX8_both 1 = .ok (.iconst 0, 1) := by decide +kernel
theorem dX8_both_2 : decode cX8_both 2 = .ok (.putfield 61, 3) := by decide +kernel
theorem dX8_both_5 : decode cX8_both 5 = .ok (.aload_n 0, 1) := by decide +kernel
theorem dX8_both_6 : decode cX8_both 6 = .ok (.getfield 108, 3) := by decide +kernel
theorem dX8_both_9 : decode cX8_both 9 = .ok (.iconst 1, 1) := by decide +kernel
theorem dX8_both_10 : decode cX8_both 10 = .ok (.if_icmp .eq 5, 3) := by decide +kernel
theorem dX8_both_13 : decode cX8_both 13 = .ok (.iconst (-1), 1) := by decide +kernel
theorem dX8_both_14 : decode cX8_both 14 = .ok (.ireturn, 1) := by decide +kernel
theorem dX8_both_15 : decode cX8_both 15 = .ok (.aload_n 0, 1) := by decide +kernel
theorem dX8_both_16 : decode cX8_both 16 = .ok (.invokevirtual 230, 3) := by decide +kernel
theorem dX8_both_19 : decode cX8_both 19 = .ok (.istore_n 1, 1) := by decide +kernel
theorem dX8_both_20 : decode cX8_both 20 = .ok (.iload_n 1, 1) := by decide +kernel
theorem dX8_both_21 : decode cX8_both 21 = .ok (.ifCond .ne 5, 3) := by decide +kernel
theorem dX8_both_24 : decode cX8_both 24 = .ok (.iconst 0, 1) := by decide +kernel
theorem dX8_both_25 : decode cX8_both 25 = .ok (.ireturn, 1) := by decide +kernel
theorem dX8_both_26 : decode cX8_both 26 = .ok (.iload_n 1, 1) := by decide +kernel
theorem dX8_both_27 : decode cX8_both 27 = .ok (.ldc 51, 2) := by decide +kernel
theorem dX8_both_29 : decode cX8_both 29 = .ok (.if_icmp .le 6, 3) := by decide +kernel
theorem dX8_both_32 : decode cX8_both 32 = .ok (.bipush (-2), 2) := by decide +kernel
theorem dX8_both_34 : decode cX8_both 34 = .ok (.ireturn, 1) := by decide +kernel
theorem dX8_both_35 : decode cX8_both 35 = .ok (.iconst 0, 1) := by decide +kernel
theorem dX8_both_36 : decode cX8_both 36 = .ok (.istore_n 2, 1) := by decide +kernel
theorem dX8_both_37 : decode cX8_both 37 = .ok (.iload_n 2, 1) := by decide +kernel
theorem dX8_both_38 : decode cX8_both 38 = .ok (.iload_n 1, 1) := by decide +kernel
theorem dX8_both_39 : decode cX8_both 39 = .ok (.if_icmp .ge 16, 3) := by decide +kernel
theorem dX8_both_42 : decode cX8_both 42 = .ok (.aload_n 0, 1) := by decide +kernel
theorem dX8_both_43 : decode cX8_both 43 = .ok (.getfield 52, 3) := by decide +kernel
theorem dX8_both_46 : decode cX8_both 46 = .ok (.iload_n 2, 1) := by decide +kernel
theorem dX8_both_47 : decode cX8_both 47 = .ok (.iconst 0, 1) := by decide +kernel
theorem dX8_both_48 : decode cX8_both 48 = .ok (.iastore, 1) := by decide +kernel
theorem dX8_both_49 : decode cX8_both 49 = .ok (.iinc 2 1, 3) := by decide +kernel
theorem dX8_both_52 : decode cX8_both 52 = .ok (.goto (-15), 3) := by decide +kernel
theorem dX8_both_55 : decode cX8_both 55 = .ok (.iconst 0, 1) := by decide +kernel
theorem dX8_both_56 : decode cX8_both 56 = .ok (.istore_n 2, 1) := by decide +kernel
theorem dX8_both_57 : decode cX8_both 57 = .ok (.iload_n 2, 1) := by decide +kernel
theorem dX8_both_58 : decode cX8_both 58 = .ok (.aload_n 0, 1) := by decide +kernel
theorem dX8_both_59 : decode cX8_both 59 = .ok (.getfield 105, 3) := by decide +kernel
theorem dX8_both_62 : decode cX8_both 62 = .ok (.if_icmp .ge 55, 3) := by decide +kernel
theorem dX8_both_65 : decode cX8_both 65 = .ok (.aload_n 0, 1) := by decide +kernel
theorem dX8_both_66 : decode cX8_both 66 = .ok (.iload_n 2, 1) := by decide +kernel
theorem dX8_both_67 : decode cX8_both 67 = .ok (.invokevirtual 225, 3) := by decide +kernel
theorem dX8_both_70 : decode cX8_both 70 = .ok (.l2i, 1) := by decide +kernel
theorem dX8_both_71 : decode cX8_both 71 = .ok (.istore_n 3, 1) := by decide +kernel
theorem dX8_both_72 : decode cX8_both 72 = .ok (.aload_n 0, 1) := by decide +kernel
theorem dX8_both_73 : decode cX8_both 73 = .ok (.iload_n 2, 1) := by decide +kernel
theorem dX8_both_74 : decode cX8_both 74 = .ok (.invokevirtual 234, 3) := by decide +kernel
theorem dX8_both_77 : decode cX8_both 77 = .ok (.iload_n 3, 1) := by decide +kernel
theorem dX8_both_78 : decode cX8_both 78 = .ok (.i2l, 1) := by decide +kernel
theorem dX8_both_79 : decode cX8_both 79 = .ok (.invokestatic 133, 3) := by decide +kernel
theorem dX8_both_82 : decode cX8_both 82 = .ok (.l2i, 1) := by decide +kernel
theorem dX8_both_83 : decode cX8_both 83 = .ok (.istore 4, 2) := by decide +kernel
theorem dX8_both_85 : decode cX8_both 85 = .ok (.iload 4, 2) := by decide +kernel
theorem dX8_both_87 : decode cX8_both 87 = .ok (.iload_n 1, 1) := by decide +kernel
theorem dX8_both_88 : decode cX8_both 88 = .ok (.if_icmp .ge 23, 3) := by decide +kernel
theorem dX8_both_91 : decode cX8_both 91 = .ok (.aload_n 0, 1) := by decide +kernel
theorem dX8_both_92 : decode cX8_both 92 = .ok (.getfield 52, 3) := by decide +kernel
theorem dX8_both_95 : decode cX8_both 95 = .ok (.iload 4, 2) := by decide +kernel
theorem dX8_both_97 : decode cX8_both 97 = .ok (.dup2, 1) := by decide +kernel
theorem dX8_both_98 : decode cX8_both 98 = .ok (.iaload, 1) := by decide +kernel
theorem dX8_both_99 : decode cX8_both 99 = .ok (.iconst 1, 1) := by decide +kernel
theorem dX8_both_100 : decode cX8_both 100 = .ok (.iadd, 1) := by decide +kernel
theorem dX8_both_101 : decode cX8_both 101 = .ok (.iastore, 1) := by decide +kernel
theorem dX8_both_102 : decode cX8_both 102 = .ok (.iload 4, 2) := by decide +kernel
theorem dX8_both_104 : decode cX8_both 104 = .ok (.iload_n 3, 1) := by decide +kernel
theorem dX8_both_105 : decode cX8_both 105 = .ok (.iadd, 1) := by decide +kernel
theorem dX8_both_106 : decode cX8_both 106 = .ok (.istore 4, 2) := by decide +kernel
theorem dX8_both_108 : decode cX8_both 108 = .ok (.goto (-23), 3) := by decide +kernel
theorem dX8_both_111 : decode cX8_both 111 = .ok (.iinc 2 1, 3) := by decide +kernel
theorem dX8_both_114 : decode cX8_both 114 = .ok (.goto (-57), 3) := by decide +kernel
theorem dX8_both_117 : decode cX8_both 117 = .ok (.iconst 0, 1) := by decide +kernel
theorem dX8_both_118 : decode cX8_both 118 = .ok (.istore_n 2, 1) := by decide +kernel
theorem dX8_both_119 : decode cX8_both 119 = .ok (.iload_n 2, 1) := by decide +kernel
theorem dX8_both_120 : decode cX8_both 120 = .ok (.iload_n 1, 1) := by decide +kernel
theorem dX8_both_121 : decode cX8_both 121 = .ok (.if_icmp .ge 21, 3) := by decide +kernel
theorem dX8_both_124 : decode cX8_both 124 = .ok (.aload_n 0, 1) := by decide +kernel
theorem dX8_both_125 : decode cX8_both 125 = .ok (.getfield 52, 3) := by decide +kernel
theorem dX8_both_128 : decode cX8_both 128 = .ok (.iload_n 2, 1) := by decide +kernel
theorem dX8_both_129 : decode cX8_both 129 = .ok (.iaload, 1) := by decide +kernel
theorem dX8_both_130 : decode cX8_both 130 = .ok (.iconst 1, 1) := by decide +kernel
theorem dX8_both_131 : decode cX8_both 131 = .ok (.if_icmp .eq 5, 3) := by decide +kernel
theorem dX8_both_134 : decode cX8_both 134 = .ok (.iconst 0, 1) := by decide +kernel
theorem dX8_both_135 : decode cX8_both 135 = .ok (.ireturn, 1) := by decide +kernel
theorem dX8_both_136 : decode cX8_both 136 = .ok (.iinc 2 1, 3) := by decide +kernel
theorem dX8_both_139 : decode cX8_both 139 = .ok (.goto (-20), 3) := by decide +kernel
theorem dX8_both_142 : decode cX8_both 142 = .ok (.iconst 1, 1) := by decide +kernel
theorem dX8_both_143 : decode cX8_both 143 = .ok (.ireturn, 1) := by decide +kernel
set_option maxRecDepth 20000 in
theorem ggX8_turn_X8_both : GoodIn wsX8_turn wsX8_both := goodIn_ca (goodIn_r _ [9, 1, 10, 11, 12, 4, 13, 14, 15, 8, 16, 2, 17, 18, 19, 20, 21, 22, 23, 24, 25, 26, 27, 28, 29, 30, 31, 32, 33, 34, 35, 36, 37, 46, 47, 48, 49, 50, 51, 52, 53, 54, 55, 56, 57, 58, 59, 60, 61, 62, 63, 64, 65, 66, 67, 68, 69, 70, 71, 72, 73, 74, 75, 76, 77, 78] (by decide +kernel) (by decide +kernel)) (goodIn_sub (fun _ h => List.mem_cons_of_mem _ (List.mem_append_right _ h)) (by decide +kernel))
set_option maxRecDepth 20000 in
theorem gX8_turn_X8_both : GoodIn wsX8_turn (wsV RX8 237 RX8 yX8_both wsX8_both) := goodIn_app (goodIn_of _ (by decide +kernel)) ggX8_turn_X8_both
set_option maxRecDepth 20000 in
theorem ggX8_turn_X8_measure : GoodIn wsX8_turn wsX8_measure := goodIn_ca (goodIn_r _ [16, 4, 2, 17, 18, 19, 20, 21, 22, 23, 24, 25, 8, 26, 27, 28, 29, 46, 47, 48, 49, 50, 51, 52, 53, 54, 55, 56, 57, 58, 59, 60, 61, 62, 63, 64, 65, 66, 67, 68, 69, 70, 71, 72, 73, 74, 75, 76, 77, 78] (by decide +kernel) (by decide +kernel)) (goodIn_sub (fun _ h => List.mem_cons_of_mem _ (List.mem_append_right _ h)) (by decide +kernel))
set_option maxRecDepth 20000 in
theorem gX8_turn_X8_measure : GoodIn wsX8_turn (wsV RX8 230 RX8 yX8_measure wsX8_measure) := goodIn_app (goodIn_of _ (by decide +kernel)) ggX8_turn_X8_measure
set_option maxRecDepth 20000 in
theorem ggX8_turn_X8_first : GoodIn wsX8_turn wsX8_first := goodIn_ca (goodIn_r _ [33, 2, 46, 47, 48, 49, 50, 51, 52, 53, 54, 55, 56, 57, 58, 59, 60, 61, 62, 63, 64, 65, 66, 67, 68, 69, 70, 71, 72, 73, 74, 75, 76, 77, 78] (by decide +kernel) (by decide +kernel)) (goodIn_sub (fun _ h => List.mem_cons_of_mem _ (List.mem_append_right _ h)) (by decide +kernel))
set_option maxRecDepth 20000 in
theorem gX8_turn_X8_first : GoodIn wsX8_turn (wsV RX8 234 RX8 yX8_first wsX8_first) := goodIn_app (goodIn_of _ (by decide +kernel)) ggX8_turn_X8_first
set_option maxRecDepth 20000 in
theorem ggX8_turn_X8_gap : GoodIn wsX8_turn wsX8_gap := goodIn_ca (goodIn_r _ [26, 2, 4, 46, 47, 48, 49, 50, 51, 52, 53, 54, 55, 56, 57, 58, 59, 60, 61, 62, 63, 64, 65, 66, 67, 68, 69, 70, 71, 72, 73, 74, 75, 76, 77, 78] (by decide +kernel) (by decide +kernel)) (goodIn_sub (fun _ h => List.mem_cons_of_mem _ (List.mem_append_right _ h)) (by decide +kernel))
set_option maxRecDepth 20000 in
theorem gX8_turn_X8_gap : GoodIn wsX8_turn (wsV RX8 225 RX8 yX8_gap wsX8_gap) := goodIn_app (goodIn_of _ (by decide +kernel)) ggX8_turn_X8_gap
set_option maxRecDepth 20000 in
theorem ggX8_turn_J9_floorMod_f86c9 : GoodIn wsX8_turn wsJ9_floorMod_f86c9 := goodIn_r _ [37] (by decide +kernel) (by decide +kernel)
set_option maxRecDepth 20000 in
theorem gX8_turn_J9_floorMod_f86c9 : GoodIn wsX8_turn (va_wsS RX8 133 yJ9_floorMod_f86c9 wsJ9_floorMod_f86c9) := goodIn_app (goodIn_of _ (by decide +kernel)) ggX8_turn_J9_floorMod_f86c9
set_option maxRecDepth 20000 in
theorem ggX8_turn_X8_common : GoodIn wsX8_turn wsX8_common := goodIn_ca (goodIn_r _ [29] (by decide +kernel) (by decide +kernel)) (goodIn_sub (fun _ h => List.mem_cons_of_mem _ (List.mem_append_right _ h)) (by decide +kernel))
set_option maxRecDepth 20000 in
theorem gX8_turn_X8_common : GoodIn wsX8_turn (va_wsS RX8 114 yX8_common wsX8_common) := goodIn_app (goodIn_of _ (by decide +kernel)) ggX8_turn_X8_common
set_option maxRecDepth 20000 in
theorem ggX8_turn_X8_isShare : GoodIn wsX8_turn wsX8_isShare := goodIn_r _ [40, 41, 42, 43, 44, 8, 45] (by decide +kernel) (by decide +kernel)
set_option maxRecDepth 20000 in
theorem gX8_turn_X8_isShare : GoodIn wsX8_turn (va_wsS RX8 102 yX8_isShare wsX8_isShare) := goodIn_app (goodIn_of _ (by decide +kernel)) ggX8_turn_X8_isShare
theorem dX8_turn_0 : decode cX8_turn 0 = .ok (.aload_n 0, 1) := by decide +kernel
theorem dX8_turn_1 : decode cX8_turn 1 = .ok (.iconst 0, 1) := by decide +kernel
theorem dX8_turn_2 : decode cX8_turn 2 = .ok (.putfield 61, 3) := by decide +kernel
theorem dX8_turn_5 : decode cX8_turn 5 = .ok (.aload_n 0, 1) := by decide +kernel
theorem dX8_turn_6 : decode cX8_turn 6 = .ok (.invokevirtual 237, 3) := by decide +kernel
theorem dX8_turn_9 : decode cX8_turn 9 = .ok (.iconst 1, 1) := by decide +kernel
theorem dX8_turn_10 : decode cX8_turn 10 = .ok (.if_icmp .ne 12, 3) := by decide +kernel
theorem dX8_turn_13 : decode cX8_turn 13 = .ok (.aload_n 0, 1) := by decide +kernel
theorem dX8_turn_14 : decode cX8_turn 14 = .ok (.invokevirtual 230, 3) := by decide +kernel
theorem dX8_turn_17 : decode cX8_turn 17 = .ok (.bipush 64, 2) := by decide +kernel
theorem dX8_turn_19 : decode cX8_turn 19 = .ok (.if_icmp .le 5, 3) := by decide +kernel
theorem dX8_turn_22 : decode cX8_turn 22 = .ok (.iconst (-1), 1) := by decide +kernel
theorem dX8_turn_23 : decode cX8_turn 23 = .ok (.ireturn, 1) := by decide +kernel
theorem dX8_turn_24 : decode cX8_turn 24 = .ok (.aload_n 0, 1) := by decide +kernel
theorem dX8_turn_25 : decode cX8_turn 25 = .ok (.invokevirtual 230, 3) := by decide +kernel
theorem dX8_turn_28 : decode cX8_turn 28 = .ok (.istore_n 1, 1) := by decide +kernel
theorem dX8_turn_29 : decode cX8_turn 29 = .ok (.iconst 0, 1) := by decide +kernel
theorem dX8_turn_30 : decode cX8_turn 30 = .ok (.istore_n 2, 1) := by decide +kernel
theorem dX8_turn_31 : decode cX8_turn 31 = .ok (.iload_n 2, 1) := by decide +kernel
theorem dX8_turn_32 : decode cX8_turn 32 = .ok (.iload_n 1, 1) := by decide +kernel
theorem dX8_turn_33 : decode cX8_turn 33 = .ok (.if_icmp .ge 170, 3) := by decide +kernel
theorem dX8_turn_36 : decode cX8_turn 36 = .ok (.iconst 0, 1) := by decide +kernel
theorem dX8_turn_37 : decode cX8_turn 37 = .ok (.istore_n 3, 1) := by decide +kernel
theorem dX8_turn_38 : decode cX8_turn 38 = .ok (.iload_n 2, 1) := by decide +kernel
theorem dX8_turn_39 : decode cX8_turn 39 = .ok (.i2l, 1) := by decide +kernel
theorem dX8_turn_40 : decode cX8_turn 40 = .ok (.aload_n 0, 1) := by decide +kernel
theorem dX8_turn_41 : decode cX8_turn 41 = .ok (.iload_n 3, 1) := by decide +kernel
theorem dX8_turn_42 : decode cX8_turn 42 = .ok (.invokevirtual 234, 3) := by decide +kernel
theorem dX8_turn_45 : decode cX8_turn 45 = .ok (.lsub, 1) := by decide +kernel
theorem dX8_turn_46 : decode cX8_turn 46 = .ok (.aload_n 0, 1) := by decide +kernel
theorem dX8_turn_47 : decode cX8_turn 47 = .ok (.iload_n 3, 1) := by decide +kernel
theorem dX8_turn_48 : decode cX8_turn 48 = .ok (.invokevirtual 225, 3) := by decide +kernel
theorem dX8_turn_51 : decode cX8_turn 51 = .ok (.invokestatic 133, 3) := by decide +kernel
theorem dX8_turn_54 : decode cX8_turn 54 = .ok (.lconst 0, 1) := by decide +kernel
theorem dX8_turn_55 : decode cX8_turn 55 = .ok (.lcmp, 1) := by decide +kernel
theorem dX8_turn_56 : decode cX8_turn 56 = .ok (.ifCond .eq 9, 3) := by decide +kernel
theorem dX8_turn_59 : decode cX8_turn 59 = .ok (.iinc 3 1, 3) := by decide +kernel
theorem dX8_turn_62 : decode cX8_turn 62 = .ok (.goto (-24), 3) := by decide +kernel
theorem dX8_turn_65 : decode cX8_turn 65 = .ok (.aload_n 0, 1) := by decide +kernel
theorem dX8_turn_66 : decode cX8_turn 66 = .ok (.getfield 20, 3) := by decide +kernel
theorem dX8_turn_69 : decode cX8_turn 69 = .ok (.iconst 3, 1) := by decide +kernel
theorem dX8_turn_70 : decode cX8_turn 70 = .ok (.iload_n 3, 1) := by decide +kernel
theorem dX8_turn_71 : decode cX8_turn 71 = .ok (.imul, 1) := by decide +kernel
theorem dX8_turn_72 : decode cX8_turn 72 = .ok (.iconst 2, 1) := by decide +kernel
theorem dX8_turn_73 : decode cX8_turn 73 = .ok (.iadd, 1) := by decide +kernel
theorem dX8_turn_74 : decode cX8_turn 74 = .ok (.laload, 1) := by decide +kernel
theorem dX8_turn_75 : decode cX8_turn 75 = .ok (.lstore 4, 2) := by decide +kernel
theorem dX8_turn_77 : decode cX8_turn 77 = .ok (.aload_n 0, 1) := by decide +kernel
theorem dX8_turn_78 : decode cX8_turn 78 = .ok (.getfield 20, 3) := by decide +kernel
theorem dX8_turn_81 : decode cX8_turn 81 = .ok (.iconst 3, 1) := by decide +kernel
theorem dX8_turn_82 : decode cX8_turn 82 = .ok (.iload_n 3, 1) := by decide +kernel
theorem dX8_turn_83 : decode cX8_turn 83 = .ok (.imul, 1) := by decide +kernel
theorem dX8_turn_84 : decode cX8_turn 84 = .ok (.iconst 1, 1) := by decide +kernel
theorem dX8_turn_85 : decode cX8_turn 85 = .ok (.iadd, 1) := by decide +kernel
theorem dX8_turn_86 : decode cX8_turn 86 = .ok (.laload, 1) := by decide +kernel
theorem dX8_turn_87 : decode cX8_turn 87 = .ok (.lneg, 1) := by decide +kernel
theorem dX8_turn_88 : decode cX8_turn 88 = .ok (.lstore 6, 2) := by decide +kernel
theorem dX8_turn_90 : decode cX8_turn 90 = .ok (.aload_n 0, 1) := by decide +kernel
theorem dX8_turn_91 : decode cX8_turn 91 = .ok (.getfield 20, 3) := by decide +kernel
theorem dX8_turn_94 : decode cX8_turn 94 = .ok (.iconst 3, 1) := by decide +kernel
theorem dX8_turn_95 : decode cX8_turn 95 = .ok (.iload_n 3, 1) := by decide +kernel
theorem dX8_turn_96 : decode cX8_turn 96 = .ok (.imul, 1) := by decide +kernel
theorem dX8_turn_97 : decode cX8_turn 97 = .ok (.laload, 1) := by decide +kernel
theorem dX8_turn_98 : decode cX8_turn 98 = .ok (.lstore 8, 2) := by decide +kernel
theorem dX8_turn_100 : decode cX8_turn 100 = .ok (.lload 4, 2) := by decide +kernel
theorem dX8_turn_102 : decode cX8_turn 102 = .ok (.lload 6, 2) := by decide +kernel
theorem dX8_turn_104 : decode cX8_turn 104 = .ok (.invokestatic 114, 3) := by decide +kernel
theorem dX8_turn_107 : decode cX8_turn 107 = .ok (.lload 8, 2) := by decide +kernel
theorem dX8_turn_109 : decode cX8_turn 109 = .ok (.invokestatic 114, 3) := by decide +kernel
theorem dX8_turn_112 : decode cX8_turn 112 = .ok (.lstore 10, 2) := by decide +kernel
theorem dX8_turn_114 : decode cX8_turn 114 = .ok (.lload 8, 2) := by decide +kernel
theorem dX8_turn_116 : decode cX8_turn 116 = .ok (.lconst 0, 1) := by decide +kernel
theorem dX8_turn_117 : decode cX8_turn 117 = .ok (.lcmp, 1) := by decide +kernel
theorem dX8_turn_118 : decode cX8_turn 118 = .ok (.ifCond .ge 9, 3) := by decide +kernel
theorem dX8_turn_121 : decode cX8_turn 121 = .ok (.lload 10, 2) := by decide +kernel
theorem dX8_turn_123 : decode cX8_turn 123 = .ok (.lneg, 1) := by decide +kernel
theorem dX8_turn_124 : decode cX8_turn 124 = .ok (.goto 5, 3) := by decide +kernel
theorem dX8_turn_127 : decode cX8_turn 127 = .ok (.lload 10, 2) := by decide +kernel
theorem dX8_turn_129 : decode cX8_turn 129 = .ok (.lstore 10, 2) := by decide +kernel
theorem dX8_turn_131 : decode cX8_turn 131 = .ok (.lload 4, 2) := by decide +kernel
theorem dX8_turn_133 : decode cX8_turn 133 = .ok (.lload 10, 2) := by decide +kernel
theorem dX8_turn_135 : decode cX8_turn 135 = .ok (.ldiv, 1) := by decide +kernel
theorem dX8_turn_136 : decode cX8_turn 136 = .ok (.lload 6, 2) := by decide +kernel
theorem dX8_turn_138 : decode cX8_turn 138 = .ok (.lload 10, 2) := by decide +kernel
theorem dX8_turn_140 : decode cX8_turn 140 = .ok (.ldiv, 1) := by decide +kernel
theorem dX8_turn_141 : decode cX8_turn 141 = .ok (.lload 8, 2) := by decide +kernel
theorem dX8_turn_143 : decode cX8_turn 143 = .ok (.lload 10, 2) := by decide +kernel
theorem dX8_turn_145 : decode cX8_turn 145 = .ok (.ldiv, 1) := by decide +kernel
theorem dX8_turn_146 : decode cX8_turn 146 = .ok (.invokestatic 102, 3) := by decide +kernel
theorem dX8_turn_149 : decode cX8_turn 149 = .ok (.ifCond .ne 5, 3) := by decide +kernel
theorem dX8_turn_152 : decode cX8_turn 152 = .ok (.iconst (-1), 1) := by decide +kernel
theorem dX8_turn_153 : decode cX8_turn 153 = .ok (.ireturn, 1) := by decide +kernel
theorem dX8_turn_154 : decode cX8_turn 154 = .ok (.aload_n 0, 1) := by decide +kernel
theorem dX8_turn_155 : decode cX8_turn 155 = .ok (.getfield 55, 3) := by decide +kernel
theorem dX8_turn_158 : decode cX8_turn 158 = .ok (.iconst 3, 1) := by decide +kernel
theorem dX8_turn_159 : decode cX8_turn 159 = .ok (.iload_n 2, 1) := by decide +kernel
theorem dX8_turn_160 : decode cX8_turn 160 = .ok (.imul, 1) := by decide +kernel
theorem dX8_turn_161 : decode cX8_turn 161 = .ok (.lload 4, 2) := by decide +kernel
theorem dX8_turn_163 : decode cX8_turn 163 = .ok (.lload 10, 2) := by decide +kernel
theorem dX8_turn_165 : decode cX8_turn 165 = .ok (.ldiv, 1) := by decide +kernel
theorem dX8_turn_166 : decode cX8_turn 166 = .ok (.lastore, 1) := by decide +kernel
theorem dX8_turn_167 : decode cX8_turn 167 = .ok (.aload_n 0, 1) := by decide +kernel
theorem dX8_turn_168 : decode cX8_turn 168 = .ok (.getfield 55, 3) := by decide +kernel
theorem dX8_turn_171 : decode cX8_turn 171 = .ok (.iconst 3, 1) := by decide +kernel
theorem dX8_turn_172 : decode cX8_turn 172 = .ok (.iload_n 2, 1) := by decide +kernel
theorem dX8_turn_173 : decode cX8_turn 173 = .ok (.imul, 1) := by decide +kernel
theorem dX8_turn_174 : decode cX8_turn 174 = .ok (.iconst 1, 1) := by decide +kernel
theorem dX8_turn_175 : decode cX8_turn 175 = .ok (.iadd, 1) := by decide +kernel
theorem dX8_turn_176 : decode cX8_turn 176 = .ok (.lload 6, 2) := by decide +kernel
theorem dX8_turn_178 : decode cX8_turn 178 = .ok (.lload 10, 2) := by decide +kernel
theorem dX8_turn_180 : decode cX8_turn 180 = .ok (.ldiv, 1) := by decide +kernel
theorem dX8_turn_181 : decode cX8_turn 181 = .ok (.lastore, 1) := by decide +kernel
theorem dX8_turn_182 : decode cX8_turn 182 = .ok (.aload_n 0, 1) := by decide +kernel
theorem dX8_turn_183 : decode cX8_turn 183 = .ok (.getfield 55, 3) := by decide +kernel
theorem dX8_turn_186 : decode cX8_turn 186 = .ok (.iconst 3, 1) := by decide +kernel
theorem dX8_turn_187 : decode cX8_turn 187 = .ok (.iload_n 2, 1) := by decide +kernel
theorem dX8_turn_188 : decode cX8_turn 188 = .ok (.imul, 1) := by decide +kernel
theorem dX8_turn_189 : decode cX8_turn 189 = .ok (.iconst 2, 1) := by decide +kernel
theorem dX8_turn_190 : decode cX8_turn 190 = .ok (.iadd, 1) := by decide +kernel
theorem dX8_turn_191 : decode cX8_turn 191 = .ok (.lload 8, 2) := by decide +kernel
theorem dX8_turn_193 : decode cX8_turn 193 = .ok (.lload 10, 2) := by decide +kernel
theorem dX8_turn_195 : decode cX8_turn 195 = .ok (.ldiv, 1) := by decide +kernel
theorem dX8_turn_196 : decode cX8_turn 196 = .ok (.lastore, 1) := by decide +kernel
theorem dX8_turn_197 : decode cX8_turn 197 = .ok (.iinc 2 1, 3) := by decide +kernel
theorem dX8_turn_200 : decode cX8_turn 200 = .ok (.goto (-169), 3) := by decide +kernel
theorem dX8_turn_203 : decode cX8_turn 203 = .ok (.aload_n 0, 1) := by decide +kernel
theorem dX8_turn_204 : decode cX8_turn 204 = .ok (.iload_n 1, 1) := by decide +kernel
theorem dX8_turn_205 : decode cX8_turn 205 = .ok (.putfield 105, 3) := by decide +kernel
theorem dX8_turn_208 : decode cX8_turn 208 = .ok (.iconst 0, 1) := by decide +kernel
theorem dX8_turn_209 : decode cX8_turn 209 = .ok (.istore_n 2, 1) := by decide +kernel
theorem dX8_turn_210 : decode cX8_turn 210 = .ok (.iload_n 2, 1) := by decide +kernel
theorem dX8_turn_211 : decode cX8_turn 211 = .ok (.iconst 3, 1) := by decide +kernel
theorem dX8_turn_212 : decode cX8_turn 212 = .ok (.aload_n 0, 1) := by decide +kernel
theorem dX8_turn_213 : decode cX8_turn 213 = .ok (.getfield 105, 3) := by decide +kernel
theorem dX8_turn_216 : decode cX8_turn 216 = .ok (.imul, 1) := by decide +kernel
theorem dX8_turn_217 : decode cX8_turn 217 = .ok (.if_icmp .ge 21, 3) := by decide +kernel
theorem dX8_turn_220 : decode cX8_turn 220 = .ok (.aload_n 0, 1) := by decide +kernel
theorem dX8_turn_221 : decode cX8_turn 221 = .ok (.getfield 20, 3) := by decide +kernel
theorem dX8_turn_224 : decode cX8_turn 224 = .ok (.iload_n 2, 1) := by decide +kernel
theorem dX8_turn_225 : decode cX8_turn 225 = .ok (.aload_n 0, 1) := by decide +kernel
theorem dX8_turn_226 : decode cX8_turn 226 = .ok (.getfield 55, 3) := by decide +kernel
theorem dX8_turn_229 : decode cX8_turn 229 = .ok (.iload_n 2, 1) := by decide +kernel
theorem dX8_turn_230 : decode cX8_turn 230 = .ok (.laload, 1) := by decide +kernel
theorem dX8_turn_231 : decode cX8_turn 231 = .ok (.lastore, 1) := by decide +kernel
theorem dX8_turn_232 : decode cX8_turn 232 = .ok (.iinc 2 1, 3) := by decide +kernel
theorem dX8_turn_235 : decode cX8_turn 235 = .ok (.goto (-25), 3) := by decide +kernel
theorem dX8_turn_238 : decode cX8_turn 238 = .ok (.aload_n 0, 1) := by decide +kernel
theorem dX8_turn_239 : decode cX8_turn 239 = .ok (.getfield 105, 3) := by decide +kernel
theorem dX8_turn_242 : decode cX8_turn 242 = .ok (.ireturn, 1) := by decide +kernel
set_option maxRecDepth 20000 in
theorem ggX8_drift_X8_set : GoodIn wsX8_drift wsX8_set := goodIn_r _ [10, 11] (by decide +kernel) (by decide +kernel)
set_option maxRecDepth 20000 in
theorem gX8_drift_X8_set : GoodIn wsX8_drift (va_wsS RX8 240 yX8_set wsX8_set) := goodIn_app (goodIn_of _ (by decide +kernel)) ggX8_drift_X8_set
set_option maxRecDepth 20000 in
theorem ggX8_drift_X8_times : GoodIn wsX8_drift wsX8_times := goodIn_r _ [14, 11] (by decide +kernel) (by decide +kernel)
set_option maxRecDepth 20000 in
theorem gX8_drift_X8_times : GoodIn wsX8_drift (va_wsS RX8 244 yX8_times wsX8_times) := goodIn_app (goodIn_of _ (by decide +kernel)) ggX8_drift_X8_times
theorem dX8_drift_0 : decode cX8_drift 0 = .ok (.aload_n 0, 1) := by decide +kernel
theorem dX8_drift_1 : decode cX8_drift 1 = .ok (.iconst 0, 1) := by decide +kernel
theorem dX8_drift_2 : decode cX8_drift 2 = .ok (.putfield 61, 3) := by decide +kernel
theorem dX8_drift_5 : decode cX8_drift 5 = .ok (.aload_n 0, 1) := by decide +kernel
theorem dX8_drift_6 : decode cX8_drift 6 = .ok (.getfield 108, 3) := by decide +kernel
theorem dX8_drift_9 : decode cX8_drift 9 = .ok (.iconst 1, 1) := by decide +kernel
theorem dX8_drift_10 : decode cX8_drift 10 = .ok (.if_icmp .eq 6, 3) := by decide +kernel
theorem dX8_drift_13 : decode cX8_drift 13 = .ok (.bipush (-2), 2) := by decide +kernel
theorem dX8_drift_15 : decode cX8_drift 15 = .ok (.ireturn, 1) := by decide +kernel
theorem dX8_drift_16 : decode cX8_drift 16 = .ok (.aload_n 0, 1) := by decide +kernel
theorem dX8_drift_17 : decode cX8_drift 17 = .ok (.getfield 42, 3) := by decide +kernel
theorem dX8_drift_20 : decode cX8_drift 20 = .ok (.lconst 1, 1) := by decide +kernel
theorem dX8_drift_21 : decode cX8_drift 21 = .ok (.invokestatic 240, 3) := by decide +kernel
theorem dX8_drift_24 : decode cX8_drift 24 = .ok (.aload_n 0, 1) := by decide +kernel
theorem dX8_drift_25 : decode cX8_drift 25 = .ok (.getfield 45, 3) := by decide +kernel
theorem dX8_drift_28 : decode cX8_drift 28 = .ok (.lconst 1, 1) := by decide +kernel
theorem dX8_drift_29 : decode cX8_drift 29 = .ok (.invokestatic 240, 3) := by decide +kernel
theorem dX8_drift_32 : decode cX8_drift 32 = .ok (.iconst 0, 1) := by decide +kernel
theorem dX8_drift_33 : decode cX8_drift 33 = .ok (.istore_n 1, 1) := by decide +kernel
theorem dX8_drift_34 : decode cX8_drift 34 = .ok (.iload_n 1, 1) := by decide +kernel
theorem dX8_drift_35 : decode cX8_drift 35 = .ok (.aload_n 0, 1) := by decide +kernel
theorem dX8_drift_36 : decode cX8_drift 36 = .ok (.getfield 105, 3) := by decide +kernel
theorem dX8_drift_39 : decode cX8_drift 39 = .ok (.if_icmp .ge 63, 3) := by decide +kernel
theorem dX8_drift_42 : decode cX8_drift 42 = .ok (.aload_n 0, 1) := by decide +kernel
theorem dX8_drift_43 : decode cX8_drift 43 = .ok (.getfield 20, 3) := by decide +kernel
theorem dX8_drift_46 : decode cX8_drift 46 = .ok (.iconst 3, 1) := by decide +kernel
theorem dX8_drift_47 : decode cX8_drift 47 = .ok (.iload_n 1, 1) := by decide +kernel
theorem dX8_drift_48 : decode cX8_drift 48 = .ok (.imul, 1) := by decide +kernel
theorem dX8_drift_49 : decode cX8_drift 49 = .ok (.laload, 1) := by decide +kernel
theorem dX8_drift_50 : decode cX8_drift 50 = .ok (.lstore_n 2, 1) := by decide +kernel
theorem dX8_drift_51 : decode cX8_drift 51 = .ok (.lload_n 2, 1) := by decide +kernel
theorem dX8_drift_52 : decode cX8_drift 52 = .ok (.lconst 0, 1) := by decide +kernel
theorem dX8_drift_53 : decode cX8_drift 53 = .ok (.lcmp, 1) := by decide +kernel
theorem dX8_drift_54 : decode cX8_drift 54 = .ok (.ifCond .ne 6, 3) := by decide +kernel
theorem dX8_drift_57 : decode cX8_drift 57 = .ok (.bipush (-2), 2) := by decide +kernel
theorem dX8_drift_59 : decode cX8_drift 59 = .ok (.ireturn, 1) := by decide +kernel
theorem dX8_drift_60 : decode cX8_drift 60 = .ok (.aload_n 0, 1) := by decide +kernel
theorem dX8_drift_61 : decode cX8_drift 61 = .ok (.getfield 42, 3) := by decide +kernel
theorem dX8_drift_64 : decode cX8_drift 64 = .ok (.lload_n 2, 1) := by decide +kernel
theorem dX8_drift_65 : decode cX8_drift 65 = .ok (.lconst 0, 1) := by decide +kernel
theorem dX8_drift_66 : decode cX8_drift 66 = .ok (.lcmp, 1) := by decide +kernel
theorem dX8_drift_67 : decode cX8_drift 67 = .ok (.ifCond .ge 8, 3) := by decide +kernel
theorem dX8_drift_70 : decode cX8_drift 70 = .ok (.lload_n 2, 1) := by decide +kernel
theorem dX8_drift_71 : decode cX8_drift 71 = .ok (.lneg, 1) := by decide +kernel
theorem dX8_drift_72 : decode cX8_drift 72 = .ok (.goto 4, 3) := by decide +kernel
theorem dX8_drift_75 : decode cX8_drift 75 = .ok (.lload_n 2, 1) := by decide +kernel
theorem dX8_drift_76 : decode cX8_drift 76 = .ok (.invokestatic 244, 3) := by decide +kernel
theorem dX8_drift_79 : decode cX8_drift 79 = .ok (.aload_n 0, 1) := by decide +kernel
theorem dX8_drift_80 : decode cX8_drift 80 = .ok (.getfield 45, 3) := by decide +kernel
theorem dX8_drift_83 : decode cX8_drift 83 = .ok (.aload_n 0, 1) := by decide +kernel
theorem dX8_drift_84 : decode cX8_drift 84 = .ok (.getfield 20, 3) := by decide +kernel
theorem dX8_drift_87 : decode cX8_drift 87 = .ok (.iconst 3, 1) := by decide +kernel
theorem dX8_drift_88 : decode cX8_drift 88 = .ok (.iload_n 1, 1) := by decide +kernel
theorem dX8_drift_89 : decode cX8_drift 89 = .ok (.imul, 1) := by decide +kernel
theorem dX8_drift_90 : decode cX8_drift 90 = .ok (.iconst 2, 1) := by decide +kernel
theorem dX8_drift_91 : decode cX8_drift 91 = .ok (.iadd, 1) := by decide +kernel
theorem dX8_drift_92 : decode cX8_drift 92 = .ok (.laload, 1) := by decide +kernel
theorem dX8_drift_93 : decode cX8_drift 93 = .ok (.invokestatic 244, 3) := by decide +kernel
theorem dX8_drift_96 : decode cX8_drift 96 = .ok (.iinc 1 1, 3) := by decide +kernel
theorem dX8_drift_99 : decode cX8_drift 99 = .ok (.goto (-65), 3) := by decide +kernel
theorem dX8_drift_102 : decode cX8_drift 102 = .ok (.bipush 25, 2) := by decide +kernel
theorem dX8_drift_104 : decode cX8_drift 104 = .ok (.istore_n 1, 1) := by decide +kernel
theorem dX8_drift_105 : decode cX8_drift 105 = .ok (.iload_n 1, 1) := by decide +kernel
theorem dX8_drift_106 : decode cX8_drift 106 = .ok (.ifCond .lt 47, 3) := by decide +kernel
theorem dX8_drift_109 : decode cX8_drift 109 = .ok (.aload_n 0, 1) := by decide +kernel
theorem dX8_drift_110 : decode cX8_drift 110 = .ok (.getfield 42, 3) := by decide +kernel
theorem dX8_drift_113 : decode cX8_drift 113 = .ok (.iload_n 1, 1) := by decide +kernel
theorem dX8_drift_114 : decode cX8_drift 114 = .ok (.laload, 1) := by decide +kernel
theorem dX8_drift_115 : decode cX8_drift 115 = .ok (.aload_n 0, 1) := by decide +kernel
theorem dX8_drift_116 : decode cX8_drift 116 = .ok (.getfield 45, 3) := by decide +kernel
theorem dX8_drift_119 : decode cX8_drift 119 = .ok (.iload_n 1, 1) := by decide +kernel
theorem dX8_drift_120 : decode cX8_drift 120 = .ok (.laload, 1) := by decide +kernel
theorem dX8_drift_121 : decode cX8_drift 121 = .ok (.lcmp, 1) := by decide +kernel
theorem dX8_drift_122 : decode cX8_drift 122 = .ok (.ifCond .eq 25, 3) := by decide +kernel
theorem dX8_drift_125 : decode cX8_drift 125 = .ok (.aload_n 0, 1) := by decide +kernel
theorem dX8_drift_126 : decode cX8_drift 126 = .ok (.getfield 42, 3) := by decide +kernel
theorem dX8_drift_129 : decode cX8_drift 129 = .ok (.iload_n 1, 1) := by decide +kernel
theorem dX8_drift_130 : decode cX8_drift 130 = .ok (.laload, 1) := by decide +kernel
theorem dX8_drift_131 : decode cX8_drift 131 = .ok (.aload_n 0, 1) := by decide +kernel
theorem dX8_drift_132 : decode cX8_drift 132 = .ok (.getfield 45, 3) := by decide +kernel
theorem dX8_drift_135 : decode cX8_drift 135 = .ok (.iload_n 1, 1) := by decide +kernel
theorem dX8_drift_136 : decode cX8_drift 136 = .ok (.laload, 1) := by decide +kernel
theorem dX8_drift_137 : decode cX8_drift 137 = .ok (.lcmp, 1) := by decide +kernel
theorem dX8_drift_138 : decode cX8_drift 138 = .ok (.ifCond .le 7, 3) := by decide +kernel
theorem dX8_drift_141 : decode cX8_drift 141 = .ok (.iconst 1, 1) := by decide +kernel
theorem dX8_drift_142 : decode cX8_drift 142 = .ok (.goto 4, 3) := by decide +kernel
theorem dX8_drift_145 : decode cX8_drift 145 = .ok (.iconst (-1), 1) := by decide +kernel
theorem dX8_drift_146 : decode cX8_drift 146 = .ok (.ireturn, 1) := by decide +kernel
theorem dX8_drift_147 : decode cX8_drift 147 = .ok (.iinc 1 (-1), 3) := by decide +kernel
theorem dX8_drift_150 : decode cX8_drift 150 = .ok (.goto (-45), 3) := by decide +kernel
theorem dX8_drift_153 : decode cX8_drift 153 = .ok (.iconst 0, 1) := by decide +kernel
theorem dX8_drift_154 : decode cX8_drift 154 = .ok (.ireturn, 1) := by decide +kernel
set_option maxRecDepth 20000 in
theorem ggX8_fixed_X8_restBy : GoodIn wsX8_fixed wsX8_restBy := goodIn_r _ [9, 10, 11, 12, 13] (by decide +kernel) (by decide +kernel)
set_option maxRecDepth 20000 in
theorem gX8_fixed_X8_restBy : GoodIn wsX8_fixed (va_wsS RX8 136 yX8_restBy wsX8_restBy) := goodIn_app (goodIn_of _ (by decide +kernel)) ggX8_fixed_X8_restBy
set_option maxRecDepth 20000 in
theorem ggX8_fixed_X8_ascend : GoodIn wsX8_fixed wsX8_ascend := goodIn_r _ [17, 5, 28, 29, 30, 31, 32, 33, 34, 35, 36, 37, 38, 39, 40, 41, 42, 43, 44, 45, 46, 47, 48, 49, 50, 51, 52, 53, 54, 55, 56, 57, 58, 59, 60] (by decide +kernel) (by decide +kernel)
set_option maxRecDepth 20000 in
theorem gX8_fixed_X8_ascend : GoodIn wsX8_fixed (wsV RX8 208 RX8 yX8_ascend wsX8_ascend) := goodIn_app (goodIn_of _ (by decide +kernel)) ggX8_fixed_X8_ascend
set_option maxRecDepth 20000 in
theorem ggX8_fixed_X8_tells : GoodIn wsX8_fixed wsX8_tells := goodIn_r _ [21, 22, 23, 24, 25, 26, 27, 5, 28, 29, 30, 31, 32, 33, 34, 35, 36, 37, 38, 39, 40, 41, 42, 43, 44, 45, 46, 47, 48, 49, 50, 51, 52, 53, 54, 55, 56, 57, 58, 59, 60] (by decide +kernel) (by decide +kernel)
set_option maxRecDepth 20000 in
theorem gX8_fixed_X8_tells : GoodIn wsX8_fixed (wsV RX8 164 RX8 yX8_tells wsX8_tells) := goodIn_app (goodIn_of _ (by decide +kernel)) ggX8_fixed_X8_tells
theorem dX8_fixed_0 : decode cX8_fixed 0 = .ok (.aload_n 0, 1) := by decide +kernel
theorem dX8_fixed_1 : decode cX8_fixed 1 = .ok (.iconst 0, 1) := by decide +kernel
theorem dX8_fixed_2 : decode cX8_fixed 2 = .ok (.putfield 61, 3) := by decide +kernel
theorem dX8_fixed_5 : decode cX8_fixed 5 = .ok (.aload_n 0, 1) := by decide +kernel
theorem dX8_fixed_6 : decode cX8_fixed 6 = .ok (.getfield 108, 3) := by decide +kernel
theorem dX8_fixed_9 : decode cX8_fixed 9 = .ok (.iconst 1, 1) := by decide +kernel
theorem dX8_fixed_10 : decode cX8_fixed 10 = .ok (.if_icmp .eq 5, 3) := by decide +kernel
theorem dX8_fixed_13 : decode cX8_fixed 13 = .ok (.iconst (-1), 1) := by decide +kernel
theorem dX8_fixed_14 : decode cX8_fixed 14 = .ok (.ireturn, 1) := by decide +kernel
theorem dX8_fixed_15 : decode cX8_fixed 15 = .ok (.iconst 0, 1) := by decide +kernel
theorem dX8_fixed_16 : decode cX8_fixed 16 = .ok (.istore_n 1, 1) := by decide +kernel
theorem dX8_fixed_17 : decode cX8_fixed 17 = .ok (.iconst 0, 1) := by decide +kernel
theorem dX8_fixed_18 : decode cX8_fixed 18 = .ok (.istore_n 2, 1) := by decide +kernel
theorem dX8_fixed_19 : decode cX8_fixed 19 = .ok (.iload_n 2, 1) := by decide +kernel
theorem dX8_fixed_20 : decode cX8_fixed 20 = .ok (.aload_n 0, 1) := by decide +kernel
theorem dX8_fixed_21 : decode cX8_fixed 21 = .ok (.getfield 105, 3) := by decide +kernel
theorem dX8_fixed_24 : decode cX8_fixed 24 = .ok (.if_icmp .ge 86, 3) := by decide +kernel
theorem dX8_fixed_27 : decode cX8_fixed 27 = .ok (.aload_n 0, 1) := by decide +kernel
theorem dX8_fixed_28 : decode cX8_fixed 28 = .ok (.getfield 20, 3) := by decide +kernel
theorem dX8_fixed_31 : decode cX8_fixed 31 = .ok (.iconst 3, 1) := by decide +kernel
theorem dX8_fixed_32 : decode cX8_fixed 32 = .ok (.iload_n 2, 1) := by decide +kernel
theorem dX8_fixed_33 : decode cX8_fixed 33 = .ok (.imul, 1) := by decide +kernel
theorem dX8_fixed_34 : decode cX8_fixed 34 = .ok (.iconst 2, 1) := by decide +kernel
theorem dX8_fixed_35 : decode cX8_fixed 35 = .ok (.iadd, 1) := by decide +kernel
theorem dX8_fixed_36 : decode cX8_fixed 36 = .ok (.laload, 1) := by decide +kernel
theorem dX8_fixed_37 : decode cX8_fixed 37 = .ok (.aload_n 0, 1) := by decide +kernel
theorem dX8_fixed_38 : decode cX8_fixed 38 = .ok (.getfield 20, 3) := by decide +kernel
theorem dX8_fixed_41 : decode cX8_fixed 41 = .ok (.iconst 3, 1) := by decide +kernel
theorem dX8_fixed_42 : decode cX8_fixed 42 = .ok (.iload_n 2, 1) := by decide +kernel
theorem dX8_fixed_43 : decode cX8_fixed 43 = .ok (.imul, 1) := by decide +kernel
theorem dX8_fixed_44 : decode cX8_fixed 44 = .ok (.laload, 1) := by decide +kernel
theorem dX8_fixed_45 : decode cX8_fixed 45 = .ok (.lsub, 1) := by decide +kernel
theorem dX8_fixed_46 : decode cX8_fixed 46 = .ok (.lstore_n 3, 1) := by decide +kernel
theorem dX8_fixed_47 : decode cX8_fixed 47 = .ok (.aload_n 0, 1) := by decide +kernel
theorem dX8_fixed_48 : decode cX8_fixed 48 = .ok (.getfield 20, 3) := by decide +kernel
theorem dX8_fixed_51 : decode cX8_fixed 51 = .ok (.iconst 3, 1) := by decide +kernel
theorem dX8_fixed_52 : decode cX8_fixed 52 = .ok (.iload_n 2, 1) := by decide +kernel
theorem dX8_fixed_53 : decode cX8_fixed 53 = .ok (.imul, 1) := by decide +kernel
theorem dX8_fixed_54 : decode cX8_fixed 54 = .ok (.iconst 1, 1) := by decide +kernel
theorem dX8_fixed_55 : decode cX8_fixed 55 = .ok (.iadd, 1) := by decide +kernel
theorem dX8_fixed_56 : decode cX8_fixed 56 = .ok (.laload, 1) := by decide +kernel
theorem dX8_fixed_57 : decode cX8_fixed 57 = .ok (.lstore 5, 2) := by decide +kernel
theorem dX8_fixed_59 : decode cX8_fixed 59 = .ok (.lload_n 3, 1) := by decide +kernel
theorem dX8_fixed_60 : decode cX8_fixed 60 = .ok (.lconst 0, 1) := by decide +kernel
theorem dX8_fixed_61 : decode cX8_fixed 61 = .ok (.lcmp, 1) := by decide +kernel
theorem dX8_fixed_62 : decode cX8_fixed 62 = .ok (.ifCond .eq 42, 3) := by decide +kernel
theorem dX8_fixed_65 : decode cX8_fixed 65 = .ok (.lload 5, 2) := by decide +kernel
theorem dX8_fixed_67 : decode cX8_fixed 67 = .ok (.lload_n 3, 1) := by decide +kernel
theorem dX8_fixed_68 : decode cX8_fixed 68 = .ok (.lrem, 1) := by decide +kernel
theorem dX8_fixed_69 : decode cX8_fixed 69 = .ok (.lconst 0, 1) := by decide +kernel
theorem dX8_fixed_70 : decode cX8_fixed 70 = .ok (.lcmp, 1) := by decide +kernel
theorem dX8_fixed_71 : decode cX8_fixed 71 = .ok (.ifCond .ne 33, 3) := by decide +kernel
theorem dX8_fixed_74 : decode cX8_fixed 74 = .ok (.lload 5, 2) := by decide +kernel
theorem dX8_fixed_76 : decode cX8_fixed 76 = .ok (.lload_n 3, 1) := by decide +kernel
theorem dX8_fixed_77 : decode cX8_fixed 77 = .ok (.ldiv, 1) := by decide +kernel
theorem dX8_fixed_78 : decode cX8_fixed 78 = .ok (.aload_n 0, 1) := by decide +kernel
theorem dX8_fixed_79 : decode cX8_fixed 79 = .ok (.getfield 105, 3) := by decide +kernel
theorem dX8_fixed_82 : decode cX8_fixed 82 = .ok (.invokestatic 136, 3) := by decide +kernel
theorem dX8_fixed_85 : decode cX8_fixed 85 = .ok (.iload_n 2, 1) := by decide +kernel
theorem dX8_fixed_86 : decode cX8_fixed 86 = .ok (.i2l, 1) := by decide +kernel
theorem dX8_fixed_87 : decode cX8_fixed 87 = .ok (.lcmp, 1) := by decide +kernel
theorem dX8_fixed_88 : decode cX8_fixed 88 = .ok (.ifCond .ne 16, 3) := by decide +kernel
theorem dX8_fixed_91 : decode cX8_fixed 91 = .ok (.aload_n 0, 1) := by decide +kernel
theorem dX8_fixed_92 : decode cX8_fixed 92 = .ok (.getfield 32, 3) := by decide +kernel
theorem dX8_fixed_95 : decode cX8_fixed 95 = .ok (.iload_n 1, 1) := by decide +kernel
theorem dX8_fixed_96 : decode cX8_fixed 96 = .ok (.lload 5, 2) := by decide +kernel
theorem dX8_fixed_98 : decode cX8_fixed 98 = .ok (.lload_n 3, 1) := by decide +kernel
theorem dX8_fixed_99 : decode cX8_fixed 99 = .ok (.ldiv, 1) := by decide +kernel
theorem dX8_fixed_100 : decode cX8_fixed 100 = .ok (.lastore, 1) := by decide +kernel
theorem dX8_fixed_101 : decode cX8_fixed 101 = .ok (.iinc 1 1, 3) := by decide +kernel
theorem dX8_fixed_104 : decode cX8_fixed 104 = .ok (.iinc 2 1, 3) := by decide +kernel
theorem dX8_fixed_107 : decode cX8_fixed 107 = .ok (.goto (-88), 3) := by decide +kernel
theorem dX8_fixed_110 : decode cX8_fixed 110 = .ok (.aload_n 0, 1) := by decide +kernel
theorem dX8_fixed_111 : decode cX8_fixed 111 = .ok (.iload_n 1, 1) := by decide +kernel
theorem dX8_fixed_112 : decode cX8_fixed 112 = .ok (.invokevirtual 208, 3) := by decide +kernel
theorem dX8_fixed_115 : decode cX8_fixed 115 = .ok (.aload_n 0, 1) := by decide +kernel
theorem dX8_fixed_116 : decode cX8_fixed 116 = .ok (.iload_n 1, 1) := by decide +kernel
theorem dX8_fixed_117 : decode cX8_fixed 117 = .ok (.invokevirtual 164, 3) := by decide +kernel
theorem dX8_fixed_120 : decode cX8_fixed 120 = .ok (.iload_n 1, 1) := by decide +kernel
theorem dX8_fixed_121 : decode cX8_fixed 121 = .ok (.ireturn, 1) := by decide +kernel
set_option maxRecDepth 20000 in
theorem ggX8_act_X8_in : GoodIn wsX8_act wsX8_in := goodIn_r _ [10] (by decide +kernel) (by decide +kernel)
set_option maxRecDepth 20000 in
theorem gX8_act_X8_in : GoodIn wsX8_act (va_wsS RX8 68 yX8_in wsX8_in) := goodIn_app (goodIn_of _ (by decide +kernel)) ggX8_act_X8_in
theorem dX8_act_0 : decode cX8_act 0 = .ok (.aload_n 0, 1) := by decide +kernel
theorem dX8_act_1 : decode cX8_act 1 = .ok (.iconst 0, 1) := by decide +kernel
theorem dX8_act_2 : decode cX8_act 2 = .ok (.putfield 61, 3) := by decide +kernel
theorem dX8_act_5 : decode cX8_act 5 = .ok (.iload_n 1, 1) := by decide +kernel
theorem dX8_act_6 : decode cX8_act 6 = .ok (.i2l, 1) := by decide +kernel
theorem dX8_act_7 : decode cX8_act 7 = .ok (.lconst 0, 1) := by decide +kernel
theorem dX8_act_8 : decode cX8_act 8 = .ok (.ldc2_w 72, 3) := by decide +kernel
theorem dX8_act_11 : decode cX8_act 11 = .ok (.invokestatic 68, 3) := by decide +kernel
theorem dX8_act_14 : decode cX8_act 14 = .ok (.ifCond .eq 63, 3) := by decide +kernel
theorem dX8_act_17 : decode cX8_act 17 = .ok (.iload_n 1, 1) := by decide +kernel
theorem dX8_act_18 : decode cX8_act 18 = .ok (.iconst 2, 1) := by decide +kernel
theorem dX8_act_19 : decode cX8_act 19 = .ok (.if_icmp .eq 27, 3) := by decide +kernel
theorem dX8_act_22 : decode cX8_act 22 = .ok (.iload_n 2, 1) := by decide +kernel
theorem dX8_act_23 : decode cX8_act 23 = .ok (.i2l, 1) := by decide +kernel
theorem dX8_act_24 : decode cX8_act 24 = .ok (.lconst 0, 1) := by decide +kernel
theorem dX8_act_25 : decode cX8_act 25 = .ok (.ldc2_w 83, 3) := by decide +kernel
theorem dX8_act_28 : decode cX8_act 28 = .ok (.invokestatic 68, 3) := by decide +kernel
theorem dX8_act_31 : decode cX8_act 31 = .ok (.ifCond .eq 46, 3) := by decide +kernel
theorem dX8_act_34 : decode cX8_act 34 = .ok (.iload_n 3, 1) := by decide +kernel
theorem dX8_act_35 : decode cX8_act 35 = .ok (.i2l, 1) := by decide +kernel
theorem dX8_act_36 : decode cX8_act 36 = .ok (.lconst 0, 1) := by decide +kernel
theorem dX8_act_37 : decode cX8_act 37 = .ok (.ldc2_w 247, 3) := by decide +kernel
theorem dX8_act_40 : decode cX8_act 40 = .ok (.invokestatic 68, 3) := by decide +kernel
theorem dX8_act_43 : decode cX8_act 43 = .ok (.ifCond .eq 34, 3) := by decide +kernel
theorem dX8_act_46 : decode cX8_act 46 = .ok (.iload_n 1, 1) := by decide +kernel
theorem dX8_act_47 : decode cX8_act 47 = .ok (.iconst 1, 1) := by decide +kernel
theorem dX8_act_48 : decode cX8_act 48 = .ok (.if_icmp .ne 16, 3) := by decide +kernel
theorem dX8_act_51 : decode cX8_act 51 = .ok (.iload 4, 2) := by decide +kernel
theorem dX8_act_53 : decode cX8_act 53 = .ok (.i2l, 1) := by decide +kernel
theorem dX8_act_54 : decode cX8_act 54 = .ok (.lconst 0, 1) := by decide +kernel
theorem dX8_act_55 : decode cX8_act 55 = .ok (.ldc2_w 247, 3) := by decide +kernel
theorem dX8_act_58 : decode cX8_act 58 = .ok (.invokestatic 68, 3) := by decide +kernel
theorem dX8_act_61 : decode cX8_act 61 = .ok (.ifCond .eq 16, 3) := by decide +kernel
theorem dX8_act_64 : decode cX8_act 64 = .ok (.aload_n 0, 1) := by decide +kernel
theorem dX8_act_65 : decode cX8_act 65 = .ok (.getfield 130, 3) := by decide +kernel
theorem dX8_act_68 : decode cX8_act 68 = .ok (.bipush 12, 2) := by decide +kernel
theorem dX8_act_70 : decode cX8_act 70 = .ok (.if_icmp .ge 7, 3) := by decide +kernel
theorem dX8_act_73 : decode cX8_act 73 = .ok (.iconst 1, 1) := by decide +kernel
theorem dX8_act_74 : decode cX8_act 74 = .ok (.goto 4, 3) := by decide +kernel
theorem dX8_act_77 : decode cX8_act 77 = .ok (.iconst 0, 1) := by decide +kernel
theorem dX8_act_78 : decode cX8_act 78 = .ok (.istore 5, 2) := by decide +kernel
theorem dX8_act_80 : decode cX8_act 80 = .ok (.iload 5, 2) := by decide +kernel
theorem dX8_act_82 : decode cX8_act 82 = .ok (.ifCond .ne 5, 3) := by decide +kernel
theorem dX8_act_85 : decode cX8_act 85 = .ok (.iconst (-1), 1) := by decide +kernel
theorem dX8_act_86 : decode cX8_act 86 = .ok (.ireturn, 1) := by decide +kernel
theorem dX8_act_87 : decode cX8_act 87 = .ok (.aload_n 0, 1) := by decide +kernel
theorem dX8_act_88 : decode cX8_act 88 = .ok (.getfield 58, 3) := by decide +kernel
theorem dX8_act_91 : decode cX8_act 91 = .ok (.iconst 4, 1) := by decide +kernel
theorem dX8_act_92 : decode cX8_act 92 = .ok (.aload_n 0, 1) := by decide +kernel
theorem dX8_act_93 : decode cX8_act 93 = .ok (.getfield 130, 3) := by decide +kernel
theorem dX8_act_96 : decode cX8_act 96 = .ok (.imul, 1) := by decide +kernel
theorem dX8_act_97 : decode cX8_act 97 = .ok (.iload_n 1, 1) := by decide +kernel
theorem dX8_act_98 : decode cX8_act 98 = .ok (.iastore, 1) := by decide +kernel
theorem dX8_act_99 : decode cX8_act 99 = .ok (.aload_n 0, 1) := by decide +kernel
theorem dX8_act_100 : decode cX8_act 100 = .ok (.getfield 58, 3) := by decide +kernel
theorem dX8_act_103 : decode cX8_act 103 = .ok (.iconst 4, 1) := by decide +kernel
theorem dX8_act_104 : decode cX8_act 104 = .ok (.aload_n 0, 1) := by decide +kernel
theorem dX8_act_105 : decode cX8_act 105 = .ok (.getfield 130, 3) := by decide +kernel
theorem dX8_act_108 : decode cX8_act 108 = .ok (.imul, 1) := by decide +kernel
theorem dX8_act_109 : decode cX8_act 109 = .ok (.iconst 1, 1) := by decide +kernel
theorem dX8_act_110 : decode cX8_act 110 = .ok (.iadd, 1) := by decide +kernel
theorem dX8_act_111 : decode cX8_act 111 = .ok (.iload_n 2, 1) := by decide +kernel
theorem dX8_act_112 : decode cX8_act 112 = .ok (.iastore, 1) := by decide +kernel
theorem dX8_act_113 : decode cX8_act 113 = .ok (.aload_n 0, 1) := by decide +kernel
theorem dX8_act_114 : decode cX8_act 114 = .ok (.getfield 58, 3) := by decide +kernel
theorem dX8_act_117 : decode cX8_act 117 = .ok (.iconst 4, 1) := by decide +kernel
theorem dX8_act_118 : decode cX8_act 118 = .ok (.aload_n 0, 1) := by decide +kernel
theorem dX8_act_119 : decode cX8_act 119 = .ok (.getfield 130, 3) := by decide +kernel
theorem dX8_act_122 : decode cX8_act 122 = .ok (.imul, 1) := by decide +kernel
theorem dX8_act_123 : decode cX8_act 123 = .ok (.iconst 2, 1) := by decide +kernel
theorem dX8_act_124 : decode cX8_act 124 = .ok (.iadd, 1) := by decide +kernel
theorem dX8_act_125 : decode cX8_act 125 = .ok (.iload_n 3, 1) := by decide +kernel
theorem dX8_act_126 : decode cX8_act 126 = .ok (.iastore, 1) := by decide +kernel
theorem dX8_act_127 : decode cX8_act 127 = .ok (.aload_n 0, 1) := by decide +kernel
theorem dX8_act_128 : decode cX8_act 128 = .ok (.getfield 58, 3) := by decide +kernel
theorem dX8_act_131 : decode cX8_act 131 = .ok (.iconst 4, 1) := by decide +kernel
theorem dX8_act_132 : decode cX8_act 132 = .ok (.aload_n 0, 1) := by decide +kernel
theorem dX8_act_133 : decode cX8_act 133 = .ok (.getfield 130, 3) := by decide +kernel
theorem dX8_act_136 : decode cX8_act 136 = .ok (.imul, 1) := by decide +kernel
theorem dX8_act_137 : decode cX8_act 137 = .ok (.iconst 3, 1) := by decide +kernel
theorem dX8_act_138 : decode cX8_act 138 = .ok (.iadd, 1) := by decide +kernel
theorem dX8_act_139 : decode cX8_act 139 = .ok (.iload 4, 2) := by decide +kernel
theorem dX8_act_141 : decode cX8_act 141 = .ok (.iastore, 1) := by decide +kernel
theorem dX8_act_142 : decode cX8_act 142 = .ok (.aload_n 0, 1) := by decide +kernel
theorem dX8_act_143 : decode cX8_act 143 = .ok (.dup, 1) := by decide +kernel
theorem dX8_act_144 : decode cX8_act 144 = .ok (.getfield 130, 3) := by decide +kernel
theorem dX8_act_147 : decode cX8_act 147 = .ok (.iconst 1, 1) := by decide +kernel
theorem dX8_act_148 : decode cX8_act 148 = .ok (.iadd, 1) := by decide +kernel
theorem dX8_act_149 : decode cX8_act 149 = .ok (.putfield 130, 3) := by decide +kernel
theorem dX8_act_152 : decode cX8_act 152 = .ok (.aload_n 0, 1) := by decide +kernel
theorem dX8_act_153 : decode cX8_act 153 = .ok (.getfield 130, 3) := by decide +kernel
theorem dX8_act_156 : decode cX8_act 156 = .ok (.iconst 1, 1) := by decide +kernel
theorem dX8_act_157 : decode cX8_act 157 = .ok (.isub, 1) := by decide +kernel
theorem dX8_act_158 : decode cX8_act 158 = .ok (.ireturn, 1) := by decide +kernel
theorem dX8_scrap_0 : decode cX8_scrap 0 = .ok (.aload_n 0, 1) := by decide +kernel
theorem dX8_scrap_1 : decode cX8_scrap 1 = .ok (.iconst 0, 1) := by decide +kernel
theorem dX8_scrap_2 : decode cX8_scrap 2 = .ok (.putfield 61, 3) := by decide +kernel
theorem dX8_scrap_5 : decode cX8_scrap 5 = .ok (.aload_n 0, 1) := by decide +kernel
theorem dX8_scrap_6 : decode cX8_scrap 6 = .ok (.getfield 130, 3) := by decide +kernel
theorem dX8_scrap_9 : decode cX8_scrap 9 = .ok (.istore_n 1, 1) := by decide +kernel
theorem dX8_scrap_10 : decode cX8_scrap 10 = .ok (.aload_n 0, 1) := by decide +kernel
theorem dX8_scrap_11 : decode cX8_scrap 11 = .ok (.iconst 0, 1) := by decide +kernel
theorem dX8_scrap_12 : decode cX8_scrap 12 = .ok (.putfield 130, 3) := by decide +kernel
theorem dX8_scrap_15 : decode cX8_scrap 15 = .ok (.iload_n 1, 1) := by decide +kernel
theorem dX8_scrap_16 : decode cX8_scrap 16 = .ok (.ireturn, 1) := by decide +kernel
set_option maxRecDepth 20000 in
theorem ggX8_areHeaps_X8_in : GoodIn wsX8_areHeaps wsX8_in := goodIn_r _ [5] (by decide +kernel) (by decide +kernel)
set_option maxRecDepth 20000 in
theorem gX8_areHeaps_X8_in : GoodIn wsX8_areHeaps (va_wsS RX8 68 yX8_in wsX8_in) := goodIn_app (goodIn_of _ (by decide +kernel)) ggX8_areHeaps_X8_in
theorem dX8_areHeaps_0 : decode cX8_areHeaps 0 = .ok (.iload_n 0, 1) := by decide +kernel
theorem dX8_areHeaps_1 : decode cX8_areHeaps 1 = .ok (.i2l, 1) := by decide +kernel
theorem dX8_areHeaps_2 : decode cX8_areHeaps 2 = .ok (.lconst 0, 1) := by decide +kernel
theorem dX8_areHeaps_3 : decode cX8_areHeaps 3 = .ok (.ldc2_w 96, 3) := by decide +kernel
theorem dX8_areHeaps_6 : decode cX8_areHeaps 6 = .ok (.invokestatic 68, 3) := by decide +kernel
theorem dX8_areHeaps_9 : decode cX8_areHeaps 9 = .ok (.ifCond .eq 43, 3) := by decide +kernel
theorem dX8_areHeaps_12 : decode cX8_areHeaps 12 = .ok (.iload_n 1, 1) := by decide +kernel
theorem dX8_areHeaps_13 : decode cX8_areHeaps 13 = .ok (.i2l, 1) := by decide +kernel
theorem dX8_areHeaps_14 : decode cX8_areHeaps 14 = .ok (.lconst 0, 1) := by decide +kernel
theorem dX8_areHeaps_15 : decode cX8_areHeaps 15 = .ok (.ldc2_w 96, 3) := by decide +kernel
theorem dX8_areHeaps_18 : decode cX8_areHeaps 18 = .ok (.invokestatic 68, 3) := by decide +kernel
theorem dX8_areHeaps_21 : decode cX8_areHeaps 21 = .ok (.ifCond .eq 31, 3) := by decide +kernel
theorem dX8_areHeaps_24 : decode cX8_areHeaps 24 = .ok (.iload_n 2, 1) := by decide +kernel
theorem dX8_areHeaps_25 : decode cX8_areHeaps 25 = .ok (.i2l, 1) := by decide +kernel
theorem dX8_areHeaps_26 : decode cX8_areHeaps 26 = .ok (.lconst 0, 1) := by decide +kernel
theorem dX8_areHeaps_27 : decode cX8_areHeaps 27 = .ok (.ldc2_w 96, 3) := by decide +kernel
theorem dX8_areHeaps_30 : decode cX8_areHeaps 30 = .ok (.invokestatic 68, 3) := by decide +kernel
theorem dX8_areHeaps_33 : decode cX8_areHeaps 33 = .ok (.ifCond .eq 19, 3) := by decide +kernel
theorem dX8_areHeaps_36 : decode cX8_areHeaps 36 = .ok (.iload_n 3, 1) := by decide +kernel
theorem dX8_areHeaps_37 : decode cX8_areHeaps 37 = .ok (.i2l, 1) := by decide +kernel
theorem dX8_areHeaps_38 : decode cX8_areHeaps 38 = .ok (.lconst 0, 1) := by decide +kernel
theorem dX8_areHeaps_39 : decode cX8_areHeaps 39 = .ok (.ldc2_w 96, 3) := by decide +kernel
theorem dX8_areHeaps_42 : decode cX8_areHeaps 42 = .ok (.invokestatic 68, 3) := by decide +kernel
theorem dX8_areHeaps_45 : decode cX8_areHeaps 45 = .ok (.ifCond .eq 7, 3) := by decide +kernel
theorem dX8_areHeaps_48 : decode cX8_areHeaps 48 = .ok (.iconst 1, 1) := by decide +kernel
theorem dX8_areHeaps_49 : decode cX8_areHeaps 49 = .ok (.goto 4, 3) := by decide +kernel
theorem dX8_areHeaps_52 : decode cX8_areHeaps 52 = .ok (.iconst 0, 1) := by decide +kernel
theorem dX8_areHeaps_53 : decode cX8_areHeaps 53 = .ok (.ireturn, 1) := by decide +kernel
set_option maxRecDepth 20000 in
theorem ggX8_go_X8_areHeaps : GoodIn wsX8_go wsX8_areHeaps := goodIn_r _ [9, 10, 11, 12, 8, 13] (by decide +kernel) (by decide +kernel)
set_option maxRecDepth 20000 in
theorem gX8_go_X8_areHeaps : GoodIn wsX8_go (va_wsS RX8 249 yX8_areHeaps wsX8_areHeaps) := goodIn_app (goodIn_of _ (by decide +kernel)) ggX8_go_X8_areHeaps
set_option maxRecDepth 20000 in
theorem ggX8_go_X8_in : GoodIn wsX8_go wsX8_in := goodIn_r _ [13] (by decide +kernel) (by decide +kernel)
set_option maxRecDepth 20000 in
theorem gX8_go_X8_in : GoodIn wsX8_go (va_wsS RX8 68 yX8_in wsX8_in) := goodIn_app (goodIn_of _ (by decide +kernel)) ggX8_go_X8_in
set_option maxRecDepth 20000 in
theorem ggX8_go_X8_tells : GoodIn wsX8_go wsX8_tells := goodIn_r _ [17, 18, 19, 20, 21, 22, 23, 4, 24, 25, 26, 27, 28, 29, 30, 31, 32, 33, 34, 35, 36, 37, 38, 39, 40, 41, 42, 43, 44, 45, 46, 47, 48, 49, 50, 51, 52, 53, 54, 55, 56] (by decide +kernel) (by decide +kernel)
set_option maxRecDepth 20000 in
theorem gX8_go_X8_tells : GoodIn wsX8_go (wsV RX8 164 RX8 yX8_tells wsX8_tells) := goodIn_app (goodIn_of _ (by decide +kernel)) ggX8_go_X8_tells
theorem dX8_go_0 : decode cX8_go 0 = .ok (.aload_n 0, 1) := by decide +kernel
theorem dX8_go_1 : decode cX8_go 1 = .ok (.iconst 0, 1) := by decide +kernel
theorem dX8_go_2 : decode cX8_go 2 = .ok (.putfield 61, 3) := by decide +kernel
theorem dX8_go_5 : decode cX8_go 5 = .ok (.aload_n 0, 1) := by decide +kernel
theorem dX8_go_6 : decode cX8_go 6 = .ok (.getfield 130, 3) := by decide +kernel
theorem dX8_go_9 : decode cX8_go 9 = .ok (.ifCond .eq 27, 3) := by decide +kernel
theorem dX8_go_12 : decode cX8_go 12 = .ok (.iload_n 1, 1) := by decide +kernel
theorem dX8_go_13 : decode cX8_go 13 = .ok (.iload_n 2, 1) := by decide +kernel
theorem dX8_go_14 : decode cX8_go 14 = .ok (.iload_n 3, 1) := by decide +kernel
theorem dX8_go_15 : decode cX8_go 15 = .ok (.iload 4, 2) := by decide +kernel
theorem dX8_go_17 : decode cX8_go 17 = .ok (.invokestatic 249, 3) := by decide +kernel
theorem dX8_go_20 : decode cX8_go 20 = .ok (.ifCond .eq 16, 3) := by decide +kernel
theorem dX8_go_23 : decode cX8_go 23 = .ok (.iload 5, 2) := by decide +kernel
theorem dX8_go_25 : decode cX8_go 25 = .ok (.i2l, 1) := by decide +kernel
theorem dX8_go_26 : decode cX8_go 26 = .ok (.lconst 0, 1) := by decide +kernel
theorem dX8_go_27 : decode cX8_go 27 = .ok (.ldc2_w 157, 3) := by decide +kernel
theorem dX8_go_30 : decode cX8_go 30 = .ok (.invokestatic 68, 3) := by decide +kernel
theorem dX8_go_33 : decode cX8_go 33 = .ok (.ifCond .ne 5, 3) := by decide +kernel
theorem dX8_go_36 : decode cX8_go 36 = .ok (.iconst (-1), 1) := by decide +kernel
theorem dX8_go_37 : decode cX8_go 37 = .ok (.ireturn, 1) := by decide +kernel
theorem dX8_go_38 : decode cX8_go 38 = .ok (.aload_n 0, 1) := by decide +kernel
theorem dX8_go_39 : decode cX8_go 39 = .ok (.getfield 32, 3) := by decide +kernel
theorem dX8_go_42 : decode cX8_go 42 = .ok (.iconst 0, 1) := by decide +kernel
theorem dX8_go_43 : decode cX8_go 43 = .ok (.iload_n 1, 1) := by decide +kernel
theorem dX8_go_44 : decode cX8_go 44 = .ok (.i2l, 1) := by decide +kernel
theorem dX8_go_45 : decode cX8_go 45 = .ok (.lastore, 1) := by decide +kernel
theorem dX8_go_46 : decode cX8_go 46 = .ok (.aload_n 0, 1) := by decide +kernel
theorem dX8_go_47 : decode cX8_go 47 = .ok (.getfield 32, 3) := by decide +kernel
theorem dX8_go_50 : decode cX8_go 50 = .ok (.iconst 1, 1) := by decide +kernel
theorem dX8_go_51 : decode cX8_go 51 = .ok (.iload_n 2, 1) := by decide +kernel
theorem dX8_go_52 : decode cX8_go 52 = .ok (.i2l, 1) := by decide +kernel
theorem dX8_go_53 : decode cX8_go 53 = .ok (.lastore, 1) := by decide +kernel
theorem dX8_go_54 : decode cX8_go 54 = .ok (.aload_n 0, 1) := by decide +kernel
theorem dX8_go_55 : decode cX8_go 55 = .ok (.getfield 32, 3) := by decide +kernel
theorem dX8_go_58 : decode cX8_go 58 = .ok (.iconst 2, 1) := by decide +kernel
theorem dX8_go_59 : decode cX8_go 59 = .ok (.iload_n 3, 1) := by decide +kernel
theorem dX8_go_60 : decode cX8_go 60 = .ok (.i2l, 1) := by decide +kernel
theorem dX8_go_61 : decode cX8_go 61 = .ok (.lastore, 1) := by decide +kernel
theorem dX8_go_62 : decode cX8_go 62 = .ok (.aload_n 0, 1) := by decide +kernel
theorem dX8_go_63 : decode cX8_go 63 = .ok (.getfield 32, 3) := by decide +kernel
theorem dX8_go_66 : decode cX8_go 66 = .ok (.iconst 3, 1) := by decide +kernel
theorem dX8_go_67 : decode cX8_go 67 = .ok (.iload 4, 2) := by decide +kernel
theorem dX8_go_69 : decode cX8_go 69 = .ok (.i2l, 1) := by decide +kernel
theorem dX8_go_70 : decode cX8_go 70 = .ok (.lastore, 1) := by decide +kernel
theorem dX8_go_71 : decode cX8_go 71 = .ok (.iconst 0, 1) := by decide +kernel
theorem dX8_go_72 : decode cX8_go 72 = .ok (.istore 6, 2) := by decide +kernel
theorem dX8_go_74 : decode cX8_go 74 = .ok (.iconst 0, 1) := by decide +kernel
theorem dX8_go_75 : decode cX8_go 75 = .ok (.istore 7, 2) := by decide +kernel
theorem dX8_go_77 : decode cX8_go 77 = .ok (.bipush (-2), 2) := by decide +kernel
theorem dX8_go_79 : decode cX8_go 79 = .ok (.istore 8, 2) := by decide +kernel
theorem dX8_go_81 : decode cX8_go 81 = .ok (.iload 8, 2) := by decide +kernel
theorem dX8_go_83 : decode cX8_go 83 = .ok (.bipush (-2), 2) := by decide +kernel
theorem dX8_go_85 : decode cX8_go 85 = .ok (.if_icmp .ne 160, 3) := by decide +kernel
theorem dX8_go_88 : decode cX8_go 88 = .ok (.iload 6, 2) := by decide +kernel
theorem dX8_go_90 : decode cX8_go 90 = .ok (.aload_n 0, 1) := by decide +kernel
theorem dX8_go_91 : decode cX8_go 91 = .ok (.getfield 130, 3) := by decide +kernel
theorem dX8_go_94 : decode cX8_go 94 = .ok (.if_icmp .ge 10, 3) := by decide +kernel
theorem dX8_go_97 : decode cX8_go 97 = .ok (.iload 7, 2) := by decide +kernel
theorem dX8_go_99 : decode cX8_go 99 = .ok (.iload 5, 2) := by decide +kernel
theorem dX8_go_101 : decode cX8_go 101 = .ok (.if_icmp .ge 144, 3) := by decide +kernel
theorem dX8_go_104 : decode cX8_go 104 = .ok (.iload 6, 2) := by decide +kernel
theorem dX8_go_106 : decode cX8_go 106 = .ok (.aload_n 0, 1) := by decide +kernel
theorem dX8_go_107 : decode cX8_go 107 = .ok (.getfield 130, 3) := by decide +kernel
theorem dX8_go_110 : decode cX8_go 110 = .ok (.if_icmp .lt 9, 3) := by decide +kernel
theorem dX8_go_113 : decode cX8_go 113 = .ok (.iconst 0, 1) := by decide +kernel
theorem dX8_go_114 : decode cX8_go 114 = .ok (.istore 8, 2) := by decide +kernel
theorem dX8_go_116 : decode cX8_go 116 = .ok (.goto (-35), 3) := by decide +kernel
theorem dX8_go_119 : decode cX8_go 119 = .ok (.aload_n 0, 1) := by decide +kernel
theorem dX8_go_120 : decode cX8_go 120 = .ok (.getfield 58, 3) := by decide +kernel
theorem dX8_go_123 : decode cX8_go 123 = .ok (.iconst 4, 1) := by decide +kernel
theorem dX8_go_124 : decode cX8_go 124 = .ok (.iload 6, 2) := by decide +kernel
theorem dX8_go_126 : decode cX8_go 126 = .ok (.imul, 1) := by decide +kernel
theorem dX8_go_127 : decode cX8_go 127 = .ok (.iaload, 1) := by decide +kernel
theorem dX8_go_128 : decode cX8_go 128 = .ok (.istore 9, 2) := by decide +kernel
theorem dX8_go_130 : decode cX8_go 130 = .ok (.aload_n 0, 1) := by decide +kernel
theorem dX8_go_131 : decode cX8_go 131 = .ok (.getfield 58, 3) := by decide +kernel
theorem dX8_go_134 : decode cX8_go 134 = .ok (.iconst 4, 1) := by decide +kernel
theorem dX8_go_135 : decode cX8_go 135 = .ok (.iload 6, 2) := by decide +kernel
theorem dX8_go_137 : decode cX8_go 137 = .ok (.imul, 1) := by decide +kernel
theorem dX8_go_138 : decode cX8_go 138 = .ok (.iconst 1, 1) := by decide +kernel
theorem dX8_go_139 : decode cX8_go 139 = .ok (.iadd, 1) := by decide +kernel
theorem dX8_go_140 : decode cX8_go 140 = .ok (.iaload, 1) := by decide +kernel
theorem dX8_go_141 : decode cX8_go 141 = .ok (.istore 10, 2) := by decide +kernel
theorem dX8_go_143 : decode cX8_go 143 = .ok (.iinc 7 1, 3) := by decide +kernel
theorem dX8_go_146 : decode cX8_go 146 = .ok (.iload 9, 2) := by decide +kernel
theorem dX8_go_148 : decode cX8_go 148 = .ok (.iconst 2, 1) := by decide +kernel
theorem dX8_go_149 : decode cX8_go 149 = .ok (.if_icmp .ne 9, 3) := by decide +kernel
theorem dX8_go_152 : decode cX8_go 152 = .ok (.iconst 1, 1) := by decide +kernel
theorem dX8_go_153 : decode cX8_go 153 = .ok (.istore 8, 2) := by decide +kernel
theorem dX8_go_155 : decode cX8_go 155 = .ok (.goto 87, 3) := by decide +kernel
theorem dX8_go_158 : decode cX8_go 158 = .ok (.iload 9, 2) := by decide +kernel
theorem dX8_go_160 : decode cX8_go 160 = .ok (.ifCond .ne 30, 3) := by decide +kernel
theorem dX8_go_163 : decode cX8_go 163 = .ok (.aload_n 0, 1) := by decide +kernel
theorem dX8_go_164 : decode cX8_go 164 = .ok (.getfield 32, 3) := by decide +kernel
theorem dX8_go_167 : decode cX8_go 167 = .ok (.iload 10, 2) := by decide +kernel
theorem dX8_go_169 : decode cX8_go 169 = .ok (.dup2, 1) := by decide +kernel
theorem dX8_go_170 : decode cX8_go 170 = .ok (.laload, 1) := by decide +kernel
theorem dX8_go_171 : decode cX8_go 171 = .ok (.lconst 1, 1) := by decide +kernel
theorem dX8_go_172 : decode cX8_go 172 = .ok (.ladd, 1) := by decide +kernel
theorem dX8_go_173 : decode cX8_go 173 = .ok (.lastore, 1) := by decide +kernel
theorem dX8_go_174 : decode cX8_go 174 = .ok (.aload_n 0, 1) := by decide +kernel
theorem dX8_go_175 : decode cX8_go 175 = .ok (.getfield 58, 3) := by decide +kernel
theorem dX8_go_178 : decode cX8_go 178 = .ok (.iconst 4, 1) := by decide +kernel
theorem dX8_go_179 : decode cX8_go 179 = .ok (.iload 6, 2) := by decide +kernel
theorem dX8_go_181 : decode cX8_go 181 = .ok (.imul, 1) := by decide +kernel
theorem dX8_go_182 : decode cX8_go 182 = .ok (.iconst 2, 1) := by decide +kernel
theorem dX8_go_183 : decode cX8_go 183 = .ok (.iadd, 1) := by decide +kernel
theorem dX8_go_184 : decode cX8_go 184 = .ok (.iaload, 1) := by decide +kernel
theorem dX8_go_185 : decode cX8_go 185 = .ok (.istore 6, 2) := by decide +kernel
theorem dX8_go_187 : decode cX8_go 187 = .ok (.goto 55, 3) := by decide +kernel
theorem dX8_go_190 : decode cX8_go 190 = .ok (.aload_n 0, 1) := by decide +kernel
theorem dX8_go_191 : decode cX8_go 191 = .ok (.getfield 32, 3) := by decide +kernel
theorem dX8_go_194 : decode cX8_go 194 = .ok (.iload 10, 2) := by decide +kernel
theorem dX8_go_196 : decode cX8_go 196 = .ok (.laload, 1) := by decide +kernel
theorem dX8_go_197 : decode cX8_go 197 = .ok (.lconst 0, 1) := by decide +kernel
theorem dX8_go_198 : decode cX8_go 198 = .ok (.lcmp, 1) := by decide +kernel
theorem dX8_go_199 : decode cX8_go 199 = .ok (.ifCond .le 30, 3) := by decide +kernel
theorem dX8_go_202 : decode cX8_go 202 = .ok (.aload_n 0, 1) := by decide +kernel
theorem dX8_go_203 : decode cX8_go 203 = .ok (.getfield 32, 3) := by decide +kernel
theorem dX8_go_206 : decode cX8_go 206 = .ok (.iload 10, 2) := by decide +kernel
theorem dX8_go_208 : decode cX8_go 208 = .ok (.dup2, 1) := by decide +kernel
theorem dX8_go_209 : decode cX8_go 209 = .ok (.laload, 1) := by decide +kernel
theorem dX8_go_210 : decode cX8_go 210 = .ok (.lconst 1, 1) := by decide +kernel
theorem dX8_go_211 : decode cX8_go 211 = .ok (.lsub, 1) := by decide +kernel
theorem dX8_go_212 : decode cX8_go 212 = .ok (.lastore, 1) := by decide +kernel
theorem dX8_go_213 : decode cX8_go 213 = .ok (.aload_n 0, 1) := by decide +kernel
theorem dX8_go_214 : decode cX8_go 214 = .ok (.getfield 58, 3) := by decide +kernel
theorem dX8_go_217 : decode cX8_go 217 = .ok (.iconst 4, 1) := by decide +kernel
theorem dX8_go_218 : decode cX8_go 218 = .ok (.iload 6, 2) := by decide +kernel
theorem dX8_go_220 : decode cX8_go 220 = .ok (.imul, 1) := by decide +kernel
theorem dX8_go_221 : decode cX8_go 221 = .ok (.iconst 2, 1) := by decide +kernel
theorem dX8_go_222 : decode cX8_go 222 = .ok (.iadd, 1) := by decide +kernel
theorem dX8_go_223 : decode cX8_go 223 = .ok (.iaload, 1) := by decide +kernel
theorem dX8_go_224 : decode cX8_go 224 = .ok (.istore 6, 2) := by decide +kernel
theorem dX8_go_226 : decode cX8_go 226 = .ok (.goto 16, 3) := by decide +kernel
theorem dX8_go_229 : decode cX8_go 229 = .ok (.aload_n 0, 1) := by decide +kernel
theorem dX8_go_230 : decode cX8_go 230 = .ok (.getfield 58, 3) := by decide +kernel
theorem dX8_go_233 : decode cX8_go 233 = .ok (.iconst 4, 1) := by decide +kernel
theorem dX8_go_234 : decode cX8_go 234 = .ok (.iload 6, 2) := by decide +kernel
theorem dX8_go_236 : decode cX8_go 236 = .ok (.imul, 1) := by decide +kernel
theorem dX8_go_237 : decode cX8_go 237 = .ok (.iconst 3, 1) := by decide +kernel
theorem dX8_go_238 : decode cX8_go 238 = .ok (.iadd, 1) := by decide +kernel
theorem dX8_go_239 : decode cX8_go 239 = .ok (.iaload, 1) := by decide +kernel
theorem dX8_go_240 : decode cX8_go 240 = .ok (.istore 6, 2) := by decide +kernel
theorem dX8_go_242 : decode cX8_go 242 = .ok (.goto (-161), 3) := by decide +kernel
theorem dX8_go_245 : decode cX8_go 245 = .ok (.aload_n 0, 1) := by decide +kernel
theorem dX8_go_246 : decode cX8_go 246 = .ok (.getfield 32, 3) := by decide +kernel
theorem dX8_go_249 : decode cX8_go 249 = .ok (.iconst 4, 1) := by decide +kernel
theorem dX8_go_250 : decode cX8_go 250 = .ok (.iload 7, 2) := by decide +kernel
theorem dX8_go_252 : decode cX8_go 252 = .ok (.i2l, 1) := by decide +kernel
theorem dX8_go_253 : decode cX8_go 253 = .ok (.lastore, 1) := by decide +kernel
theorem dX8_go_254 : decode cX8_go 254 = .ok (.aload_n 0, 1) := by decide +kernel
theorem dX8_go_255 : decode cX8_go 255 = .ok (.iconst 5, 1) := by decide +kernel
theorem dX8_go_256 : decode cX8_go 256 = .ok (.invokevirtual 164, 3) := by decide +kernel
theorem dX8_go_259 : decode cX8_go 259 = .ok (.iload 8, 2) := by decide +kernel
theorem dX8_go_261 : decode cX8_go 261 = .ok (.ireturn, 1) := by decide +kernel
theorem dX8_isPrime_0 : decode cX8_isPrime 0 = .ok (.iconst 2, 1) := by decide +kernel
theorem dX8_isPrime_1 : decode cX8_isPrime 1 = .ok (.istore_n 1, 1) := by decide +kernel
theorem dX8_isPrime_2 : decode cX8_isPrime 2 = .ok (.iload_n 1, 1) := by decide +kernel
theorem dX8_isPrime_3 : decode cX8_isPrime 3 = .ok (.iload_n 1, 1) := by decide +kernel
theorem dX8_isPrime_4 : decode cX8_isPrime 4 = .ok (.imul, 1) := by decide +kernel
theorem dX8_isPrime_5 : decode cX8_isPrime 5 = .ok (.iload_n 0, 1) := by decide +kernel
theorem dX8_isPrime_6 : decode cX8_isPrime 6 = .ok (.if_icmp .gt 17, 3) := by decide +kernel
theorem dX8_isPrime_9 : decode cX8_isPrime 9 = .ok (.iload_n 0, 1) := by decide +kernel
theorem dX8_isPrime_10 : decode cX8_isPrime 10 = .ok (.iload_n 1, 1) := by decide +kernel
theorem dX8_isPrime_11 : decode cX8_isPrime 11 = .ok (.irem, 1) := by decide +kernel
theorem dX8_isPrime_12 : decode cX8_isPrime 12 = .ok (.ifCond .ne 5, 3) := by decide +kernel
theorem dX8_isPrime_15 : decode cX8_isPrime 15 = .ok (.iconst 0, 1) := by decide +kernel
theorem dX8_isPrime_16 : decode cX8_isPrime 16 = .ok (.ireturn, 1) := by decide +kernel
theorem dX8_isPrime_17 : decode cX8_isPrime 17 = .ok (.iinc 1 1, 3) := by decide +kernel
theorem dX8_isPrime_20 : decode cX8_isPrime 20 = .ok (.goto (-18), 3) := by decide +kernel
theorem dX8_isPrime_23 : decode cX8_isPrime 23 = .ok (.iconst 1, 1) := by decide +kernel
theorem dX8_isPrime_24 : decode cX8_isPrime 24 = .ok (.ireturn, 1) := by decide +kernel
set_option maxRecDepth 20000 in
theorem ggX8_prime_X8_isPrime : GoodIn wsX8_prime wsX8_isPrime := goodIn_ca (goodIn_r _ [4] (by decide +kernel) (by decide +kernel)) (goodIn_sub (fun _ h => List.mem_cons_of_mem _ (List.mem_append_right _ h)) (by decide +kernel))
set_option maxRecDepth 20000 in
theorem gX8_prime_X8_isPrime : GoodIn wsX8_prime (va_wsS RX8 253 yX8_isPrime wsX8_isPrime) := goodIn_app (goodIn_of _ (by decide +kernel)) ggX8_prime_X8_isPrime
theorem dX8_prime_0 : decode cX8_prime 0 = .ok (.iload_n 0, 1) := by decide +kernel
theorem dX8_prime_1 : decode cX8_prime 1 = .ok (.istore_n 1, 1) := by decide +kernel
theorem dX8_prime_2 : decode cX8_prime 2 = .ok (.bipush 11, 2) := by decide +kernel
theorem dX8_prime_4 : decode cX8_prime 4 = .ok (.istore_n 2, 1) := by decide +kernel
theorem dX8_prime_5 : decode cX8_prime 5 = .ok (.iload_n 1, 1) := by decide +kernel
theorem dX8_prime_6 : decode cX8_prime 6 = .ok (.ifCond .gt 10, 3) := by decide +kernel
theorem dX8_prime_9 : decode cX8_prime 9 = .ok (.iload_n 2, 1) := by decide +kernel
theorem dX8_prime_10 : decode cX8_prime 10 = .ok (.invokestatic 253, 3) := by decide +kernel
theorem dX8_prime_13 : decode cX8_prime 13 = .ok (.ifCond .ne 24, 3) := by decide +kernel
theorem dX8_prime_16 : decode cX8_prime 16 = .ok (.iload_n 1, 1) := by decide +kernel
theorem dX8_prime_17 : decode cX8_prime 17 = .ok (.iload_n 2, 1) := by decide +kernel
theorem dX8_prime_18 : decode cX8_prime 18 = .ok (.invokestatic 253, 3) := by decide +kernel
theorem dX8_prime_21 : decode cX8_prime 21 = .ok (.ifCond .eq 7, 3) := by decide +kernel
theorem dX8_prime_24 : decode cX8_prime 24 = .ok (.iconst 1, 1) := by decide +kernel
theorem dX8_prime_25 : decode cX8_prime 25 = .ok (.goto 4, 3) := by decide +kernel
theorem dX8_prime_28 : decode cX8_prime 28 = .ok (.iconst 0, 1) := by decide +kernel
theorem dX8_prime_29 : decode cX8_prime 29 = .ok (.isub, 1) := by decide +kernel
theorem dX8_prime_30 : decode cX8_prime 30 = .ok (.istore_n 1, 1) := by decide +kernel
theorem dX8_prime_31 : decode cX8_prime 31 = .ok (.iinc 2 1, 3) := by decide +kernel
theorem dX8_prime_34 : decode cX8_prime 34 = .ok (.goto (-29), 3) := by decide +kernel
theorem dX8_prime_37 : decode cX8_prime 37 = .ok (.iload_n 2, 1) := by decide +kernel
theorem dX8_prime_38 : decode cX8_prime 38 = .ok (.ireturn, 1) := by decide +kernel
theorem dX8_heapPrime_0 : decode cX8_heapPrime 0 = .ok (.iload_n 0, 1) := by decide +kernel
theorem dX8_heapPrime_1 : decode cX8_heapPrime 1 = .ok (.ifCond .ne 7, 3) := by decide +kernel
theorem dX8_heapPrime_4 : decode cX8_heapPrime 4 = .ok (.iconst 2, 1) := by decide +kernel
theorem dX8_heapPrime_5 : decode cX8_heapPrime 5 = .ok (.goto 23, 3) := by decide +kernel
theorem dX8_heapPrime_8 : decode cX8_heapPrime 8 = .ok (.iload_n 0, 1) := by decide +kernel
theorem dX8_heapPrime_9 : decode cX8_heapPrime 9 = .ok (.iconst 1, 1) := by decide +kernel
theorem dX8_heapPrime_10 : decode cX8_heapPrime 10 = .ok (.if_icmp .ne 7, 3) := by decide +kernel
theorem dX8_heapPrime_13 : decode cX8_heapPrime 13 = .ok (.iconst 3, 1) := by decide +kernel
theorem dX8_heapPrime_14 : decode cX8_heapPrime 14 = .ok (.goto 14, 3) := by decide +kernel
theorem dX8_heapPrime_17 : decode cX8_heapPrime 17 = .ok (.iload_n 0, 1) := by decide +kernel
theorem dX8_heapPrime_18 : decode cX8_heapPrime 18 = .ok (.iconst 2, 1) := by decide +kernel
theorem dX8_heapPrime_19 : decode cX8_heapPrime 19 = .ok (.if_icmp .ne 7, 3) := by decide +kernel
theorem dX8_heapPrime_22 : decode cX8_heapPrime 22 = .ok (.iconst 5, 1) := by decide +kernel
theorem dX8_heapPrime_23 : decode cX8_heapPrime 23 = .ok (.goto 5, 3) := by decide +kernel
theorem dX8_heapPrime_26 : decode cX8_heapPrime 26 = .ok (.bipush 7, 2) := by decide +kernel
theorem dX8_heapPrime_28 : decode cX8_heapPrime 28 = .ok (.ireturn, 1) := by decide +kernel
set_option maxRecDepth 20000 in
theorem ggX8_goPrime_X8_prime : GoodIn wsX8_goPrime wsX8_prime := goodIn_ca (goodIn_r _ [4, 5, 6, 3, 7] (by decide +kernel) (by decide +kernel)) (goodIn_sub (fun _ h => List.mem_cons_of_mem _ (List.mem_append_right _ h)) (by decide +kernel))
set_option maxRecDepth 20000 in
theorem gX8_goPrime_X8_prime : GoodIn wsX8_goPrime (va_wsS RX8 257 yX8_prime wsX8_prime) := goodIn_app (goodIn_of _ (by decide +kernel)) ggX8_goPrime_X8_prime
theorem dX8_goPrime_0 : decode cX8_goPrime 0 = .ok (.iconst 2, 1) := by decide +kernel
theorem dX8_goPrime_1 : decode cX8_goPrime 1 = .ok (.iload_n 0, 1) := by decide +kernel
theorem dX8_goPrime_2 : decode cX8_goPrime 2 = .ok (.imul, 1) := by decide +kernel
theorem dX8_goPrime_3 : decode cX8_goPrime 3 = .ok (.invokestatic 257, 3) := by decide +kernel
theorem dX8_goPrime_6 : decode cX8_goPrime 6 = .ok (.ireturn, 1) := by decide +kernel
set_option maxRecDepth 20000 in
theorem ggX8_waitPrime_X8_prime : GoodIn wsX8_waitPrime wsX8_prime := goodIn_ca (goodIn_r _ [4, 5, 6, 3, 7] (by decide +kernel) (by decide +kernel)) (goodIn_sub (fun _ h => List.mem_cons_of_mem _ (List.mem_append_right _ h)) (by decide +kernel))
set_option maxRecDepth 20000 in
theorem gX8_waitPrime_X8_prime : GoodIn wsX8_waitPrime (va_wsS RX8 257 yX8_prime wsX8_prime) := goodIn_app (goodIn_of _ (by decide +kernel)) ggX8_waitPrime_X8_prime
theorem dX8_waitPrime_0 : decode cX8_waitPrime 0 = .ok (.iconst 2, 1) := by decide +kernel
theorem dX8_waitPrime_1 : decode cX8_waitPrime 1 = .ok (.iload_n 0, 1) := by decide +kernel
theorem dX8_waitPrime_2 : decode cX8_waitPrime 2 = .ok (.imul, 1) := by decide +kernel
theorem dX8_waitPrime_3 : decode cX8_waitPrime 3 = .ok (.iconst 1, 1) := by decide +kernel
theorem dX8_waitPrime_4 : decode cX8_waitPrime 4 = .ok (.iadd, 1) := by decide +kernel
theorem dX8_waitPrime_5 : decode cX8_waitPrime 5 = .ok (.invokestatic 257, 3) := by decide +kernel
theorem dX8_waitPrime_8 : decode cX8_waitPrime 8 = .ok (.ireturn, 1) := by decide +kernel
set_option maxRecDepth 20000 in
theorem ggX8_made_X8_heapPrime : GoodIn wsX8_made wsX8_heapPrime := goodIn_r _ [9] (by decide +kernel) (by decide +kernel)
set_option maxRecDepth 20000 in
theorem gX8_made_X8_heapPrime : GoodIn wsX8_made (va_wsS RX8 260 yX8_heapPrime wsX8_heapPrime) := goodIn_app (goodIn_of _ (by decide +kernel)) ggX8_made_X8_heapPrime
set_option maxRecDepth 20000 in
theorem ggX8_made_X8_waitPrime : GoodIn wsX8_made wsX8_waitPrime := goodIn_ca (goodIn_r _ [12, 13, 14, 8, 15, 16, 17, 18] (by decide +kernel) (by decide +kernel)) (goodIn_sub (fun _ h => List.mem_cons_of_mem _ (List.mem_append_right _ h)) (by decide +kernel))
set_option maxRecDepth 20000 in
theorem gX8_made_X8_waitPrime : GoodIn wsX8_made (va_wsS RX8 263 yX8_waitPrime wsX8_waitPrime) := goodIn_app (goodIn_of _ (by decide +kernel)) ggX8_made_X8_waitPrime
set_option maxRecDepth 20000 in
theorem ggX8_made_X8_goPrime : GoodIn wsX8_made wsX8_goPrime := goodIn_ca (goodIn_r _ [21, 13, 14, 8, 15, 16, 17, 18] (by decide +kernel) (by decide +kernel)) (goodIn_sub (fun _ h => List.mem_cons_of_mem _ (List.mem_append_right _ h)) (by decide +kernel))
set_option maxRecDepth 20000 in
theorem gX8_made_X8_goPrime : GoodIn wsX8_made (va_wsS RX8 266 yX8_goPrime wsX8_goPrime) := goodIn_app (goodIn_of _ (by decide +kernel)) ggX8_made_X8_goPrime
set_option maxRecDepth 20000 in
theorem ggX8_made_X8_add : GoodIn wsX8_made wsX8_add := goodIn_ca (goodIn_r _ [25, 26, 5, 27, 28, 29, 8, 30, 31, 32, 33, 34, 35, 36, 37, 38, 39, 40, 41, 42, 43, 44, 45, 46, 47, 48, 49, 50, 51, 52, 53, 54, 55, 56, 57, 58, 59, 60, 61, 62, 63] (by decide +kernel) (by decide +kernel)) (goodIn_sub (fun _ h => List.mem_cons_of_mem _ (List.mem_append_right _ h)) (by decide +kernel))
set_option maxRecDepth 20000 in
theorem gX8_made_X8_add : GoodIn wsX8_made (wsV RX8 120 RX8 yX8_add wsX8_add) := goodIn_app (goodIn_of _ (by decide +kernel)) ggX8_made_X8_add
theorem dX8_made_0 : decode cX8_made 0 = .ok (.aload_n 0, 1) := by decide +kernel
theorem dX8_made_1 : decode cX8_made 1 = .ok (.iconst 0, 1) := by decide +kernel
theorem dX8_made_2 : decode cX8_made 2 = .ok (.putfield 61, 3) := by decide +kernel
theorem dX8_made_5 : decode cX8_made 5 = .ok (.iconst 0, 1) := by decide +kernel
theorem dX8_made_6 : decode cX8_made 6 = .ok (.istore_n 1, 1) := by decide +kernel
theorem dX8_made_7 : decode cX8_made 7 = .ok (.iconst 0, 1) := by decide +kernel
theorem dX8_made_8 : decode cX8_made 8 = .ok (.istore_n 2, 1) := by decide +kernel
theorem dX8_made_9 : decode cX8_made 9 = .ok (.iload_n 2, 1) := by decide +kernel
theorem dX8_made_10 : decode cX8_made 10 = .ok (.aload_n 0, 1) := by decide +kernel
theorem dX8_made_11 : decode cX8_made 11 = .ok (.getfield 130, 3) := by decide +kernel
theorem dX8_made_14 : decode cX8_made 14 = .ok (.if_icmp .ge 29, 3) := by decide +kernel
theorem dX8_made_17 : decode cX8_made 17 = .ok (.iload_n 1, 1) := by decide +kernel
theorem dX8_made_18 : decode cX8_made 18 = .ok (.aload_n 0, 1) := by decide +kernel
theorem dX8_made_19 : decode cX8_made 19 = .ok (.getfield 58, 3) := by decide +kernel
theorem dX8_made_22 : decode cX8_made 22 = .ok (.iconst 4, 1) := by decide +kernel
theorem dX8_made_23 : decode cX8_made 23 = .ok (.iload_n 2, 1) := by decide +kernel
theorem dX8_made_24 : decode cX8_made 24 = .ok (.imul, 1) := by decide +kernel
theorem dX8_made_25 : decode cX8_made 25 = .ok (.iaload, 1) := by decide +kernel
theorem dX8_made_26 : decode cX8_made 26 = .ok (.iconst 1, 1) := by decide +kernel
theorem dX8_made_27 : decode cX8_made 27 = .ok (.if_icmp .ne 7, 3) := by decide +kernel
theorem dX8_made_30 : decode cX8_made 30 = .ok (.iconst 3, 1) := by decide +kernel
theorem dX8_made_31 : decode cX8_made 31 = .ok (.goto 4, 3) := by decide +kernel
theorem dX8_made_34 : decode cX8_made 34 = .ok (.iconst 2, 1) := by decide +kernel
theorem dX8_made_35 : decode cX8_made 35 = .ok (.iadd, 1) := by decide +kernel
theorem dX8_made_36 : decode cX8_made 36 = .ok (.istore_n 1, 1) := by decide +kernel
theorem dX8_made_37 : decode cX8_made 37 = .ok (.iinc 2 1, 3) := by decide +kernel
theorem dX8_made_40 : decode cX8_made 40 = .ok (.goto (-31), 3) := by decide +kernel
theorem dX8_made_43 : decode cX8_made 43 = .ok (.aload_n 0, 1) := by decide +kernel
theorem dX8_made_44 : decode cX8_made 44 = .ok (.getfield 130, 3) := by decide +kernel
theorem dX8_made_47 : decode cX8_made 47 = .ok (.ifCond .eq 9, 3) := by decide +kernel
theorem dX8_made_50 : decode cX8_made 50 = .ok (.iload_n 1, 1) := by decide +kernel
theorem dX8_made_51 : decode cX8_made 51 = .ok (.bipush 40, 2) := by decide +kernel
theorem dX8_made_53 : decode cX8_made 53 = .ok (.if_icmp .le 5, 3) := by decide +kernel
theorem dX8_made_56 : decode cX8_made 56 = .ok (.iconst (-1), 1) := by decide +kernel
theorem dX8_made_57 : decode cX8_made 57 = .ok (.ireturn, 1) := by decide +kernel
theorem dX8_made_58 : decode cX8_made 58 = .ok (.aload_n 0, 1) := by decide +kernel
theorem dX8_made_59 : decode cX8_made 59 = .ok (.iconst 2, 1) := by decide +kernel
theorem dX8_made_60 : decode cX8_made 60 = .ok (.putfield 108, 3) := by decide +kernel
theorem dX8_made_63 : decode cX8_made 63 = .ok (.aload_n 0, 1) := by decide +kernel
theorem dX8_made_64 : decode cX8_made 64 = .ok (.iconst 0, 1) := by decide +kernel
theorem dX8_made_65 : decode cX8_made 65 = .ok (.putfield 111, 3) := by decide +kernel
theorem dX8_made_68 : decode cX8_made 68 = .ok (.iconst 0, 1) := by decide +kernel
theorem dX8_made_69 : decode cX8_made 69 = .ok (.istore_n 2, 1) := by decide +kernel
theorem dX8_made_70 : decode cX8_made 70 = .ok (.iload_n 2, 1) := by decide +kernel
theorem dX8_made_71 : decode cX8_made 71 = .ok (.aload_n 0, 1) := by decide +kernel
theorem dX8_made_72 : decode cX8_made 72 = .ok (.getfield 130, 3) := by decide +kernel
theorem dX8_made_75 : decode cX8_made 75 = .ok (.if_icmp .ge 137, 3) := by decide +kernel
theorem dX8_made_78 : decode cX8_made 78 = .ok (.aload_n 0, 1) := by decide +kernel
theorem dX8_made_79 : decode cX8_made 79 = .ok (.getfield 58, 3) := by decide +kernel
theorem dX8_made_82 : decode cX8_made 82 = .ok (.iconst 4, 1) := by decide +kernel
theorem dX8_made_83 : decode cX8_made 83 = .ok (.iload_n 2, 1) := by decide +kernel
theorem dX8_made_84 : decode cX8_made 84 = .ok (.imul, 1) := by decide +kernel
theorem dX8_made_85 : decode cX8_made 85 = .ok (.iconst 1, 1) := by decide +kernel
theorem dX8_made_86 : decode cX8_made 86 = .ok (.iadd, 1) := by decide +kernel
theorem dX8_made_87 : decode cX8_made 87 = .ok (.iaload, 1) := by decide +kernel
theorem dX8_made_88 : decode cX8_made 88 = .ok (.invokestatic 260, 3) := by decide +kernel
theorem dX8_made_91 : decode cX8_made 91 = .ok (.istore_n 3, 1) := by decide +kernel
theorem dX8_made_92 : decode cX8_made 92 = .ok (.aload_n 0, 1) := by decide +kernel
theorem dX8_made_93 : decode cX8_made 93 = .ok (.getfield 58, 3) := by decide +kernel
theorem dX8_made_96 : decode cX8_made 96 = .ok (.iconst 4, 1) := by decide +kernel
theorem dX8_made_97 : decode cX8_made 97 = .ok (.iload_n 2, 1) := by decide +kernel
theorem dX8_made_98 : decode cX8_made 98 = .ok (.imul, 1) := by decide +kernel
theorem dX8_made_99 : decode cX8_made 99 = .ok (.iaload, 1) := by decide +kernel
theorem dX8_made_100 : decode cX8_made 100 = .ok (.ifCond .ne 32, 3) := by decide +kernel
theorem dX8_made_103 : decode cX8_made 103 = .ok (.aload_n 0, 1) := by decide +kernel
theorem dX8_made_104 : decode cX8_made 104 = .ok (.aload_n 0, 1) := by decide +kernel
theorem dX8_made_105 : decode cX8_made 105 = .ok (.getfield 58, 3) := by decide +kernel
theorem dX8_made_108 : decode cX8_made 108 = .ok (.iconst 4, 1) := by decide +kernel
theorem dX8_made_109 : decode cX8_made 109 = .ok (.iload_n 2, 1) := by decide +kernel
theorem dX8_made_110 : decode cX8_made 110 = .ok (.imul, 1) := by decide +kernel
theorem dX8_made_111 : decode cX8_made 111 = .ok (.iconst 2, 1) := by decide +kernel
theorem dX8_made_112 : decode cX8_made 112 = .ok (.iadd, 1) := by decide +kernel
theorem dX8_made_113 : decode cX8_made 113 = .ok (.iaload, 1) := by decide +kernel
theorem dX8_made_114 : decode cX8_made 114 = .ok (.invokestatic 263, 3) := by decide +kernel
theorem dX8_made_117 : decode cX8_made 117 = .ok (.i2l, 1) := by decide +kernel
theorem dX8_made_118 : decode cX8_made 118 = .ok (.iload_n 3, 1) := by decide +kernel
theorem dX8_made_119 : decode cX8_made 119 = .ok (.i2l, 1) := by decide +kernel
theorem dX8_made_120 : decode cX8_made 120 = .ok (.lmul, 1) := by decide +kernel
theorem dX8_made_121 : decode cX8_made 121 = .ok (.iload_n 2, 1) := by decide +kernel
theorem dX8_made_122 : decode cX8_made 122 = .ok (.invokestatic 266, 3) := by decide +kernel
theorem dX8_made_125 : decode cX8_made 125 = .ok (.i2l, 1) := by decide +kernel
theorem dX8_made_126 : decode cX8_made 126 = .ok (.invokevirtual 120, 3) := by decide +kernel
theorem dX8_made_129 : decode cX8_made 129 = .ok (.goto 77, 3) := by decide +kernel
theorem dX8_made_132 : decode cX8_made 132 = .ok (.aload_n 0, 1) := by decide +kernel
theorem dX8_made_133 : decode cX8_made 133 = .ok (.getfield 58, 3) := by decide +kernel
theorem dX8_made_136 : decode cX8_made 136 = .ok (.iconst 4, 1) := by decide +kernel
theorem dX8_made_137 : decode cX8_made 137 = .ok (.iload_n 2, 1) := by decide +kernel
theorem dX8_made_138 : decode cX8_made 138 = .ok (.imul, 1) := by decide +kernel
theorem dX8_made_139 : decode cX8_made 139 = .ok (.iaload, 1) := by decide +kernel
theorem dX8_made_140 : decode cX8_made 140 = .ok (.iconst 1, 1) := by decide +kernel
theorem dX8_made_141 : decode cX8_made 141 = .ok (.if_icmp .ne 55, 3) := by decide +kernel
theorem dX8_made_144 : decode cX8_made 144 = .ok (.aload_n 0, 1) := by decide +kernel
theorem dX8_made_145 : decode cX8_made 145 = .ok (.aload_n 0, 1) := by decide +kernel
theorem dX8_made_146 : decode cX8_made 146 = .ok (.getfield 58, 3) := by decide +kernel
theorem dX8_made_149 : decode cX8_made 149 = .ok (.iconst 4, 1) := by decide +kernel
theorem dX8_made_150 : decode cX8_made 150 = .ok (.iload_n 2, 1) := by decide +kernel
theorem dX8_made_151 : decode cX8_made 151 = .ok (.imul, 1) := by decide +kernel
theorem dX8_made_152 : decode cX8_made 152 = .ok (.iconst 2, 1) := by decide +kernel
theorem dX8_made_153 : decode cX8_made 153 = .ok (.iadd, 1) := by decide +kernel
theorem dX8_made_154 : decode cX8_made 154 = .ok (.iaload, 1) := by decide +kernel
theorem dX8_made_155 : decode cX8_made 155 = .ok (.invokestatic 263, 3) := by decide +kernel
theorem dX8_made_158 : decode cX8_made 158 = .ok (.i2l, 1) := by decide +kernel
theorem dX8_made_159 : decode cX8_made 159 = .ok (.iload_n 2, 1) := by decide +kernel
theorem dX8_made_160 : decode cX8_made 160 = .ok (.invokestatic 266, 3) := by decide +kernel
theorem dX8_made_163 : decode cX8_made 163 = .ok (.i2l, 1) := by decide +kernel
theorem dX8_made_164 : decode cX8_made 164 = .ok (.iload_n 3, 1) := by decide +kernel
theorem dX8_made_165 : decode cX8_made 165 = .ok (.i2l, 1) := by decide +kernel
theorem dX8_made_166 : decode cX8_made 166 = .ok (.lmul, 1) := by decide +kernel
theorem dX8_made_167 : decode cX8_made 167 = .ok (.invokevirtual 120, 3) := by decide +kernel
theorem dX8_made_170 : decode cX8_made 170 = .ok (.aload_n 0, 1) := by decide +kernel
theorem dX8_made_171 : decode cX8_made 171 = .ok (.aload_n 0, 1) := by decide +kernel
theorem dX8_made_172 : decode cX8_made 172 = .ok (.getfield 58, 3) := by decide +kernel
theorem dX8_made_175 : decode cX8_made 175 = .ok (.iconst 4, 1) := by decide +kernel
theorem dX8_made_176 : decode cX8_made 176 = .ok (.iload_n 2, 1) := by decide +kernel
theorem dX8_made_177 : decode cX8_made 177 = .ok (.imul, 1) := by decide +kernel
theorem dX8_made_178 : decode cX8_made 178 = .ok (.iconst 3, 1) := by decide +kernel
theorem dX8_made_179 : decode cX8_made 179 = .ok (.iadd, 1) := by decide +kernel
theorem dX8_made_180 : decode cX8_made 180 = .ok (.iaload, 1) := by decide +kernel
theorem dX8_made_181 : decode cX8_made 181 = .ok (.invokestatic 263, 3) := by decide +kernel
theorem dX8_made_184 : decode cX8_made 184 = .ok (.i2l, 1) := by decide +kernel
theorem dX8_made_185 : decode cX8_made 185 = .ok (.iload_n 2, 1) := by decide +kernel
theorem dX8_made_186 : decode cX8_made 186 = .ok (.invokestatic 266, 3) := by decide +kernel
theorem dX8_made_189 : decode cX8_made 189 = .ok (.i2l, 1) := by decide +kernel
theorem dX8_made_190 : decode cX8_made 190 = .ok (.invokevirtual 120, 3) := by decide +kernel
theorem dX8_made_193 : decode cX8_made 193 = .ok (.goto 13, 3) := by decide +kernel
theorem dX8_made_196 : decode cX8_made 196 = .ok (.aload_n 0, 1) := by decide +kernel
theorem dX8_made_197 : decode cX8_made 197 = .ok (.lconst 1, 1) := by decide +kernel
theorem dX8_made_198 : decode cX8_made 198 = .ok (.iload_n 2, 1) := by decide +kernel
theorem dX8_made_199 : decode cX8_made 199 = .ok (.invokestatic 266, 3) := by decide +kernel
theorem dX8_made_202 : decode cX8_made 202 = .ok (.i2l, 1) := by decide +kernel
theorem dX8_made_203 : decode cX8_made 203 = .ok (.invokevirtual 120, 3) := by decide +kernel
theorem dX8_made_206 : decode cX8_made 206 = .ok (.iinc 2 1, 3) := by decide +kernel
theorem dX8_made_209 : decode cX8_made 209 = .ok (.goto (-139), 3) := by decide +kernel
theorem dX8_made_212 : decode cX8_made 212 = .ok (.iconst 0, 1) := by decide +kernel
theorem dX8_made_213 : decode cX8_made 213 = .ok (.istore_n 2, 1) := by decide +kernel
theorem dX8_made_214 : decode cX8_made 214 = .ok (.iload_n 2, 1) := by decide +kernel
theorem dX8_made_215 : decode cX8_made 215 = .ok (.aload_n 0, 1) := by decide +kernel
theorem dX8_made_216 : decode cX8_made 216 = .ok (.getfield 130, 3) := by decide +kernel
theorem dX8_made_219 : decode cX8_made 219 = .ok (.if_icmp .ge 23, 3) := by decide +kernel
theorem dX8_made_222 : decode cX8_made 222 = .ok (.aload_n 0, 1) := by decide +kernel
theorem dX8_made_223 : decode cX8_made 223 = .ok (.iload_n 2, 1) := by decide +kernel
theorem dX8_made_224 : decode cX8_made 224 = .ok (.invokestatic 266, 3) := by decide +kernel
theorem dX8_made_227 : decode cX8_made 227 = .ok (.i2l, 1) := by decide +kernel
theorem dX8_made_228 : decode cX8_made 228 = .ok (.iload_n 2, 1) := by decide +kernel
theorem dX8_made_229 : decode cX8_made 229 = .ok (.invokestatic 263, 3) := by decide +kernel
theorem dX8_made_232 : decode cX8_made 232 = .ok (.i2l, 1) := by decide +kernel
theorem dX8_made_233 : decode cX8_made 233 = .ok (.invokevirtual 120, 3) := by decide +kernel
theorem dX8_made_236 : decode cX8_made 236 = .ok (.iinc 2 1, 3) := by decide +kernel
theorem dX8_made_239 : decode cX8_made 239 = .ok (.goto (-25), 3) := by decide +kernel
theorem dX8_made_242 : decode cX8_made 242 = .ok (.aload_n 0, 1) := by decide +kernel
theorem dX8_made_243 : decode cX8_made 243 = .ok (.getfield 111, 3) := by decide +kernel
theorem dX8_made_246 : decode cX8_made 246 = .ok (.ireturn, 1) := by decide +kernel
set_option maxRecDepth 20000 in
theorem ggX8_begins_X8_areHeaps : GoodIn wsX8_begins wsX8_areHeaps := goodIn_r _ [7, 8, 9, 10, 6, 11] (by decide +kernel) (by decide +kernel)
set_option maxRecDepth 20000 in
theorem gX8_begins_X8_areHeaps : GoodIn wsX8_begins (va_wsS RX8 249 yX8_areHeaps wsX8_areHeaps) := goodIn_app (goodIn_of _ (by decide +kernel)) ggX8_begins_X8_areHeaps
set_option maxRecDepth 20000 in
theorem ggX8_begins_X8_refuse : GoodIn wsX8_begins wsX8_refuse := goodIn_r _ [15, 1, 28, 29, 30, 31, 32, 33, 34, 35, 36, 37, 38, 39, 40, 41, 42, 43, 44, 45, 46, 47, 48, 49, 50, 51, 52, 53, 54, 55, 56, 57, 58, 59, 60] (by decide +kernel) (by decide +kernel)
set_option maxRecDepth 20000 in
theorem gX8_begins_X8_refuse : GoodIn wsX8_begins (wsV RX8 98 RX8 yX8_refuse wsX8_refuse) := goodIn_app (goodIn_of _ (by decide +kernel)) ggX8_begins_X8_refuse
set_option maxRecDepth 20000 in
theorem ggX8_begins_X8_goPrime : GoodIn wsX8_begins wsX8_goPrime := goodIn_ca (goodIn_r _ [18, 19, 20, 6, 21, 22, 23, 24] (by decide +kernel) (by decide +kernel)) (goodIn_sub (fun _ h => List.mem_cons_of_mem _ (List.mem_append_right _ h)) (by decide +kernel))
set_option maxRecDepth 20000 in
theorem gX8_begins_X8_goPrime : GoodIn wsX8_begins (va_wsS RX8 266 yX8_goPrime wsX8_goPrime) := goodIn_app (goodIn_of _ (by decide +kernel)) ggX8_begins_X8_goPrime
set_option maxRecDepth 20000 in
theorem ggX8_begins_X8_heapPrime : GoodIn wsX8_begins wsX8_heapPrime := goodIn_r _ [27] (by decide +kernel) (by decide +kernel)
set_option maxRecDepth 20000 in
theorem gX8_begins_X8_heapPrime : GoodIn wsX8_begins (va_wsS RX8 260 yX8_heapPrime wsX8_heapPrime) := goodIn_app (goodIn_of _ (by decide +kernel)) ggX8_begins_X8_heapPrime
theorem dX8_begins_0 : decode cX8_begins 0 = .ok (.aload_n 0, 1) := by decide +kernel
theorem dX8_begins_1 : decode cX8_begins 1 = .ok (.iconst 0, 1) := by decide +kernel
theorem dX8_begins_2 : decode cX8_begins 2 = .ok (.putfield 61, 3) := by decide +kernel
theorem dX8_begins_5 : decode cX8_begins 5 = .ok (.iload_n 1, 1) := by decide +kernel
theorem dX8_begins_6 : decode cX8_begins 6 = .ok (.iload_n 2, 1) := by decide +kernel
theorem dX8_begins_7 : decode cX8_begins 7 = .ok (.iload_n 3, 1) := by decide +kernel
theorem dX8_begins_8 : decode cX8_begins 8 = .ok (.iload 4, 2) := by decide +kernel
theorem dX8_begins_10 : decode cX8_begins 10 = .ok (.invokestatic 249, 3) := by decide +kernel
theorem dX8_begins_13 : decode cX8_begins 13 = .ok (.ifCond .ne 9, 3) := by decide +kernel
theorem dX8_begins_16 : decode cX8_begins 16 = .ok (.aload_n 0, 1) := by decide +kernel
theorem dX8_begins_17 : decode cX8_begins 17 = .ok (.iconst 1, 1) := by decide +kernel
theorem dX8_begins_18 : decode cX8_begins 18 = .ok (.invokevirtual 98, 3) := by decide +kernel
theorem dX8_begins_21 : decode cX8_begins 21 = .ok (.lreturn, 1) := by decide +kernel
theorem dX8_begins_22 : decode cX8_begins 22 = .ok (.iconst 0, 1) := by decide +kernel
theorem dX8_begins_23 : decode cX8_begins 23 = .ok (.invokestatic 266, 3) := by decide +kernel
theorem dX8_begins_26 : decode cX8_begins 26 = .ok (.i2l, 1) := by decide +kernel
theorem dX8_begins_27 : decode cX8_begins 27 = .ok (.lstore 5, 2) := by decide +kernel
theorem dX8_begins_29 : decode cX8_begins 29 = .ok (.iconst 4, 1) := by decide +kernel
theorem dX8_begins_30 : decode cX8_begins 30 = .ok (.newarray .int, 2) := by decide +kernel
theorem dX8_begins_32 : decode cX8_begins 32 = .ok (.dup, 1) := by decide +kernel
theorem dX8_begins_33 : decode cX8_begins 33 = .ok (.iconst 0, 1) := by decide +kernel
theorem dX8_begins_34 : decode cX8_begins 34 = .ok (.iload_n 1, 1) := by decide +kernel
theorem dX8_begins_35 : decode cX8_begins 35 = .ok (.iastore, 1) := by decide +kernel
theorem dX8_begins_36 : decode cX8_begins 36 = .ok (.dup, 1) := by decide +kernel
theorem dX8_begins_37 : decode cX8_begins 37 = .ok (.iconst 1, 1) := by decide +kernel
theorem dX8_begins_38 : decode cX8_begins 38 = .ok (.iload_n 2, 1) := by decide +kernel
theorem dX8_begins_39 : decode cX8_begins 39 = .ok (.iastore, 1) := by decide +kernel
theorem dX8_begins_40 : decode cX8_begins 40 = .ok (.dup, 1) := by decide +kernel
theorem dX8_begins_41 : decode cX8_begins 41 = .ok (.iconst 2, 1) := by decide +kernel
theorem dX8_begins_42 : decode cX8_begins 42 = .ok (.iload_n 3, 1) := by decide +kernel
theorem dX8_begins_43 : decode cX8_begins 43 = .ok (.iastore, 1) := by decide +kernel
theorem dX8_begins_44 : decode cX8_begins 44 = .ok (.dup, 1) := by decide +kernel
theorem dX8_begins_45 : decode cX8_begins 45 = .ok (.iconst 3, 1) := by decide +kernel
theorem dX8_begins_46 : decode cX8_begins 46 = .ok (.iload 4, 2) := by decide +kernel
theorem dX8_begins_48 : decode cX8_begins 48 = .ok (.iastore, 1) := by decide +kernel
theorem dX8_begins_49 : decode cX8_begins 49 = .ok (.astore 7, 2) := by decide +kernel
theorem dX8_begins_51 : decode cX8_begins 51 = .ok (.iconst 0, 1) := by decide +kernel
theorem dX8_begins_52 : decode cX8_begins 52 = .ok (.istore 8, 2) := by decide +kernel
theorem dX8_begins_54 : decode cX8_begins 54 = .ok (.iload 8, 2) := by decide +kernel
theorem dX8_begins_56 : decode cX8_begins 56 = .ok (.iconst 4, 1) := by decide +kernel
theorem dX8_begins_57 : decode cX8_begins 57 = .ok (.if_icmp .ge 54, 3) := by decide +kernel
theorem dX8_begins_60 : decode cX8_begins 60 = .ok (.iconst 0, 1) := by decide +kernel
theorem dX8_begins_61 : decode cX8_begins 61 = .ok (.istore 9, 2) := by decide +kernel
theorem dX8_begins_63 : decode cX8_begins 63 = .ok (.iload 9, 2) := by decide +kernel
theorem dX8_begins_65 : decode cX8_begins 65 = .ok (.aload 7, 2) := by decide +kernel
theorem dX8_begins_67 : decode cX8_begins 67 = .ok (.iload 8, 2) := by decide +kernel
theorem dX8_begins_69 : decode cX8_begins 69 = .ok (.iaload, 1) := by decide +kernel
theorem dX8_begins_70 : decode cX8_begins 70 = .ok (.if_icmp .ge 35, 3) := by decide +kernel
theorem dX8_begins_73 : decode cX8_begins 73 = .ok (.lload 5, 2) := by decide +kernel
theorem dX8_begins_75 : decode cX8_begins 75 = .ok (.iload 8, 2) := by decide +kernel
theorem dX8_begins_77 : decode cX8_begins 77 = .ok (.invokestatic 260, 3) := by decide +kernel
theorem dX8_begins_80 : decode cX8_begins 80 = .ok (.i2l, 1) := by decide +kernel
theorem dX8_begins_81 : decode cX8_begins 81 = .ok (.lmul, 1) := by decide +kernel
theorem dX8_begins_82 : decode cX8_begins 82 = .ok (.lstore 5, 2) := by decide +kernel
theorem dX8_begins_84 : decode cX8_begins 84 = .ok (.lload 5, 2) := by decide +kernel
theorem dX8_begins_86 : decode cX8_begins 86 = .ok (.ldc2_w 66, 3) := by decide +kernel
theorem dX8_begins_89 : decode cX8_begins 89 = .ok (.lcmp, 1) := by decide +kernel
theorem dX8_begins_90 : decode cX8_begins 90 = .ok (.ifCond .le 9, 3) := by decide +kernel
theorem dX8_begins_93 : decode cX8_begins 93 = .ok (.aload_n 0, 1) := by decide +kernel
theorem dX8_begins_94 : decode cX8_begins 94 = .ok (.iconst 2, 1) := by decide +kernel
theorem dX8_begins_95 : decode cX8_begins 95 = .ok (.invokevirtual 98, 3) := by decide +kernel
theorem dX8_begins_98 : decode cX8_begins 98 = .ok (.lreturn, 1) := by decide +kernel
theorem dX8_begins_99 : decode cX8_begins 99 = .ok (.iinc 9 1, 3) := by decide +kernel
theorem dX8_begins_102 : decode cX8_begins 102 = .ok (.goto (-39), 3) := by decide +kernel
theorem dX8_begins_105 : decode cX8_begins 105 = .ok (.iinc 8 1, 3) := by decide +kernel
theorem dX8_begins_108 : decode cX8_begins 108 = .ok (.goto (-54), 3) := by decide +kernel
theorem dX8_begins_111 : decode cX8_begins 111 = .ok (.lload 5, 2) := by decide +kernel
theorem dX8_begins_113 : decode cX8_begins 113 = .ok (.lreturn, 1) := by decide +kernel
set_option maxRecDepth 20000 in
theorem ggX8_weight_X8_weightOf : GoodIn wsX8_weight wsX8_weightOf := goodIn_r _ [5, 1, 6, 7, 8] (by decide +kernel) (by decide +kernel)
set_option maxRecDepth 20000 in
theorem gX8_weight_X8_weightOf : GoodIn wsX8_weight (va_wsS RX8 269 yX8_weightOf wsX8_weightOf) := goodIn_app (goodIn_of _ (by decide +kernel)) ggX8_weight_X8_weightOf
theorem dX8_weight_0 : decode cX8_weight 0 = .ok (.lconst 0, 1) := by decide +kernel
theorem dX8_weight_1 : decode cX8_weight 1 = .ok (.lstore_n 3, 1) := by decide +kernel
theorem dX8_weight_2 : decode cX8_weight 2 = .ok (.lload_n 0, 1) := by decide +kernel
theorem dX8_weight_3 : decode cX8_weight 3 = .ok (.lstore 5, 2) := by decide +kernel
theorem dX8_weight_5 : decode cX8_weight 5 = .ok (.ldc2_w 72, 3) := by decide +kernel
theorem dX8_weight_8 : decode cX8_weight 8 = .ok (.lstore 7, 2) := by decide +kernel
theorem dX8_weight_10 : decode cX8_weight 10 = .ok (.lload 7, 2) := by decide +kernel
theorem dX8_weight_12 : decode cX8_weight 12 = .ok (.lload 7, 2) := by decide +kernel
theorem dX8_weight_14 : decode cX8_weight 14 = .ok (.lmul, 1) := by decide +kernel
theorem dX8_weight_15 : decode cX8_weight 15 = .ok (.lload 5, 2) := by decide +kernel
theorem dX8_weight_17 : decode cX8_weight 17 = .ok (.lcmp, 1) := by decide +kernel
theorem dX8_weight_18 : decode cX8_weight 18 = .ok (.ifCond .gt 41, 3) := by decide +kernel
theorem dX8_weight_21 : decode cX8_weight 21 = .ok (.lload 5, 2) := by decide +kernel
theorem dX8_weight_23 : decode cX8_weight 23 = .ok (.lload 7, 2) := by decide +kernel
theorem dX8_weight_25 : decode cX8_weight 25 = .ok (.lrem, 1) := by decide +kernel
theorem dX8_weight_26 : decode cX8_weight 26 = .ok (.lconst 0, 1) := by decide +kernel
theorem dX8_weight_27 : decode cX8_weight 27 = .ok (.lcmp, 1) := by decide +kernel
theorem dX8_weight_28 : decode cX8_weight 28 = .ok (.ifCond .ne 22, 3) := by decide +kernel
theorem dX8_weight_31 : decode cX8_weight 31 = .ok (.lload 5, 2) := by decide +kernel
theorem dX8_weight_33 : decode cX8_weight 33 = .ok (.lload 7, 2) := by decide +kernel
theorem dX8_weight_35 : decode cX8_weight 35 = .ok (.ldiv, 1) := by decide +kernel
theorem dX8_weight_36 : decode cX8_weight 36 = .ok (.lstore 5, 2) := by decide +kernel
theorem dX8_weight_38 : decode cX8_weight 38 = .ok (.lload_n 3, 1) := by decide +kernel
theorem dX8_weight_39 : decode cX8_weight 39 = .ok (.lload 7, 2) := by decide +kernel
theorem dX8_weight_41 : decode cX8_weight 41 = .ok (.aload_n 2, 1) := by decide +kernel
theorem dX8_weight_42 : decode cX8_weight 42 = .ok (.invokestatic 269, 3) := by decide +kernel
theorem dX8_weight_45 : decode cX8_weight 45 = .ok (.ladd, 1) := by decide +kernel
theorem dX8_weight_46 : decode cX8_weight 46 = .ok (.lstore_n 3, 1) := by decide +kernel
theorem dX8_weight_47 : decode cX8_weight 47 = .ok (.goto (-26), 3) := by decide +kernel
theorem dX8_weight_50 : decode cX8_weight 50 = .ok (.lload 7, 2) := by decide +kernel
theorem dX8_weight_52 : decode cX8_weight 52 = .ok (.lconst 1, 1) := by decide +kernel
theorem dX8_weight_53 : decode cX8_weight 53 = .ok (.ladd, 1) := by decide +kernel
theorem dX8_weight_54 : decode cX8_weight 54 = .ok (.lstore 7, 2) := by decide +kernel
theorem dX8_weight_56 : decode cX8_weight 56 = .ok (.goto (-46), 3) := by decide +kernel
theorem dX8_weight_59 : decode cX8_weight 59 = .ok (.lload 5, 2) := by decide +kernel
theorem dX8_weight_61 : decode cX8_weight 61 = .ok (.lconst 1, 1) := by decide +kernel
theorem dX8_weight_62 : decode cX8_weight 62 = .ok (.lcmp, 1) := by decide +kernel
theorem dX8_weight_63 : decode cX8_weight 63 = .ok (.ifCond .le 14, 3) := by decide +kernel
theorem dX8_weight_66 : decode cX8_weight 66 = .ok (.lload_n 3, 1) := by decide +kernel
theorem dX8_weight_67 : decode cX8_weight 67 = .ok (.lload 5, 2) := by decide +kernel
theorem dX8_weight_69 : decode cX8_weight 69 = .ok (.aload_n 2, 1) := by decide +kernel
theorem dX8_weight_70 : decode cX8_weight 70 = .ok (.invokestatic 269, 3) := by decide +kernel
theorem dX8_weight_73 : decode cX8_weight 73 = .ok (.ladd, 1) := by decide +kernel
theorem dX8_weight_74 : decode cX8_weight 74 = .ok (.goto 4, 3) := by decide +kernel
theorem dX8_weight_77 : decode cX8_weight 77 = .ok (.lload_n 3, 1) := by decide +kernel
theorem dX8_weight_78 : decode cX8_weight 78 = .ok (.lreturn, 1) := by decide +kernel
theorem dX8_weightOf_0 : decode cX8_weightOf 0 = .ok (.lload_n 0, 1) := by decide +kernel
theorem dX8_weightOf_1 : decode cX8_weightOf 1 = .ok (.ldc2_w 72, 3) := by decide +kernel
theorem dX8_weightOf_4 : decode cX8_weightOf 4 = .ok (.lcmp, 1) := by decide +kernel
theorem dX8_weightOf_5 : decode cX8_weightOf 5 = .ok (.ifCond .ne 10, 3) := by decide +kernel
theorem dX8_weightOf_8 : decode cX8_weightOf 8 = .ok (.aload_n 2, 1) := by decide +kernel
theorem dX8_weightOf_9 : decode cX8_weightOf 9 = .ok (.iconst 0, 1) := by decide +kernel
theorem dX8_weightOf_10 : decode cX8_weightOf 10 = .ok (.iaload, 1) := by decide +kernel
theorem dX8_weightOf_11 : decode cX8_weightOf 11 = .ok (.i2l, 1) := by decide +kernel
theorem dX8_weightOf_12 : decode cX8_weightOf 12 = .ok (.goto 52, 3) := by decide +kernel
theorem dX8_weightOf_15 : decode cX8_weightOf 15 = .ok (.lload_n 0, 1) := by decide +kernel
theorem dX8_weightOf_16 : decode cX8_weightOf 16 = .ok (.ldc2_w 83, 3) := by decide +kernel
theorem dX8_weightOf_19 : decode cX8_weightOf 19 = .ok (.lcmp, 1) := by decide +kernel
theorem dX8_weightOf_20 : decode cX8_weightOf 20 = .ok (.ifCond .ne 10, 3) := by decide +kernel
theorem dX8_weightOf_23 : decode cX8_weightOf 23 = .ok (.aload_n 2, 1) := by decide +kernel
theorem dX8_weightOf_24 : decode cX8_weightOf 24 = .ok (.iconst 1, 1) := by decide +kernel
theorem dX8_weightOf_25 : decode cX8_weightOf 25 = .ok (.iaload, 1) := by decide +kernel
theorem dX8_weightOf_26 : decode cX8_weightOf 26 = .ok (.i2l, 1) := by decide +kernel
theorem dX8_weightOf_27 : decode cX8_weightOf 27 = .ok (.goto 37, 3) := by decide +kernel
theorem dX8_weightOf_30 : decode cX8_weightOf 30 = .ok (.lload_n 0, 1) := by decide +kernel
theorem dX8_weightOf_31 : decode cX8_weightOf 31 = .ok (.ldc2_w 273, 3) := by decide +kernel
theorem dX8_weightOf_34 : decode cX8_weightOf 34 = .ok (.lcmp, 1) := by decide +kernel
theorem dX8_weightOf_35 : decode cX8_weightOf 35 = .ok (.ifCond .ne 10, 3) := by decide +kernel
theorem dX8_weightOf_38 : decode cX8_weightOf 38 = .ok (.aload_n 2, 1) := by decide +kernel
theorem dX8_weightOf_39 : decode cX8_weightOf 39 = .ok (.iconst 2, 1) := by decide +kernel
theorem dX8_weightOf_40 : decode cX8_weightOf 40 = .ok (.iaload, 1) := by decide +kernel
theorem dX8_weightOf_41 : decode cX8_weightOf 41 = .ok (.i2l, 1) := by decide +kernel
theorem dX8_weightOf_42 : decode cX8_weightOf 42 = .ok (.goto 22, 3) := by decide +kernel
theorem dX8_weightOf_45 : decode cX8_weightOf 45 = .ok (.lload_n 0, 1) := by decide +kernel
theorem dX8_weightOf_46 : decode cX8_weightOf 46 = .ok (.ldc2_w 275, 3) := by decide +kernel
theorem dX8_weightOf_49 : decode cX8_weightOf 49 = .ok (.lcmp, 1) := by decide +kernel
theorem dX8_weightOf_50 : decode cX8_weightOf 50 = .ok (.ifCond .ne 10, 3) := by decide +kernel
theorem dX8_weightOf_53 : decode cX8_weightOf 53 = .ok (.aload_n 2, 1) := by decide +kernel
theorem dX8_weightOf_54 : decode cX8_weightOf 54 = .ok (.iconst 3, 1) := by decide +kernel
theorem dX8_weightOf_55 : decode cX8_weightOf 55 = .ok (.iaload, 1) := by decide +kernel
theorem dX8_weightOf_56 : decode cX8_weightOf 56 = .ok (.i2l, 1) := by decide +kernel
theorem dX8_weightOf_57 : decode cX8_weightOf 57 = .ok (.goto 7, 3) := by decide +kernel
theorem dX8_weightOf_60 : decode cX8_weightOf 60 = .ok (.aload_n 2, 1) := by decide +kernel
theorem dX8_weightOf_61 : decode cX8_weightOf 61 = .ok (.iconst 4, 1) := by decide +kernel
theorem dX8_weightOf_62 : decode cX8_weightOf 62 = .ok (.iaload, 1) := by decide +kernel
theorem dX8_weightOf_63 : decode cX8_weightOf 63 = .ok (.i2l, 1) := by decide +kernel
theorem dX8_weightOf_64 : decode cX8_weightOf 64 = .ok (.lreturn, 1) := by decide +kernel
set_option maxRecDepth 20000 in
theorem ggX8_law_X8_weight : GoodIn wsX8_law wsX8_weight := goodIn_ca (goodIn_r _ [10, 11, 12, 13, 9, 14, 15, 16, 17] (by decide +kernel) (by decide +kernel)) (goodIn_sub (fun _ h => List.mem_cons_of_mem _ (List.mem_append_right _ h)) (by decide +kernel))
set_option maxRecDepth 20000 in
theorem gX8_law_X8_weight : GoodIn wsX8_law (va_wsS RX8 277 yX8_weight wsX8_weight) := goodIn_app (goodIn_of _ (by decide +kernel)) ggX8_law_X8_weight
theorem dX8_law_0 : decode cX8_law 0 = .ok (.aload_n 0, 1) := by decide +kernel
theorem dX8_law_1 : decode cX8_law 1 = .ok (.iconst 0, 1) := by decide +kernel
theorem dX8_law_2 : decode cX8_law 2 = .ok (.putfield 61, 3) := by decide +kernel
theorem dX8_law_5 : decode cX8_law 5 = .ok (.aload_n 0, 1) := by decide +kernel
theorem dX8_law_6 : decode cX8_law 6 = .ok (.getfield 108, 3) := by decide +kernel
theorem dX8_law_9 : decode cX8_law 9 = .ok (.iconst 2, 1) := by decide +kernel
theorem dX8_law_10 : decode cX8_law 10 = .ok (.if_icmp .eq 6, 3) := by decide +kernel
theorem dX8_law_13 : decode cX8_law 13 = .ok (.bipush (-2), 2) := by decide +kernel
theorem dX8_law_15 : decode cX8_law 15 = .ok (.ireturn, 1) := by decide +kernel
theorem dX8_law_16 : decode cX8_law 16 = .ok (.iconst 5, 1) := by decide +kernel
theorem dX8_law_17 : decode cX8_law 17 = .ok (.newarray .int, 2) := by decide +kernel
theorem dX8_law_19 : decode cX8_law 19 = .ok (.dup, 1) := by decide +kernel
theorem dX8_law_20 : decode cX8_law 20 = .ok (.iconst 0, 1) := by decide +kernel
theorem dX8_law_21 : decode cX8_law 21 = .ok (.iload_n 1, 1) := by decide +kernel
theorem dX8_law_22 : decode cX8_law 22 = .ok (.iastore, 1) := by decide +kernel
theorem dX8_law_23 : decode cX8_law 23 = .ok (.dup, 1) := by decide +kernel
theorem dX8_law_24 : decode cX8_law 24 = .ok (.iconst 1, 1) := by decide +kernel
theorem dX8_law_25 : decode cX8_law 25 = .ok (.iload_n 2, 1) := by decide +kernel
theorem dX8_law_26 : decode cX8_law 26 = .ok (.iastore, 1) := by decide +kernel
theorem dX8_law_27 : decode cX8_law 27 = .ok (.dup, 1) := by decide +kernel
theorem dX8_law_28 : decode cX8_law 28 = .ok (.iconst 2, 1) := by decide +kernel
theorem dX8_law_29 : decode cX8_law 29 = .ok (.iload_n 3, 1) := by decide +kernel
theorem dX8_law_30 : decode cX8_law 30 = .ok (.iastore, 1) := by decide +kernel
theorem dX8_law_31 : decode cX8_law 31 = .ok (.dup, 1) := by decide +kernel
theorem dX8_law_32 : decode cX8_law 32 = .ok (.iconst 3, 1) := by decide +kernel
theorem dX8_law_33 : decode cX8_law 33 = .ok (.iload 4, 2) := by decide +kernel
theorem dX8_law_35 : decode cX8_law 35 = .ok (.iastore, 1) := by decide +kernel
theorem dX8_law_36 : decode cX8_law 36 = .ok (.dup, 1) := by decide +kernel
theorem dX8_law_37 : decode cX8_law 37 = .ok (.iconst 4, 1) := by decide +kernel
theorem dX8_law_38 : decode cX8_law 38 = .ok (.iload 5, 2) := by decide +kernel
theorem dX8_law_40 : decode cX8_law 40 = .ok (.iastore, 1) := by decide +kernel
theorem dX8_law_41 : decode cX8_law 41 = .ok (.astore 6, 2) := by decide +kernel
theorem dX8_law_43 : decode cX8_law 43 = .ok (.iconst 0, 1) := by decide +kernel
theorem dX8_law_44 : decode cX8_law 44 = .ok (.istore 7, 2) := by decide +kernel
theorem dX8_law_46 : decode cX8_law 46 = .ok (.iload 7, 2) := by decide +kernel
theorem dX8_law_48 : decode cX8_law 48 = .ok (.aload_n 0, 1) := by decide +kernel
theorem dX8_law_49 : decode cX8_law 49 = .ok (.getfield 111, 3) := by decide +kernel
theorem dX8_law_52 : decode cX8_law 52 = .ok (.if_icmp .ge 96, 3) := by decide +kernel
theorem dX8_law_55 : decode cX8_law 55 = .ok (.iconst 1, 1) := by decide +kernel
theorem dX8_law_56 : decode cX8_law 56 = .ok (.istore 8, 2) := by decide +kernel
theorem dX8_law_58 : decode cX8_law 58 = .ok (.iconst 0, 1) := by decide +kernel
theorem dX8_law_59 : decode cX8_law 59 = .ok (.istore 9, 2) := by decide +kernel
theorem dX8_law_61 : decode cX8_law 61 = .ok (.iload 9, 2) := by decide +kernel
theorem dX8_law_63 : decode cX8_law 63 = .ok (.iload 7, 2) := by decide +kernel
theorem dX8_law_65 : decode cX8_law 65 = .ok (.if_icmp .ge 41, 3) := by decide +kernel
theorem dX8_law_68 : decode cX8_law 68 = .ok (.iload 8, 2) := by decide +kernel
theorem dX8_law_70 : decode cX8_law 70 = .ok (.ifCond .eq 27, 3) := by decide +kernel
theorem dX8_law_73 : decode cX8_law 73 = .ok (.aload_n 0, 1) := by decide +kernel
theorem dX8_law_74 : decode cX8_law 74 = .ok (.getfield 26, 3) := by decide +kernel
theorem dX8_law_77 : decode cX8_law 77 = .ok (.iload 7, 2) := by decide +kernel
theorem dX8_law_79 : decode cX8_law 79 = .ok (.laload, 1) := by decide +kernel
theorem dX8_law_80 : decode cX8_law 80 = .ok (.aload_n 0, 1) := by decide +kernel
theorem dX8_law_81 : decode cX8_law 81 = .ok (.getfield 26, 3) := by decide +kernel
theorem dX8_law_84 : decode cX8_law 84 = .ok (.iload 9, 2) := by decide +kernel
theorem dX8_law_86 : decode cX8_law 86 = .ok (.laload, 1) := by decide +kernel
theorem dX8_law_87 : decode cX8_law 87 = .ok (.lrem, 1) := by decide +kernel
theorem dX8_law_88 : decode cX8_law 88 = .ok (.lconst 0, 1) := by decide +kernel
theorem dX8_law_89 : decode cX8_law 89 = .ok (.lcmp, 1) := by decide +kernel
theorem dX8_law_90 : decode cX8_law 90 = .ok (.ifCond .eq 7, 3) := by decide +kernel
theorem dX8_law_93 : decode cX8_law 93 = .ok (.iconst 1, 1) := by decide +kernel
theorem dX8_law_94 : decode cX8_law 94 = .ok (.goto 4, 3) := by decide +kernel
theorem dX8_law_97 : decode cX8_law 97 = .ok (.iconst 0, 1) := by decide +kernel
theorem dX8_law_98 : decode cX8_law 98 = .ok (.istore 8, 2) := by decide +kernel
theorem dX8_law_100 : decode cX8_law 100 = .ok (.iinc 9 1, 3) := by decide +kernel
theorem dX8_law_103 : decode cX8_law 103 = .ok (.goto (-42), 3) := by decide +kernel
theorem dX8_law_106 : decode cX8_law 106 = .ok (.iload 8, 2) := by decide +kernel
theorem dX8_law_108 : decode cX8_law 108 = .ok (.ifCond .eq 34, 3) := by decide +kernel
theorem dX8_law_111 : decode cX8_law 111 = .ok (.aload_n 0, 1) := by decide +kernel
theorem dX8_law_112 : decode cX8_law 112 = .ok (.getfield 23, 3) := by decide +kernel
theorem dX8_law_115 : decode cX8_law 115 = .ok (.iload 7, 2) := by decide +kernel
theorem dX8_law_117 : decode cX8_law 117 = .ok (.laload, 1) := by decide +kernel
theorem dX8_law_118 : decode cX8_law 118 = .ok (.aload 6, 2) := by decide +kernel
theorem dX8_law_120 : decode cX8_law 120 = .ok (.invokestatic 277, 3) := by decide +kernel
theorem dX8_law_123 : decode cX8_law 123 = .ok (.aload_n 0, 1) := by decide +kernel
theorem dX8_law_124 : decode cX8_law 124 = .ok (.getfield 26, 3) := by decide +kernel
theorem dX8_law_127 : decode cX8_law 127 = .ok (.iload 7, 2) := by decide +kernel
theorem dX8_law_129 : decode cX8_law 129 = .ok (.laload, 1) := by decide +kernel
theorem dX8_law_130 : decode cX8_law 130 = .ok (.aload 6, 2) := by decide +kernel
theorem dX8_law_132 : decode cX8_law 132 = .ok (.invokestatic 277, 3) := by decide +kernel
theorem dX8_law_135 : decode cX8_law 135 = .ok (.lcmp, 1) := by decide +kernel
theorem dX8_law_136 : decode cX8_law 136 = .ok (.ifCond .eq 6, 3) := by decide +kernel
theorem dX8_law_139 : decode cX8_law 139 = .ok (.iload 7, 2) := by decide +kernel
theorem dX8_law_141 : decode cX8_law 141 = .ok (.ireturn, 1) := by decide +kernel
theorem dX8_law_142 : decode cX8_law 142 = .ok (.iinc 7 1, 3) := by decide +kernel
theorem dX8_law_145 : decode cX8_law 145 = .ok (.goto (-99), 3) := by decide +kernel
theorem dX8_law_148 : decode cX8_law 148 = .ok (.iconst (-1), 1) := by decide +kernel
theorem dX8_law_149 : decode cX8_law 149 = .ok (.ireturn, 1) := by decide +kernel
theorem dJ9_floorMod_f86c9_0 : decode cJ9_floorMod_f86c9 0 = .ok (.lload_n 0, 1) := by decide +kernel
theorem dJ9_floorMod_f86c9_1 : decode cJ9_floorMod_f86c9 1 = .ok (.lload_n 2, 1) := by decide +kernel
theorem dJ9_floorMod_f86c9_2 : decode cJ9_floorMod_f86c9 2 = .ok (.lrem, 1) := by decide +kernel
theorem dJ9_floorMod_f86c9_3 : decode cJ9_floorMod_f86c9 3 = .ok (.lstore 4, 2) := by decide +kernel
theorem dJ9_floorMod_f86c9_5 : decode cJ9_floorMod_f86c9 5 = .ok (.lload_n 0, 1) := by decide +kernel
theorem dJ9_floorMod_f86c9_6 : decode cJ9_floorMod_f86c9 6 = .ok (.lload_n 2, 1) := by decide +kernel
theorem dJ9_floorMod_f86c9_7 : decode cJ9_floorMod_f86c9 7 = .ok (.lxor, 1) := by decide +kernel
theorem dJ9_floorMod_f86c9_8 : decode cJ9_floorMod_f86c9 8 = .ok (.lconst 0, 1) := by decide +kernel
theorem dJ9_floorMod_f86c9_9 : decode cJ9_floorMod_f86c9 9 = .ok (.lcmp, 1) := by decide +kernel
theorem dJ9_floorMod_f86c9_10 : decode cJ9_floorMod_f86c9 10 = .ok (.ifCond .ge 15, 3) := by decide +kernel
theorem dJ9_floorMod_f86c9_13 : decode cJ9_floorMod_f86c9 13 = .ok (.lload 4, 2) := by decide +kernel
theorem dJ9_floorMod_f86c9_15 : decode cJ9_floorMod_f86c9 15 = .ok (.lconst 0, 1) := by decide +kernel
theorem dJ9_floorMod_f86c9_16 : decode cJ9_floorMod_f86c9 16 = .ok (.lcmp, 1) := by decide +kernel
theorem dJ9_floorMod_f86c9_17 : decode cJ9_floorMod_f86c9 17 = .ok (.ifCond .eq 8, 3) := by decide +kernel
theorem dJ9_floorMod_f86c9_20 : decode cJ9_floorMod_f86c9 20 = .ok (.lload 4, 2) := by decide +kernel
theorem dJ9_floorMod_f86c9_22 : decode cJ9_floorMod_f86c9 22 = .ok (.lload_n 2, 1) := by decide +kernel
theorem dJ9_floorMod_f86c9_23 : decode cJ9_floorMod_f86c9 23 = .ok (.ladd, 1) := by decide +kernel
theorem dJ9_floorMod_f86c9_24 : decode cJ9_floorMod_f86c9 24 = .ok (.lreturn, 1) := by decide +kernel
theorem dJ9_floorMod_f86c9_25 : decode cJ9_floorMod_f86c9 25 = .ok (.lload 4, 2) := by decide +kernel
theorem dJ9_floorMod_f86c9_27 : decode cJ9_floorMod_f86c9 27 = .ok (.lreturn, 1) := by decide +kernel
theorem dJ9_abs_067f4_0 : decode cJ9_abs_067f4 0 = .ok (.lload_n 0, 1) := by decide +kernel
theorem dJ9_abs_067f4_1 : decode cJ9_abs_067f4 1 = .ok (.lconst 0, 1) := by decide +kernel
theorem dJ9_abs_067f4_2 : decode cJ9_abs_067f4 2 = .ok (.lcmp, 1) := by decide +kernel
theorem dJ9_abs_067f4_3 : decode cJ9_abs_067f4 3 = .ok (.ifCond .ge 8, 3) := by decide +kernel
theorem dJ9_abs_067f4_6 : decode cJ9_abs_067f4 6 = .ok (.lload_n 0, 1) := by decide +kernel
theorem dJ9_abs_067f4_7 : decode cJ9_abs_067f4 7 = .ok (.lneg, 1) := by decide +kernel
theorem dJ9_abs_067f4_8 : decode cJ9_abs_067f4 8 = .ok (.goto 4, 3) := by decide +kernel
theorem dJ9_abs_067f4_11 : decode cJ9_abs_067f4 11 = .ok (.lload_n 0, 1) := by decide +kernel
theorem dJ9_abs_067f4_12 : decode cJ9_abs_067f4 12 = .ok (.lreturn, 1) := by decide +kernel
theorem dJ9_max_7cf53_0 : decode cJ9_max_7cf53 0 = .ok (.iload_n 0, 1) := by decide +kernel
theorem dJ9_max_7cf53_1 : decode cJ9_max_7cf53 1 = .ok (.iload_n 1, 1) := by decide +kernel
theorem dJ9_max_7cf53_2 : decode cJ9_max_7cf53 2 = .ok (.if_icmp .lt 7, 3) := by decide +kernel
theorem dJ9_max_7cf53_5 : decode cJ9_max_7cf53 5 = .ok (.iload_n 0, 1) := by decide +kernel
theorem dJ9_max_7cf53_6 : decode cJ9_max_7cf53 6 = .ok (.goto 4, 3) := by decide +kernel
theorem dJ9_max_7cf53_9 : decode cJ9_max_7cf53 9 = .ok (.iload_n 1, 1) := by decide +kernel
theorem dJ9_max_7cf53_10 : decode cJ9_max_7cf53 10 = .ok (.ireturn, 1) := by decide +kernel
theorem dJ9_max_f86c9_0 : decode cJ9_max_f86c9 0 = .ok (.lload_n 0, 1) := by decide +kernel
theorem dJ9_max_f86c9_1 : decode cJ9_max_f86c9 1 = .ok (.lload_n 2, 1) := by decide +kernel
theorem dJ9_max_f86c9_2 : decode cJ9_max_f86c9 2 = .ok (.lcmp, 1) := by decide +kernel
theorem dJ9_max_f86c9_3 : decode cJ9_max_f86c9 3 = .ok (.ifCond .lt 7, 3) := by decide +kernel
theorem dJ9_max_f86c9_6 : decode cJ9_max_f86c9 6 = .ok (.lload_n 0, 1) := by decide +kernel
theorem dJ9_max_f86c9_7 : decode cJ9_max_f86c9 7 = .ok (.goto 4, 3) := by decide +kernel
theorem dJ9_max_f86c9_10 : decode cJ9_max_f86c9 10 = .ok (.lload_n 2, 1) := by decide +kernel
theorem dJ9_max_f86c9_11 : decode cJ9_max_f86c9 11 = .ok (.lreturn, 1) := by decide +kernel
theorem dJ9_min_7cf53_0 : decode cJ9_min_7cf53 0 = .ok (.iload_n 0, 1) := by decide +kernel
theorem dJ9_min_7cf53_1 : decode cJ9_min_7cf53 1 = .ok (.iload_n 1, 1) := by decide +kernel
theorem dJ9_min_7cf53_2 : decode cJ9_min_7cf53 2 = .ok (.if_icmp .gt 7, 3) := by decide +kernel
theorem dJ9_min_7cf53_5 : decode cJ9_min_7cf53 5 = .ok (.iload_n 0, 1) := by decide +kernel
theorem dJ9_min_7cf53_6 : decode cJ9_min_7cf53 6 = .ok (.goto 4, 3) := by decide +kernel
theorem dJ9_min_7cf53_9 : decode cJ9_min_7cf53 9 = .ok (.iload_n 1, 1) := by decide +kernel
theorem dJ9_min_7cf53_10 : decode cJ9_min_7cf53 10 = .ok (.ireturn, 1) := by decide +kernel
theorem dJ9_min_f86c9_0 : decode cJ9_min_f86c9 0 = .ok (.lload_n 0, 1) := by decide +kernel
theorem dJ9_min_f86c9_1 : decode cJ9_min_f86c9 1 = .ok (.lload_n 2, 1) := by decide +kernel
theorem dJ9_min_f86c9_2 : decode cJ9_min_f86c9 2 = .ok (.lcmp, 1) := by decide +kernel
theorem dJ9_min_f86c9_3 : decode cJ9_min_f86c9 3 = .ok (.ifCond .gt 7, 3) := by decide +kernel
theorem dJ9_min_f86c9_6 : decode cJ9_min_f86c9 6 = .ok (.lload_n 0, 1) := by decide +kernel
theorem dJ9_min_f86c9_7 : decode cJ9_min_f86c9 7 = .ok (.goto 4, 3) := by decide +kernel
theorem dJ9_min_f86c9_10 : decode cJ9_min_f86c9 10 = .ok (.lload_n 2, 1) := by decide +kernel
theorem dJ9_min_f86c9_11 : decode cJ9_min_f86c9 11 = .ok (.lreturn, 1) := by decide +kernel
theorem dJ7_fill_d0a16_0 : decode cJ7_fill_d0a16 0 = .ok (.iconst 0, 1) := by decide +kernel
theorem dJ7_fill_d0a16_1 : decode cJ7_fill_d0a16 1 = .ok (.istore_n 3, 1) := by decide +kernel
theorem dJ7_fill_d0a16_2 : decode cJ7_fill_d0a16 2 = .ok (.aload_n 0, 1) := by decide +kernel
theorem dJ7_fill_d0a16_3 : decode cJ7_fill_d0a16 3 = .ok (.arraylength, 1) := by decide +kernel
theorem dJ7_fill_d0a16_4 : decode cJ7_fill_d0a16 4 = .ok (.istore 4, 2) := by decide +kernel
theorem dJ7_fill_d0a16_6 : decode cJ7_fill_d0a16 6 = .ok (.iload_n 3, 1) := by decide +kernel
theorem dJ7_fill_d0a16_7 : decode cJ7_fill_d0a16 7 = .ok (.iload 4, 2) := by decide +kernel
theorem dJ7_fill_d0a16_9 : decode cJ7_fill_d0a16 9 = .ok (.if_icmp .ge 13, 3) := by decide +kernel
theorem dJ7_fill_d0a16_12 : decode cJ7_fill_d0a16 12 = .ok (.aload_n 0, 1) := by decide +kernel
theorem dJ7_fill_d0a16_13 : decode cJ7_fill_d0a16 13 = .ok (.iload_n 3, 1) := by decide +kernel
theorem dJ7_fill_d0a16_14 : decode cJ7_fill_d0a16 14 = .ok (.lload_n 1, 1) := by decide +kernel
theorem dJ7_fill_d0a16_15 : decode cJ7_fill_d0a16 15 = .ok (.lastore, 1) := by decide +kernel
theorem dJ7_fill_d0a16_16 : decode cJ7_fill_d0a16 16 = .ok (.iinc 3 1, 3) := by decide +kernel
theorem dJ7_fill_d0a16_19 : decode cJ7_fill_d0a16 19 = .ok (.goto (-13), 3) := by decide +kernel
theorem dJ7_fill_d0a16_22 : decode cJ7_fill_d0a16 22 = .ok (.return_, 1) := by decide +kernel
set_option maxRecDepth 20000 in
theorem ggL_seal_X7_seal : GoodIn wsL_seal wsX7_seal := goodIn_ca (goodIn_ca (goodIn_r _ [6, 7, 8, 9, 10, 11, 12, 13, 14, 15, 16, 17, 18, 19, 20, 21, 22, 23, 24, 25, 26, 27, 28, 29, 30, 31, 32, 33, 34, 35, 36, 37, 38, 39, 40, 41, 42, 43, 44, 45, 46, 47, 48, 49, 50, 51, 52, 53, 54, 55, 56, 57, 58, 59, 60, 61, 62, 63, 64, 65, 66, 67, 68, 69, 70, 71, 72, 73, 74, 75, 76, 77, 78, 79, 80, 81, 82, 83, 84] (by decide +kernel) (by decide +kernel)) (goodIn_sub (fun _ h => List.mem_cons_of_mem _ (List.mem_append_left _ (List.mem_append_right _ h))) (by decide +kernel))) (goodIn_sub (fun _ h => List.mem_cons_of_mem _ (List.mem_append_right _ h)) (by decide +kernel))
set_option maxRecDepth 20000 in
theorem gL_seal_X7_seal : GoodIn wsL_seal (wsV RL 7 RX7 yX7_seal wsX7_seal) := goodIn_app (goodIn_of _ (by decide +kernel)) ggL_seal_X7_seal
