theorem dX8_init_0 : decode cX8_init 0 = .ok (.aload_n 0, 1) := by decide +kernel
theorem dX8_init_1 : decode cX8_init 1 = .ok (.invokespecial 1, 3) := by decide +kernel
theorem dX8_init_4 : decode cX8_init 4 = .ok (.aload_n 0, 1) := by decide +kernel
theorem dX8_init_5 : decode cX8_init 5 = .ok (.iconst (-1), 1) := by decide +kernel
theorem dX8_init_6 : decode cX8_init 6 = .ok (.putfield 9, 3) := by decide +kernel
theorem dX8_init_9 : decode cX8_init 9 = .ok (.aload_n 0, 1) := by decide +kernel
theorem dX8_init_10 : decode cX8_init 10 = .ok (.bipush 64, 2) := by decide +kernel
theorem dX8_init_12 : decode cX8_init 12 = .ok (.newarray .long, 2) := by decide +kernel
theorem dX8_init_14 : decode cX8_init 14 = .ok (.putfield 13, 3) := by decide +kernel
theorem dX8_init_17 : decode cX8_init 17 = .ok (.aload_n 0, 1) := by decide +kernel
theorem dX8_init_18 : decode cX8_init 18 = .ok (.sipush 192, 3) := by decide +kernel
theorem dX8_init_21 : decode cX8_init 21 = .ok (.newarray .long, 2) := by decide +kernel
theorem dX8_init_23 : decode cX8_init 23 = .ok (.putfield 17, 3) := by decide +kernel
theorem dX8_init_26 : decode cX8_init 26 = .ok (.aload_n 0, 1) := by decide +kernel
theorem dX8_init_27 : decode cX8_init 27 = .ok (.sipush 192, 3) := by decide +kernel
theorem dX8_init_30 : decode cX8_init 30 = .ok (.newarray .long, 2) := by decide +kernel
theorem dX8_init_32 : decode cX8_init 32 = .ok (.putfield 20, 3) := by decide +kernel
theorem dX8_init_35 : decode cX8_init 35 = .ok (.aload_n 0, 1) := by decide +kernel
theorem dX8_init_36 : decode cX8_init 36 = .ok (.bipush 40, 2) := by decide +kernel
theorem dX8_init_38 : decode cX8_init 38 = .ok (.newarray .long, 2) := by decide +kernel
theorem dX8_init_40 : decode cX8_init 40 = .ok (.putfield 23, 3) := by decide +kernel
theorem dX8_init_43 : decode cX8_init 43 = .ok (.aload_n 0, 1) := by decide +kernel
theorem dX8_init_44 : decode cX8_init 44 = .ok (.bipush 40, 2) := by decide +kernel
theorem dX8_init_46 : decode cX8_init 46 = .ok (.newarray .long, 2) := by decide +kernel
theorem dX8_init_48 : decode cX8_init 48 = .ok (.putfield 26, 3) := by decide +kernel
theorem dX8_init_51 : decode cX8_init 51 = .ok (.aload_n 0, 1) := by decide +kernel
theorem dX8_init_52 : decode cX8_init 52 = .ok (.sipush 1000, 3) := by decide +kernel
theorem dX8_init_55 : decode cX8_init 55 = .ok (.newarray .long, 2) := by decide +kernel
theorem dX8_init_57 : decode cX8_init 57 = .ok (.putfield 29, 3) := by decide +kernel
theorem dX8_init_60 : decode cX8_init 60 = .ok (.aload_n 0, 1) := by decide +kernel
theorem dX8_init_61 : decode cX8_init 61 = .ok (.sipush 20000, 3) := by decide +kernel
theorem dX8_init_64 : decode cX8_init 64 = .ok (.newarray .long, 2) := by decide +kernel
theorem dX8_init_66 : decode cX8_init 66 = .ok (.putfield 32, 3) := by decide +kernel
theorem dX8_init_69 : decode cX8_init 69 = .ok (.aload_n 0, 1) := by decide +kernel
theorem dX8_init_70 : decode cX8_init 70 = .ok (.bipush 40, 2) := by decide +kernel
theorem dX8_init_72 : decode cX8_init 72 = .ok (.newarray .int, 2) := by decide +kernel
theorem dX8_init_74 : decode cX8_init 74 = .ok (.putfield 35, 3) := by decide +kernel
theorem dX8_init_77 : decode cX8_init 77 = .ok (.aload_n 0, 1) := by decide +kernel
theorem dX8_init_78 : decode cX8_init 78 = .ok (.bipush 40, 2) := by decide +kernel
theorem dX8_init_80 : decode cX8_init 80 = .ok (.newarray .int, 2) := by decide +kernel
theorem dX8_init_82 : decode cX8_init 82 = .ok (.putfield 39, 3) := by decide +kernel
theorem dX8_init_85 : decode cX8_init 85 = .ok (.aload_n 0, 1) := by decide +kernel
theorem dX8_init_86 : decode cX8_init 86 = .ok (.bipush 26, 2) := by decide +kernel
theorem dX8_init_88 : decode cX8_init 88 = .ok (.newarray .long, 2) := by decide +kernel
theorem dX8_init_90 : decode cX8_init 90 = .ok (.putfield 42, 3) := by decide +kernel
theorem dX8_init_93 : decode cX8_init 93 = .ok (.aload_n 0, 1) := by decide +kernel
theorem dX8_init_94 : decode cX8_init 94 = .ok (.bipush 26, 2) := by decide +kernel
theorem dX8_init_96 : decode cX8_init 96 = .ok (.newarray .long, 2) := by decide +kernel
theorem dX8_init_98 : decode cX8_init 98 = .ok (.putfield 45, 3) := by decide +kernel
theorem dX8_init_101 : decode cX8_init 101 = .ok (.aload_n 0, 1) := by decide +kernel
theorem dX8_init_102 : decode cX8_init 102 = .ok (.sipush 1000, 3) := by decide +kernel
theorem dX8_init_105 : decode cX8_init 105 = .ok (.newarray .long, 2) := by decide +kernel
theorem dX8_init_107 : decode cX8_init 107 = .ok (.putfield 48, 3) := by decide +kernel
theorem dX8_init_110 : decode cX8_init 110 = .ok (.aload_n 0, 1) := by decide +kernel
theorem dX8_init_111 : decode cX8_init 111 = .ok (.ldc 51, 2) := by decide +kernel
theorem dX8_init_113 : decode cX8_init 113 = .ok (.newarray .int, 2) := by decide +kernel
theorem dX8_init_115 : decode cX8_init 115 = .ok (.putfield 52, 3) := by decide +kernel
theorem dX8_init_118 : decode cX8_init 118 = .ok (.aload_n 0, 1) := by decide +kernel
theorem dX8_init_119 : decode cX8_init 119 = .ok (.sipush 192, 3) := by decide +kernel
theorem dX8_init_122 : decode cX8_init 122 = .ok (.newarray .long, 2) := by decide +kernel
theorem dX8_init_124 : decode cX8_init 124 = .ok (.putfield 55, 3) := by decide +kernel
theorem dX8_init_127 : decode cX8_init 127 = .ok (.aload_n 0, 1) := by decide +kernel
theorem dX8_init_128 : decode cX8_init 128 = .ok (.bipush 48, 2) := by decide +kernel
theorem dX8_init_130 : decode cX8_init 130 = .ok (.newarray .int, 2) := by decide +kernel
theorem dX8_init_132 : decode cX8_init 132 = .ok (.putfield 58, 3) := by decide +kernel
theorem dX8_init_135 : decode cX8_init 135 = .ok (.return_, 1) := by decide +kernel
theorem dX8_thrown_0 : decode cX8_thrown 0 = .ok (.aload_n 0, 1) := by decide +kernel
theorem dX8_thrown_1 : decode cX8_thrown 1 = .ok (.getfield 61, 3) := by decide +kernel
theorem dX8_thrown_4 : decode cX8_thrown 4 = .ok (.ireturn, 1) := by decide +kernel
theorem dX8_in_0 : decode cX8_in 0 = .ok (.lload_n 0, 1) := by decide +kernel
theorem dX8_in_1 : decode cX8_in 1 = .ok (.lload_n 2, 1) := by decide +kernel
theorem dX8_in_2 : decode cX8_in 2 = .ok (.lcmp, 1) := by decide +kernel
theorem dX8_in_3 : decode cX8_in 3 = .ok (.ifCond .lt 14, 3) := by decide +kernel
theorem dX8_in_6 : decode cX8_in 6 = .ok (.lload_n 0, 1) := by decide +kernel
theorem dX8_in_7 : decode cX8_in 7 = .ok (.lload 4, 2) := by decide +kernel
theorem dX8_in_9 : decode cX8_in 9 = .ok (.lcmp, 1) := by decide +kernel
theorem dX8_in_10 : decode cX8_in 10 = .ok (.ifCond .gt 7, 3) := by decide +kernel
theorem dX8_in_13 : decode cX8_in 13 = .ok (.iconst 1, 1) := by decide +kernel
theorem dX8_in_14 : decode cX8_in 14 = .ok (.goto 4, 3) := by decide +kernel
theorem dX8_in_17 : decode cX8_in 17 = .ok (.iconst 0, 1) := by decide +kernel
theorem dX8_in_18 : decode cX8_in 18 = .ok (.ireturn, 1) := by decide +kernel
set_option maxRecDepth 20000 in
theorem ggX8_isNumber_X8_in : GoodIn wsX8_isNumber wsX8_in := goodIn_r _ [6] (by decide +kernel) (by decide +kernel)
set_option maxRecDepth 20000 in
theorem gX8_isNumber_X8_in : GoodIn wsX8_isNumber (va_wsS RX8 68 yX8_in wsX8_in) := goodIn_app (goodIn_of _ (by decide +kernel)) ggX8_isNumber_X8_in
theorem dX8_isNumber_0 : decode cX8_isNumber 0 = .ok (.lload_n 0, 1) := by decide +kernel
theorem dX8_isNumber_1 : decode cX8_isNumber 1 = .ok (.ldc2_w 64, 3) := by decide +kernel
theorem dX8_isNumber_4 : decode cX8_isNumber 4 = .ok (.ldc2_w 66, 3) := by decide +kernel
theorem dX8_isNumber_7 : decode cX8_isNumber 7 = .ok (.invokestatic 68, 3) := by decide +kernel
theorem dX8_isNumber_10 : decode cX8_isNumber 10 = .ok (.ireturn, 1) := by decide +kernel
theorem dX8_refuse_0 : decode cX8_refuse 0 = .ok (.aload_n 0, 1) := by decide +kernel
theorem dX8_refuse_1 : decode cX8_refuse 1 = .ok (.iload_n 1, 1) := by decide +kernel
theorem dX8_refuse_2 : decode cX8_refuse 2 = .ok (.putfield 61, 3) := by decide +kernel
theorem dX8_refuse_5 : decode cX8_refuse 5 = .ok (.lconst 0, 1) := by decide +kernel
theorem dX8_refuse_6 : decode cX8_refuse 6 = .ok (.lreturn, 1) := by decide +kernel
theorem dX8_common_0 : decode cX8_common 0 = .ok (.lload_n 0, 1) := by decide +kernel
theorem dX8_common_1 : decode cX8_common 1 = .ok (.lconst 0, 1) := by decide +kernel
theorem dX8_common_2 : decode cX8_common 2 = .ok (.lcmp, 1) := by decide +kernel
theorem dX8_common_3 : decode cX8_common 3 = .ok (.ifCond .ge 8, 3) := by decide +kernel
theorem dX8_common_6 : decode cX8_common 6 = .ok (.lload_n 0, 1) := by decide +kernel
theorem dX8_common_7 : decode cX8_common 7 = .ok (.lneg, 1) := by decide +kernel
theorem dX8_common_8 : decode cX8_common 8 = .ok (.goto 4, 3) := by decide +kernel
theorem dX8_common_11 : decode cX8_common 11 = .ok (.lload_n 0, 1) := by decide +kernel
theorem dX8_common_12 : decode cX8_common 12 = .ok (.lstore 4, 2) := by decide +kernel
theorem dX8_common_14 : decode cX8_common 14 = .ok (.lload_n 2, 1) := by decide +kernel
theorem dX8_common_15 : decode cX8_common 15 = .ok (.lconst 0, 1) := by decide +kernel
theorem dX8_common_16 : decode cX8_common 16 = .ok (.lcmp, 1) := by decide +kernel
theorem dX8_common_17 : decode cX8_common 17 = .ok (.ifCond .ge 8, 3) := by decide +kernel
theorem dX8_common_20 : decode cX8_common 20 = .ok (.lload_n 2, 1) := by decide +kernel
theorem dX8_common_21 : decode cX8_common 21 = .ok (.lneg, 1) := by decide +kernel
theorem dX8_common_22 : decode cX8_common 22 = .ok (.goto 4, 3) := by decide +kernel
theorem dX8_common_25 : decode cX8_common 25 = .ok (.lload_n 2, 1) := by decide +kernel
theorem dX8_common_26 : decode cX8_common 26 = .ok (.lstore 6, 2) := by decide +kernel
theorem dX8_common_28 : decode cX8_common 28 = .ok (.lload 6, 2) := by decide +kernel
theorem dX8_common_30 : decode cX8_common 30 = .ok (.lconst 0, 1) := by decide +kernel
theorem dX8_common_31 : decode cX8_common 31 = .ok (.lcmp, 1) := by decide +kernel
theorem dX8_common_32 : decode cX8_common 32 = .ok (.ifCond .eq 21, 3) := by decide +kernel
theorem dX8_common_35 : decode cX8_common 35 = .ok (.lload 4, 2) := by decide +kernel
theorem dX8_common_37 : decode cX8_common 37 = .ok (.lload 6, 2) := by decide +kernel
theorem dX8_common_39 : decode cX8_common 39 = .ok (.lrem, 1) := by decide +kernel
theorem dX8_common_40 : decode cX8_common 40 = .ok (.lstore 8, 2) := by decide +kernel
theorem dX8_common_42 : decode cX8_common 42 = .ok (.lload 6, 2) := by decide +kernel
theorem dX8_common_44 : decode cX8_common 44 = .ok (.lstore 4, 2) := by decide +kernel
theorem dX8_common_46 : decode cX8_common 46 = .ok (.lload 8, 2) := by decide +kernel
theorem dX8_common_48 : decode cX8_common 48 = .ok (.lstore 6, 2) := by decide +kernel
theorem dX8_common_50 : decode cX8_common 50 = .ok (.goto (-22), 3) := by decide +kernel
theorem dX8_common_53 : decode cX8_common 53 = .ok (.lload 4, 2) := by decide +kernel
theorem dX8_common_55 : decode cX8_common 55 = .ok (.lreturn, 1) := by decide +kernel
set_option maxRecDepth 20000 in
theorem ggX8_draft_X8_in : GoodIn wsX8_draft wsX8_in := goodIn_r _ [10] (by decide +kernel) (by decide +kernel)
set_option maxRecDepth 20000 in
theorem gX8_draft_X8_in : GoodIn wsX8_draft (va_wsS RX8 68 yX8_in wsX8_in) := goodIn_app (goodIn_of _ (by decide +kernel)) ggX8_draft_X8_in
theorem dX8_draft_0 : decode cX8_draft 0 = .ok (.aload_n 0, 1) := by decide +kernel
theorem dX8_draft_1 : decode cX8_draft 1 = .ok (.iconst 0, 1) := by decide +kernel
theorem dX8_draft_2 : decode cX8_draft 2 = .ok (.putfield 61, 3) := by decide +kernel
theorem dX8_draft_5 : decode cX8_draft 5 = .ok (.iload_n 1, 1) := by decide +kernel
theorem dX8_draft_6 : decode cX8_draft 6 = .ok (.i2l, 1) := by decide +kernel
theorem dX8_draft_7 : decode cX8_draft 7 = .ok (.ldc2_w 72, 3) := by decide +kernel
theorem dX8_draft_10 : decode cX8_draft 10 = .ok (.ldc2_w 74, 3) := by decide +kernel
theorem dX8_draft_13 : decode cX8_draft 13 = .ok (.invokestatic 68, 3) := by decide +kernel
theorem dX8_draft_16 : decode cX8_draft 16 = .ok (.ifCond .ne 5, 3) := by decide +kernel
theorem dX8_draft_19 : decode cX8_draft 19 = .ok (.iconst 0, 1) := by decide +kernel
theorem dX8_draft_20 : decode cX8_draft 20 = .ok (.ireturn, 1) := by decide +kernel
theorem dX8_draft_21 : decode cX8_draft 21 = .ok (.aload_n 0, 1) := by decide +kernel
theorem dX8_draft_22 : decode cX8_draft 22 = .ok (.iconst 1, 1) := by decide +kernel
theorem dX8_draft_23 : decode cX8_draft 23 = .ok (.putfield 76, 3) := by decide +kernel
theorem dX8_draft_26 : decode cX8_draft 26 = .ok (.aload_n 0, 1) := by decide +kernel
theorem dX8_draft_27 : decode cX8_draft 27 = .ok (.iload_n 1, 1) := by decide +kernel
theorem dX8_draft_28 : decode cX8_draft 28 = .ok (.putfield 80, 3) := by decide +kernel
theorem dX8_draft_31 : decode cX8_draft 31 = .ok (.iconst 0, 1) := by decide +kernel
theorem dX8_draft_32 : decode cX8_draft 32 = .ok (.istore_n 2, 1) := by decide +kernel
theorem dX8_draft_33 : decode cX8_draft 33 = .ok (.iload_n 2, 1) := by decide +kernel
theorem dX8_draft_34 : decode cX8_draft 34 = .ok (.iload_n 1, 1) := by decide +kernel
theorem dX8_draft_35 : decode cX8_draft 35 = .ok (.if_icmp .ge 40, 3) := by decide +kernel
theorem dX8_draft_38 : decode cX8_draft 38 = .ok (.aload_n 0, 1) := by decide +kernel
theorem dX8_draft_39 : decode cX8_draft 39 = .ok (.getfield 17, 3) := by decide +kernel
theorem dX8_draft_42 : decode cX8_draft 42 = .ok (.iconst 3, 1) := by decide +kernel
theorem dX8_draft_43 : decode cX8_draft 43 = .ok (.iload_n 2, 1) := by decide +kernel
theorem dX8_draft_44 : decode cX8_draft 44 = .ok (.imul, 1) := by decide +kernel
theorem dX8_draft_45 : decode cX8_draft 45 = .ok (.lconst 1, 1) := by decide +kernel
theorem dX8_draft_46 : decode cX8_draft 46 = .ok (.lastore, 1) := by decide +kernel
theorem dX8_draft_47 : decode cX8_draft 47 = .ok (.aload_n 0, 1) := by decide +kernel
theorem dX8_draft_48 : decode cX8_draft 48 = .ok (.getfield 17, 3) := by decide +kernel
theorem dX8_draft_51 : decode cX8_draft 51 = .ok (.iconst 3, 1) := by decide +kernel
theorem dX8_draft_52 : decode cX8_draft 52 = .ok (.iload_n 2, 1) := by decide +kernel
theorem dX8_draft_53 : decode cX8_draft 53 = .ok (.imul, 1) := by decide +kernel
theorem dX8_draft_54 : decode cX8_draft 54 = .ok (.iconst 1, 1) := by decide +kernel
theorem dX8_draft_55 : decode cX8_draft 55 = .ok (.iadd, 1) := by decide +kernel
theorem dX8_draft_56 : decode cX8_draft 56 = .ok (.lconst 0, 1) := by decide +kernel
theorem dX8_draft_57 : decode cX8_draft 57 = .ok (.lastore, 1) := by decide +kernel
theorem dX8_draft_58 : decode cX8_draft 58 = .ok (.aload_n 0, 1) := by decide +kernel
theorem dX8_draft_59 : decode cX8_draft 59 = .ok (.getfield 17, 3) := by decide +kernel
theorem dX8_draft_62 : decode cX8_draft 62 = .ok (.iconst 3, 1) := by decide +kernel
theorem dX8_draft_63 : decode cX8_draft 63 = .ok (.iload_n 2, 1) := by decide +kernel
theorem dX8_draft_64 : decode cX8_draft 64 = .ok (.imul, 1) := by decide +kernel
theorem dX8_draft_65 : decode cX8_draft 65 = .ok (.iconst 2, 1) := by decide +kernel
theorem dX8_draft_66 : decode cX8_draft 66 = .ok (.iadd, 1) := by decide +kernel
theorem dX8_draft_67 : decode cX8_draft 67 = .ok (.lconst 1, 1) := by decide +kernel
theorem dX8_draft_68 : decode cX8_draft 68 = .ok (.lastore, 1) := by decide +kernel
theorem dX8_draft_69 : decode cX8_draft 69 = .ok (.iinc 2 1, 3) := by decide +kernel
theorem dX8_draft_72 : decode cX8_draft 72 = .ok (.goto (-39), 3) := by decide +kernel
theorem dX8_draft_75 : decode cX8_draft 75 = .ok (.iconst 1, 1) := by decide +kernel
theorem dX8_draft_76 : decode cX8_draft 76 = .ok (.ireturn, 1) := by decide +kernel
set_option maxRecDepth 20000 in
theorem ggX8_sheet_X8_in : GoodIn wsX8_sheet wsX8_in := goodIn_r _ [10] (by decide +kernel) (by decide +kernel)
set_option maxRecDepth 20000 in
theorem gX8_sheet_X8_in : GoodIn wsX8_sheet (va_wsS RX8 68 yX8_in wsX8_in) := goodIn_app (goodIn_of _ (by decide +kernel)) ggX8_sheet_X8_in
theorem dX8_sheet_0 : decode cX8_sheet 0 = .ok (.aload_n 0, 1) := by decide +kernel
theorem dX8_sheet_1 : decode cX8_sheet 1 = .ok (.iconst 0, 1) := by decide +kernel
theorem dX8_sheet_2 : decode cX8_sheet 2 = .ok (.putfield 61, 3) := by decide +kernel
theorem dX8_sheet_5 : decode cX8_sheet 5 = .ok (.iload_n 1, 1) := by decide +kernel
theorem dX8_sheet_6 : decode cX8_sheet 6 = .ok (.i2l, 1) := by decide +kernel
theorem dX8_sheet_7 : decode cX8_sheet 7 = .ok (.lconst 0, 1) := by decide +kernel
theorem dX8_sheet_8 : decode cX8_sheet 8 = .ok (.ldc2_w 83, 3) := by decide +kernel
theorem dX8_sheet_11 : decode cX8_sheet 11 = .ok (.invokestatic 68, 3) := by decide +kernel
theorem dX8_sheet_14 : decode cX8_sheet 14 = .ok (.ifCond .eq 20, 3) := by decide +kernel
theorem dX8_sheet_17 : decode cX8_sheet 17 = .ok (.iload_n 1, 1) := by decide +kernel
theorem dX8_sheet_18 : decode cX8_sheet 18 = .ok (.iconst 3, 1) := by decide +kernel
theorem dX8_sheet_19 : decode cX8_sheet 19 = .ok (.if_icmp .ge 17, 3) := by decide +kernel
theorem dX8_sheet_22 : decode cX8_sheet 22 = .ok (.iload_n 2, 1) := by decide +kernel
theorem dX8_sheet_23 : decode cX8_sheet 23 = .ok (.i2l, 1) := by decide +kernel
theorem dX8_sheet_24 : decode cX8_sheet 24 = .ok (.lconst 0, 1) := by decide +kernel
theorem dX8_sheet_25 : decode cX8_sheet 25 = .ok (.ldc2_w 74, 3) := by decide +kernel
theorem dX8_sheet_28 : decode cX8_sheet 28 = .ok (.invokestatic 68, 3) := by decide +kernel
theorem dX8_sheet_31 : decode cX8_sheet 31 = .ok (.ifCond .ne 5, 3) := by decide +kernel
theorem dX8_sheet_34 : decode cX8_sheet 34 = .ok (.iconst 0, 1) := by decide +kernel
theorem dX8_sheet_35 : decode cX8_sheet 35 = .ok (.ireturn, 1) := by decide +kernel
theorem dX8_sheet_36 : decode cX8_sheet 36 = .ok (.aload_n 0, 1) := by decide +kernel
theorem dX8_sheet_37 : decode cX8_sheet 37 = .ok (.iload_n 1, 1) := by decide +kernel
theorem dX8_sheet_38 : decode cX8_sheet 38 = .ok (.putfield 9, 3) := by decide +kernel
theorem dX8_sheet_41 : decode cX8_sheet 41 = .ok (.aload_n 0, 1) := by decide +kernel
theorem dX8_sheet_42 : decode cX8_sheet 42 = .ok (.iload_n 1, 1) := by decide +kernel
theorem dX8_sheet_43 : decode cX8_sheet 43 = .ok (.iconst 3, 1) := by decide +kernel
theorem dX8_sheet_44 : decode cX8_sheet 44 = .ok (.if_icmp .ne 7, 3) := by decide +kernel
theorem dX8_sheet_47 : decode cX8_sheet 47 = .ok (.iconst 0, 1) := by decide +kernel
theorem dX8_sheet_48 : decode cX8_sheet 48 = .ok (.goto 4, 3) := by decide +kernel
theorem dX8_sheet_51 : decode cX8_sheet 51 = .ok (.iload_n 2, 1) := by decide +kernel
theorem dX8_sheet_52 : decode cX8_sheet 52 = .ok (.putfield 85, 3) := by decide +kernel
theorem dX8_sheet_55 : decode cX8_sheet 55 = .ok (.iconst 0, 1) := by decide +kernel
theorem dX8_sheet_56 : decode cX8_sheet 56 = .ok (.istore_n 3, 1) := by decide +kernel
theorem dX8_sheet_57 : decode cX8_sheet 57 = .ok (.iload_n 3, 1) := by decide +kernel
theorem dX8_sheet_58 : decode cX8_sheet 58 = .ok (.aload_n 0, 1) := by decide +kernel
theorem dX8_sheet_59 : decode cX8_sheet 59 = .ok (.getfield 85, 3) := by decide +kernel
theorem dX8_sheet_62 : decode cX8_sheet 62 = .ok (.if_icmp .ge 16, 3) := by decide +kernel
theorem dX8_sheet_65 : decode cX8_sheet 65 = .ok (.aload_n 0, 1) := by decide +kernel
theorem dX8_sheet_66 : decode cX8_sheet 66 = .ok (.getfield 13, 3) := by decide +kernel
theorem dX8_sheet_69 : decode cX8_sheet 69 = .ok (.iload_n 3, 1) := by decide +kernel
theorem dX8_sheet_70 : decode cX8_sheet 70 = .ok (.lconst 0, 1) := by decide +kernel
theorem dX8_sheet_71 : decode cX8_sheet 71 = .ok (.lastore, 1) := by decide +kernel
theorem dX8_sheet_72 : decode cX8_sheet 72 = .ok (.iinc 3 1, 3) := by decide +kernel
theorem dX8_sheet_75 : decode cX8_sheet 75 = .ok (.goto (-18), 3) := by decide +kernel
theorem dX8_sheet_78 : decode cX8_sheet 78 = .ok (.iconst 1, 1) := by decide +kernel
theorem dX8_sheet_79 : decode cX8_sheet 79 = .ok (.ireturn, 1) := by decide +kernel
set_option maxRecDepth 20000 in
theorem ggX8_entry_X8_in : GoodIn wsX8_entry wsX8_in := goodIn_r _ [9] (by decide +kernel) (by decide +kernel)
set_option maxRecDepth 20000 in
theorem gX8_entry_X8_in : GoodIn wsX8_entry (va_wsS RX8 68 yX8_in wsX8_in) := goodIn_app (goodIn_of _ (by decide +kernel)) ggX8_entry_X8_in
theorem dX8_entry_0 : decode cX8_entry 0 = .ok (.aload_n 0, 1) := by decide +kernel
theorem dX8_entry_1 : decode cX8_entry 1 = .ok (.iconst 0, 1) := by decide +kernel
theorem dX8_entry_2 : decode cX8_entry 2 = .ok (.putfield 61, 3) := by decide +kernel
theorem dX8_entry_5 : decode cX8_entry 5 = .ok (.aload_n 0, 1) := by decide +kernel
theorem dX8_entry_6 : decode cX8_entry 6 = .ok (.getfield 9, 3) := by decide +kernel
theorem dX8_entry_9 : decode cX8_entry 9 = .ok (.i2l, 1) := by decide +kernel
theorem dX8_entry_10 : decode cX8_entry 10 = .ok (.lconst 0, 1) := by decide +kernel
theorem dX8_entry_11 : decode cX8_entry 11 = .ok (.ldc2_w 72, 3) := by decide +kernel
theorem dX8_entry_14 : decode cX8_entry 14 = .ok (.invokestatic 68, 3) := by decide +kernel
theorem dX8_entry_17 : decode cX8_entry 17 = .ok (.ifCond .eq 19, 3) := by decide +kernel
theorem dX8_entry_20 : decode cX8_entry 20 = .ok (.iload_n 1, 1) := by decide +kernel
theorem dX8_entry_21 : decode cX8_entry 21 = .ok (.i2l, 1) := by decide +kernel
theorem dX8_entry_22 : decode cX8_entry 22 = .ok (.lconst 0, 1) := by decide +kernel
theorem dX8_entry_23 : decode cX8_entry 23 = .ok (.aload_n 0, 1) := by decide +kernel
theorem dX8_entry_24 : decode cX8_entry 24 = .ok (.getfield 85, 3) := by decide +kernel
theorem dX8_entry_27 : decode cX8_entry 27 = .ok (.iconst 1, 1) := by decide +kernel
theorem dX8_entry_28 : decode cX8_entry 28 = .ok (.isub, 1) := by decide +kernel
theorem dX8_entry_29 : decode cX8_entry 29 = .ok (.i2l, 1) := by decide +kernel
theorem dX8_entry_30 : decode cX8_entry 30 = .ok (.invokestatic 68, 3) := by decide +kernel
theorem dX8_entry_33 : decode cX8_entry 33 = .ok (.ifCond .ne 5, 3) := by decide +kernel
theorem dX8_entry_36 : decode cX8_entry 36 = .ok (.iconst 0, 1) := by decide +kernel
theorem dX8_entry_37 : decode cX8_entry 37 = .ok (.ireturn, 1) := by decide +kernel
theorem dX8_entry_38 : decode cX8_entry 38 = .ok (.aload_n 0, 1) := by decide +kernel
theorem dX8_entry_39 : decode cX8_entry 39 = .ok (.getfield 13, 3) := by decide +kernel
theorem dX8_entry_42 : decode cX8_entry 42 = .ok (.iload_n 1, 1) := by decide +kernel
theorem dX8_entry_43 : decode cX8_entry 43 = .ok (.aload_n 0, 1) := by decide +kernel
theorem dX8_entry_44 : decode cX8_entry 44 = .ok (.getfield 9, 3) := by decide +kernel
theorem dX8_entry_47 : decode cX8_entry 47 = .ok (.ifCond .ne 10, 3) := by decide +kernel
theorem dX8_entry_50 : decode cX8_entry 50 = .ok (.lload_n 2, 1) := by decide +kernel
theorem dX8_entry_51 : decode cX8_entry 51 = .ok (.l2i, 1) := by decide +kernel
theorem dX8_entry_52 : decode cX8_entry 52 = .ok (.i2b, 1) := by decide +kernel
theorem dX8_entry_53 : decode cX8_entry 53 = .ok (.i2l, 1) := by decide +kernel
theorem dX8_entry_54 : decode cX8_entry 54 = .ok (.goto 18, 3) := by decide +kernel
theorem dX8_entry_57 : decode cX8_entry 57 = .ok (.aload_n 0, 1) := by decide +kernel
theorem dX8_entry_58 : decode cX8_entry 58 = .ok (.getfield 9, 3) := by decide +kernel
theorem dX8_entry_61 : decode cX8_entry 61 = .ok (.iconst 1, 1) := by decide +kernel
theorem dX8_entry_62 : decode cX8_entry 62 = .ok (.if_icmp .ne 9, 3) := by decide +kernel
theorem dX8_entry_65 : decode cX8_entry 65 = .ok (.lload_n 2, 1) := by decide +kernel
theorem dX8_entry_66 : decode cX8_entry 66 = .ok (.l2i, 1) := by decide +kernel
theorem dX8_entry_67 : decode cX8_entry 67 = .ok (.i2l, 1) := by decide +kernel
theorem dX8_entry_68 : decode cX8_entry 68 = .ok (.goto 4, 3) := by decide +kernel
theorem dX8_entry_71 : decode cX8_entry 71 = .ok (.lload_n 2, 1) := by decide +kernel
theorem dX8_entry_72 : decode cX8_entry 72 = .ok (.lastore, 1) := by decide +kernel
theorem dX8_entry_73 : decode cX8_entry 73 = .ok (.iconst 1, 1) := by decide +kernel
theorem dX8_entry_74 : decode cX8_entry 74 = .ok (.ireturn, 1) := by decide +kernel
set_option maxRecDepth 20000 in
theorem ggX8_lay_X8_in : GoodIn wsX8_lay wsX8_in := goodIn_r _ [16] (by decide +kernel) (by decide +kernel)
set_option maxRecDepth 20000 in
theorem gX8_lay_X8_in : GoodIn wsX8_lay (va_wsS RX8 68 yX8_in wsX8_in) := goodIn_app (goodIn_of _ (by decide +kernel)) ggX8_lay_X8_in
theorem dX8_lay_0 : decode cX8_lay 0 = .ok (.aload_n 0, 1) := by decide +kernel
theorem dX8_lay_1 : decode cX8_lay 1 = .ok (.iconst 0, 1) := by decide +kernel
theorem dX8_lay_2 : decode cX8_lay 2 = .ok (.putfield 61, 3) := by decide +kernel
theorem dX8_lay_5 : decode cX8_lay 5 = .ok (.aload_n 0, 1) := by decide +kernel
theorem dX8_lay_6 : decode cX8_lay 6 = .ok (.getfield 9, 3) := by decide +kernel
theorem dX8_lay_9 : decode cX8_lay 9 = .ok (.ifCond .lt 22, 3) := by decide +kernel
theorem dX8_lay_12 : decode cX8_lay 12 = .ok (.aload_n 0, 1) := by decide +kernel
theorem dX8_lay_13 : decode cX8_lay 13 = .ok (.getfield 76, 3) := by decide +kernel
theorem dX8_lay_16 : decode cX8_lay 16 = .ok (.ifCond .eq 15, 3) := by decide +kernel
theorem dX8_lay_19 : decode cX8_lay 19 = .ok (.iload_n 1, 1) := by decide +kernel
theorem dX8_lay_20 : decode cX8_lay 20 = .ok (.i2l, 1) := by decide +kernel
theorem dX8_lay_21 : decode cX8_lay 21 = .ok (.lconst 0, 1) := by decide +kernel
theorem dX8_lay_22 : decode cX8_lay 22 = .ok (.ldc2_w 72, 3) := by decide +kernel
theorem dX8_lay_25 : decode cX8_lay 25 = .ok (.invokestatic 68, 3) := by decide +kernel
theorem dX8_lay_28 : decode cX8_lay 28 = .ok (.ifCond .ne 5, 3) := by decide +kernel
theorem dX8_lay_31 : decode cX8_lay 31 = .ok (.iconst (-1), 1) := by decide +kernel
theorem dX8_lay_32 : decode cX8_lay 32 = .ok (.ireturn, 1) := by decide +kernel
theorem dX8_lay_33 : decode cX8_lay 33 = .ok (.aload_n 0, 1) := by decide +kernel
theorem dX8_lay_34 : decode cX8_lay 34 = .ok (.getfield 85, 3) := by decide +kernel
theorem dX8_lay_37 : decode cX8_lay 37 = .ok (.aload_n 0, 1) := by decide +kernel
theorem dX8_lay_38 : decode cX8_lay 38 = .ok (.getfield 80, 3) := by decide +kernel
theorem dX8_lay_41 : decode cX8_lay 41 = .ok (.invokestatic 88, 3) := by decide +kernel
theorem dX8_lay_44 : decode cX8_lay 44 = .ok (.istore_n 2, 1) := by decide +kernel
theorem dX8_lay_45 : decode cX8_lay 45 = .ok (.iconst 0, 1) := by decide +kernel
theorem dX8_lay_46 : decode cX8_lay 46 = .ok (.istore_n 3, 1) := by decide +kernel
theorem dX8_lay_47 : decode cX8_lay 47 = .ok (.iload_n 3, 1) := by decide +kernel
theorem dX8_lay_48 : decode cX8_lay 48 = .ok (.iload_n 2, 1) := by decide +kernel
theorem dX8_lay_49 : decode cX8_lay 49 = .ok (.if_icmp .ge 25, 3) := by decide +kernel
theorem dX8_lay_52 : decode cX8_lay 52 = .ok (.aload_n 0, 1) := by decide +kernel
theorem dX8_lay_53 : decode cX8_lay 53 = .ok (.getfield 17, 3) := by decide +kernel
theorem dX8_lay_56 : decode cX8_lay 56 = .ok (.iconst 3, 1) := by decide +kernel
theorem dX8_lay_57 : decode cX8_lay 57 = .ok (.iload_n 3, 1) := by decide +kernel
theorem dX8_lay_58 : decode cX8_lay 58 = .ok (.imul, 1) := by decide +kernel
theorem dX8_lay_59 : decode cX8_lay 59 = .ok (.iload_n 1, 1) := by decide +kernel
theorem dX8_lay_60 : decode cX8_lay 60 = .ok (.iadd, 1) := by decide +kernel
theorem dX8_lay_61 : decode cX8_lay 61 = .ok (.aload_n 0, 1) := by decide +kernel
theorem dX8_lay_62 : decode cX8_lay 62 = .ok (.getfield 13, 3) := by decide +kernel
theorem dX8_lay_65 : decode cX8_lay 65 = .ok (.iload_n 3, 1) := by decide +kernel
theorem dX8_lay_66 : decode cX8_lay 66 = .ok (.laload, 1) := by decide +kernel
theorem dX8_lay_67 : decode cX8_lay 67 = .ok (.lastore, 1) := by decide +kernel
theorem dX8_lay_68 : decode cX8_lay 68 = .ok (.iinc 3 1, 3) := by decide +kernel
theorem dX8_lay_71 : decode cX8_lay 71 = .ok (.goto (-24), 3) := by decide +kernel
theorem dX8_lay_74 : decode cX8_lay 74 = .ok (.aload_n 0, 1) := by decide +kernel
theorem dX8_lay_75 : decode cX8_lay 75 = .ok (.iconst (-1), 1) := by decide +kernel
theorem dX8_lay_76 : decode cX8_lay 76 = .ok (.putfield 9, 3) := by decide +kernel
theorem dX8_lay_79 : decode cX8_lay 79 = .ok (.iload_n 2, 1) := by decide +kernel
theorem dX8_lay_80 : decode cX8_lay 80 = .ok (.ireturn, 1) := by decide +kernel
set_option maxRecDepth 20000 in
theorem ggX8_isShare_X8_in : GoodIn wsX8_isShare wsX8_in := goodIn_r _ [6] (by decide +kernel) (by decide +kernel)
set_option maxRecDepth 20000 in
theorem gX8_isShare_X8_in : GoodIn wsX8_isShare (va_wsS RX8 68 yX8_in wsX8_in) := goodIn_app (goodIn_of _ (by decide +kernel)) ggX8_isShare_X8_in
theorem dX8_isShare_0 : decode cX8_isShare 0 = .ok (.lload_n 0, 1) := by decide +kernel
theorem dX8_isShare_1 : decode cX8_isShare 1 = .ok (.ldc2_w 94, 3) := by decide +kernel
theorem dX8_isShare_4 : decode cX8_isShare 4 = .ok (.ldc2_w 96, 3) := by decide +kernel
theorem dX8_isShare_7 : decode cX8_isShare 7 = .ok (.invokestatic 68, 3) := by decide +kernel
theorem dX8_isShare_10 : decode cX8_isShare 10 = .ok (.ifCond .eq 32, 3) := by decide +kernel
theorem dX8_isShare_13 : decode cX8_isShare 13 = .ok (.lload_n 2, 1) := by decide +kernel
theorem dX8_isShare_14 : decode cX8_isShare 14 = .ok (.ldc2_w 94, 3) := by decide +kernel
theorem dX8_isShare_17 : decode cX8_isShare 17 = .ok (.ldc2_w 96, 3) := by decide +kernel
theorem dX8_isShare_20 : decode cX8_isShare 20 = .ok (.invokestatic 68, 3) := by decide +kernel
theorem dX8_isShare_23 : decode cX8_isShare 23 = .ok (.ifCond .eq 19, 3) := by decide +kernel
theorem dX8_isShare_26 : decode cX8_isShare 26 = .ok (.lload 4, 2) := by decide +kernel
theorem dX8_isShare_28 : decode cX8_isShare 28 = .ok (.lconst 1, 1) := by decide +kernel
theorem dX8_isShare_29 : decode cX8_isShare 29 = .ok (.ldc2_w 96, 3) := by decide +kernel
theorem dX8_isShare_32 : decode cX8_isShare 32 = .ok (.invokestatic 68, 3) := by decide +kernel
theorem dX8_isShare_35 : decode cX8_isShare 35 = .ok (.ifCond .eq 7, 3) := by decide +kernel
theorem dX8_isShare_38 : decode cX8_isShare 38 = .ok (.iconst 1, 1) := by decide +kernel
theorem dX8_isShare_39 : decode cX8_isShare 39 = .ok (.goto 4, 3) := by decide +kernel
theorem dX8_isShare_42 : decode cX8_isShare 42 = .ok (.iconst 0, 1) := by decide +kernel
theorem dX8_isShare_43 : decode cX8_isShare 43 = .ok (.ireturn, 1) := by decide +kernel
set_option maxRecDepth 20000 in
theorem ggX8_seal_X8_refuse : GoodIn wsX8_seal wsX8_refuse := goodIn_r _ [12, 1, 21, 22, 23, 24, 25, 26, 27, 28, 29, 30, 31, 32, 33, 34, 35, 36, 37, 38, 39, 40, 41, 42, 43, 44, 45, 46, 47, 48, 49, 50, 51, 52, 53] (by decide +kernel) (by decide +kernel)
set_option maxRecDepth 20000 in
theorem gX8_seal_X8_refuse : GoodIn wsX8_seal (wsV RX8 98 RX8 yX8_refuse wsX8_refuse) := goodIn_app (goodIn_of _ (by decide +kernel)) ggX8_seal_X8_refuse
set_option maxRecDepth 20000 in
theorem ggX8_seal_X8_isShare : GoodIn wsX8_seal wsX8_isShare := goodIn_r _ [15, 16, 17, 18, 19, 11, 20] (by decide +kernel) (by decide +kernel)
set_option maxRecDepth 20000 in
theorem gX8_seal_X8_isShare : GoodIn wsX8_seal (va_wsS RX8 102 yX8_isShare wsX8_isShare) := goodIn_app (goodIn_of _ (by decide +kernel)) ggX8_seal_X8_isShare
theorem dX8_seal_0 : decode cX8_seal 0 = .ok (.aload_n 0, 1) := by decide +kernel
theorem dX8_seal_1 : decode cX8_seal 1 = .ok (.iconst 0, 1) := by decide +kernel
theorem dX8_seal_2 : decode cX8_seal 2 = .ok (.putfield 61, 3) := by decide +kernel
theorem dX8_seal_5 : decode cX8_seal 5 = .ok (.aload_n 0, 1) := by decide +kernel
theorem dX8_seal_6 : decode cX8_seal 6 = .ok (.getfield 76, 3) := by decide +kernel
theorem dX8_seal_9 : decode cX8_seal 9 = .ok (.ifCond .ne 10, 3) := by decide +kernel
theorem dX8_seal_12 : decode cX8_seal 12 = .ok (.aload_n 0, 1) := by decide +kernel
theorem dX8_seal_13 : decode cX8_seal 13 = .ok (.iconst 1, 1) := by decide +kernel
theorem dX8_seal_14 : decode cX8_seal 14 = .ok (.invokevirtual 98, 3) := by decide +kernel
theorem dX8_seal_17 : decode cX8_seal 17 = .ok (.l2i, 1) := by decide +kernel
theorem dX8_seal_18 : decode cX8_seal 18 = .ok (.ireturn, 1) := by decide +kernel
theorem dX8_seal_19 : decode cX8_seal 19 = .ok (.iconst 0, 1) := by decide +kernel
theorem dX8_seal_20 : decode cX8_seal 20 = .ok (.istore_n 1, 1) := by decide +kernel
theorem dX8_seal_21 : decode cX8_seal 21 = .ok (.iload_n 1, 1) := by decide +kernel
theorem dX8_seal_22 : decode cX8_seal 22 = .ok (.aload_n 0, 1) := by decide +kernel
theorem dX8_seal_23 : decode cX8_seal 23 = .ok (.getfield 80, 3) := by decide +kernel
theorem dX8_seal_26 : decode cX8_seal 26 = .ok (.if_icmp .ge 87, 3) := by decide +kernel
theorem dX8_seal_29 : decode cX8_seal 29 = .ok (.aload_n 0, 1) := by decide +kernel
theorem dX8_seal_30 : decode cX8_seal 30 = .ok (.getfield 17, 3) := by decide +kernel
theorem dX8_seal_33 : decode cX8_seal 33 = .ok (.iconst 3, 1) := by decide +kernel
theorem dX8_seal_34 : decode cX8_seal 34 = .ok (.iload_n 1, 1) := by decide +kernel
theorem dX8_seal_35 : decode cX8_seal 35 = .ok (.imul, 1) := by decide +kernel
theorem dX8_seal_36 : decode cX8_seal 36 = .ok (.laload, 1) := by decide +kernel
theorem dX8_seal_37 : decode cX8_seal 37 = .ok (.lstore_n 2, 1) := by decide +kernel
theorem dX8_seal_38 : decode cX8_seal 38 = .ok (.aload_n 0, 1) := by decide +kernel
theorem dX8_seal_39 : decode cX8_seal 39 = .ok (.getfield 17, 3) := by decide +kernel
theorem dX8_seal_42 : decode cX8_seal 42 = .ok (.iconst 3, 1) := by decide +kernel
theorem dX8_seal_43 : decode cX8_seal 43 = .ok (.iload_n 1, 1) := by decide +kernel
theorem dX8_seal_44 : decode cX8_seal 44 = .ok (.imul, 1) := by decide +kernel
theorem dX8_seal_45 : decode cX8_seal 45 = .ok (.iconst 1, 1) := by decide +kernel
theorem dX8_seal_46 : decode cX8_seal 46 = .ok (.iadd, 1) := by decide +kernel
theorem dX8_seal_47 : decode cX8_seal 47 = .ok (.laload, 1) := by decide +kernel
theorem dX8_seal_48 : decode cX8_seal 48 = .ok (.lstore 4, 2) := by decide +kernel
theorem dX8_seal_50 : decode cX8_seal 50 = .ok (.aload_n 0, 1) := by decide +kernel
theorem dX8_seal_51 : decode cX8_seal 51 = .ok (.getfield 17, 3) := by decide +kernel
theorem dX8_seal_54 : decode cX8_seal 54 = .ok (.iconst 3, 1) := by decide +kernel
theorem dX8_seal_55 : decode cX8_seal 55 = .ok (.iload_n 1, 1) := by decide +kernel
theorem dX8_seal_56 : decode cX8_seal 56 = .ok (.imul, 1) := by decide +kernel
theorem dX8_seal_57 : decode cX8_seal 57 = .ok (.iconst 2, 1) := by decide +kernel
theorem dX8_seal_58 : decode cX8_seal 58 = .ok (.iadd, 1) := by decide +kernel
theorem dX8_seal_59 : decode cX8_seal 59 = .ok (.laload, 1) := by decide +kernel
theorem dX8_seal_60 : decode cX8_seal 60 = .ok (.lstore 6, 2) := by decide +kernel
theorem dX8_seal_62 : decode cX8_seal 62 = .ok (.lload_n 2, 1) := by decide +kernel
theorem dX8_seal_63 : decode cX8_seal 63 = .ok (.lload 4, 2) := by decide +kernel
theorem dX8_seal_65 : decode cX8_seal 65 = .ok (.lload 6, 2) := by decide +kernel
theorem dX8_seal_67 : decode cX8_seal 67 = .ok (.invokestatic 102, 3) := by decide +kernel
theorem dX8_seal_70 : decode cX8_seal 70 = .ok (.ifCond .eq 33, 3) := by decide +kernel
theorem dX8_seal_73 : decode cX8_seal 73 = .ok (.lload_n 2, 1) := by decide +kernel
theorem dX8_seal_74 : decode cX8_seal 74 = .ok (.aload_n 0, 1) := by decide +kernel
theorem dX8_seal_75 : decode cX8_seal 75 = .ok (.getfield 80, 3) := by decide +kernel
theorem dX8_seal_78 : decode cX8_seal 78 = .ok (.i2l, 1) := by decide +kernel
theorem dX8_seal_79 : decode cX8_seal 79 = .ok (.lmul, 1) := by decide +kernel
theorem dX8_seal_80 : decode cX8_seal 80 = .ok (.lload 6, 2) := by decide +kernel
theorem dX8_seal_82 : decode cX8_seal 82 = .ok (.lrem, 1) := by decide +kernel
theorem dX8_seal_83 : decode cX8_seal 83 = .ok (.lconst 0, 1) := by decide +kernel
theorem dX8_seal_84 : decode cX8_seal 84 = .ok (.lcmp, 1) := by decide +kernel
theorem dX8_seal_85 : decode cX8_seal 85 = .ok (.ifCond .ne 18, 3) := by decide +kernel
theorem dX8_seal_88 : decode cX8_seal 88 = .ok (.lload_n 2, 1) := by decide +kernel
theorem dX8_seal_89 : decode cX8_seal 89 = .ok (.iload_n 1, 1) := by decide +kernel
theorem dX8_seal_90 : decode cX8_seal 90 = .ok (.i2l, 1) := by decide +kernel
theorem dX8_seal_91 : decode cX8_seal 91 = .ok (.lmul, 1) := by decide +kernel
theorem dX8_seal_92 : decode cX8_seal 92 = .ok (.lload 4, 2) := by decide +kernel
theorem dX8_seal_94 : decode cX8_seal 94 = .ok (.ladd, 1) := by decide +kernel
theorem dX8_seal_95 : decode cX8_seal 95 = .ok (.lload 6, 2) := by decide +kernel
theorem dX8_seal_97 : decode cX8_seal 97 = .ok (.lrem, 1) := by decide +kernel
theorem dX8_seal_98 : decode cX8_seal 98 = .ok (.lconst 0, 1) := by decide +kernel
theorem dX8_seal_99 : decode cX8_seal 99 = .ok (.lcmp, 1) := by decide +kernel
theorem dX8_seal_100 : decode cX8_seal 100 = .ok (.ifCond .eq 7, 3) := by decide +kernel
theorem dX8_seal_103 : decode cX8_seal 103 = .ok (.iconst (-1), 1) := by decide +kernel
theorem dX8_seal_104 : decode cX8_seal 104 = .ok (.iload_n 1, 1) := by decide +kernel
theorem dX8_seal_105 : decode cX8_seal 105 = .ok (.isub, 1) := by decide +kernel
theorem dX8_seal_106 : decode cX8_seal 106 = .ok (.ireturn, 1) := by decide +kernel
theorem dX8_seal_107 : decode cX8_seal 107 = .ok (.iinc 1 1, 3) := by decide +kernel
theorem dX8_seal_110 : decode cX8_seal 110 = .ok (.goto (-89), 3) := by decide +kernel
theorem dX8_seal_113 : decode cX8_seal 113 = .ok (.iconst 0, 1) := by decide +kernel
theorem dX8_seal_114 : decode cX8_seal 114 = .ok (.istore_n 1, 1) := by decide +kernel
theorem dX8_seal_115 : decode cX8_seal 115 = .ok (.iload_n 1, 1) := by decide +kernel
theorem dX8_seal_116 : decode cX8_seal 116 = .ok (.iconst 3, 1) := by decide +kernel
theorem dX8_seal_117 : decode cX8_seal 117 = .ok (.aload_n 0, 1) := by decide +kernel
theorem dX8_seal_118 : decode cX8_seal 118 = .ok (.getfield 80, 3) := by decide +kernel
theorem dX8_seal_121 : decode cX8_seal 121 = .ok (.imul, 1) := by decide +kernel
theorem dX8_seal_122 : decode cX8_seal 122 = .ok (.if_icmp .ge 21, 3) := by decide +kernel
theorem dX8_seal_125 : decode cX8_seal 125 = .ok (.aload_n 0, 1) := by decide +kernel
theorem dX8_seal_126 : decode cX8_seal 126 = .ok (.getfield 20, 3) := by decide +kernel
theorem dX8_seal_129 : decode cX8_seal 129 = .ok (.iload_n 1, 1) := by decide +kernel
theorem dX8_seal_130 : decode cX8_seal 130 = .ok (.aload_n 0, 1) := by decide +kernel
theorem dX8_seal_131 : decode cX8_seal 131 = .ok (.getfield 17, 3) := by decide +kernel
theorem dX8_seal_134 : decode cX8_seal 134 = .ok (.iload_n 1, 1) := by decide +kernel
theorem dX8_seal_135 : decode cX8_seal 135 = .ok (.laload, 1) := by decide +kernel
theorem dX8_seal_136 : decode cX8_seal 136 = .ok (.lastore, 1) := by decide +kernel
theorem dX8_seal_137 : decode cX8_seal 137 = .ok (.iinc 1 1, 3) := by decide +kernel
theorem dX8_seal_140 : decode cX8_seal 140 = .ok (.goto (-25), 3) := by decide +kernel
theorem dX8_seal_143 : decode cX8_seal 143 = .ok (.aload_n 0, 1) := by decide +kernel
theorem dX8_seal_144 : decode cX8_seal 144 = .ok (.aload_n 0, 1) := by decide +kernel
theorem dX8_seal_145 : decode cX8_seal 145 = .ok (.getfield 80, 3) := by decide +kernel
theorem dX8_seal_148 : decode cX8_seal 148 = .ok (.putfield 105, 3) := by decide +kernel
theorem dX8_seal_151 : decode cX8_seal 151 = .ok (.aload_n 0, 1) := by decide +kernel
theorem dX8_seal_152 : decode cX8_seal 152 = .ok (.iconst 1, 1) := by decide +kernel
theorem dX8_seal_153 : decode cX8_seal 153 = .ok (.putfield 108, 3) := by decide +kernel
theorem dX8_seal_156 : decode cX8_seal 156 = .ok (.aload_n 0, 1) := by decide +kernel
theorem dX8_seal_157 : decode cX8_seal 157 = .ok (.iconst 0, 1) := by decide +kernel
theorem dX8_seal_158 : decode cX8_seal 158 = .ok (.putfield 76, 3) := by decide +kernel
theorem dX8_seal_161 : decode cX8_seal 161 = .ok (.iconst 0, 1) := by decide +kernel
theorem dX8_seal_162 : decode cX8_seal 162 = .ok (.ireturn, 1) := by decide +kernel
theorem dX8_list_0 : decode cX8_list 0 = .ok (.aload_n 0, 1) := by decide +kernel
theorem dX8_list_1 : decode cX8_list 1 = .ok (.iconst 0, 1) := by decide +kernel
theorem dX8_list_2 : decode cX8_list 2 = .ok (.putfield 61, 3) := by decide +kernel
theorem dX8_list_5 : decode cX8_list 5 = .ok (.aload_n 0, 1) := by decide +kernel
theorem dX8_list_6 : decode cX8_list 6 = .ok (.iconst 2, 1) := by decide +kernel
theorem dX8_list_7 : decode cX8_list 7 = .ok (.putfield 108, 3) := by decide +kernel
theorem dX8_list_10 : decode cX8_list 10 = .ok (.aload_n 0, 1) := by decide +kernel
theorem dX8_list_11 : decode cX8_list 11 = .ok (.iconst 0, 1) := by decide +kernel
theorem dX8_list_12 : decode cX8_list 12 = .ok (.putfield 111, 3) := by decide +kernel
theorem dX8_list_15 : decode cX8_list 15 = .ok (.iconst 1, 1) := by decide +kernel
theorem dX8_list_16 : decode cX8_list 16 = .ok (.ireturn, 1) := by decide +kernel
set_option maxRecDepth 20000 in
theorem ggX8_add_X8_common : GoodIn wsX8_add wsX8_common := goodIn_ca (goodIn_r _ [7] (by decide +kernel) (by decide +kernel)) (goodIn_sub (fun _ h => List.mem_cons_of_mem _ (List.mem_append_right _ h)) (by decide +kernel))
set_option maxRecDepth 20000 in
theorem gX8_add_X8_common : GoodIn wsX8_add (va_wsS RX8 114 yX8_common wsX8_common) := goodIn_app (goodIn_of _ (by decide +kernel)) ggX8_add_X8_common
theorem dX8_add_0 : decode cX8_add 0 = .ok (.lload_n 1, 1) := by decide +kernel
theorem dX8_add_1 : decode cX8_add 1 = .ok (.lload_n 3, 1) := by decide +kernel
theorem dX8_add_2 : decode cX8_add 2 = .ok (.invokestatic 114, 3) := by decide +kernel
theorem dX8_add_5 : decode cX8_add 5 = .ok (.lstore 5, 2) := by decide +kernel
theorem dX8_add_7 : decode cX8_add 7 = .ok (.aload_n 0, 1) := by decide +kernel
theorem dX8_add_8 : decode cX8_add 8 = .ok (.getfield 23, 3) := by decide +kernel
theorem dX8_add_11 : decode cX8_add 11 = .ok (.aload_n 0, 1) := by decide +kernel
theorem dX8_add_12 : decode cX8_add 12 = .ok (.getfield 111, 3) := by decide +kernel
theorem dX8_add_15 : decode cX8_add 15 = .ok (.lload_n 1, 1) := by decide +kernel
theorem dX8_add_16 : decode cX8_add 16 = .ok (.lload 5, 2) := by decide +kernel
theorem dX8_add_18 : decode cX8_add 18 = .ok (.ldiv, 1) := by decide +kernel
theorem dX8_add_19 : decode cX8_add 19 = .ok (.lastore, 1) := by decide +kernel
theorem dX8_add_20 : decode cX8_add 20 = .ok (.aload_n 0, 1) := by decide +kernel
theorem dX8_add_21 : decode cX8_add 21 = .ok (.getfield 26, 3) := by decide +kernel
theorem dX8_add_24 : decode cX8_add 24 = .ok (.aload_n 0, 1) := by decide +kernel
theorem dX8_add_25 : decode cX8_add 25 = .ok (.getfield 111, 3) := by decide +kernel
theorem dX8_add_28 : decode cX8_add 28 = .ok (.lload_n 3, 1) := by decide +kernel
theorem dX8_add_29 : decode cX8_add 29 = .ok (.lload 5, 2) := by decide +kernel
theorem dX8_add_31 : decode cX8_add 31 = .ok (.ldiv, 1) := by decide +kernel
theorem dX8_add_32 : decode cX8_add 32 = .ok (.lastore, 1) := by decide +kernel
theorem dX8_add_33 : decode cX8_add 33 = .ok (.aload_n 0, 1) := by decide +kernel
theorem dX8_add_34 : decode cX8_add 34 = .ok (.dup, 1) := by decide +kernel
theorem dX8_add_35 : decode cX8_add 35 = .ok (.getfield 111, 3) := by decide +kernel
theorem dX8_add_38 : decode cX8_add 38 = .ok (.iconst 1, 1) := by decide +kernel
theorem dX8_add_39 : decode cX8_add 39 = .ok (.iadd, 1) := by decide +kernel
theorem dX8_add_40 : decode cX8_add 40 = .ok (.putfield 111, 3) := by decide +kernel
theorem dX8_add_43 : decode cX8_add 43 = .ok (.return_, 1) := by decide +kernel
set_option maxRecDepth 20000 in
theorem ggX8_fraction_X8_in : GoodIn wsX8_fraction wsX8_in := goodIn_r _ [8] (by decide +kernel) (by decide +kernel)
set_option maxRecDepth 20000 in
theorem gX8_fraction_X8_in : GoodIn wsX8_fraction (va_wsS RX8 68 yX8_in wsX8_in) := goodIn_app (goodIn_of _ (by decide +kernel)) ggX8_fraction_X8_in
set_option maxRecDepth 20000 in
theorem ggX8_fraction_X8_add : GoodIn wsX8_fraction wsX8_add := goodIn_ca (goodIn_r _ [12, 13, 4, 14, 15, 16, 7, 17, 18, 19, 20, 21, 22, 23, 24, 25, 26, 27, 28, 29, 30, 31, 32, 33, 34, 35, 36, 37, 38, 39, 40, 41, 42, 43, 44, 45, 46, 47, 48, 49, 50] (by decide +kernel) (by decide +kernel)) (goodIn_sub (fun _ h => List.mem_cons_of_mem _ (List.mem_append_right _ h)) (by decide +kernel))
set_option maxRecDepth 20000 in
theorem gX8_fraction_X8_add : GoodIn wsX8_fraction (wsV RX8 120 RX8 yX8_add wsX8_add) := goodIn_app (goodIn_of _ (by decide +kernel)) ggX8_fraction_X8_add
theorem dX8_fraction_0 : decode cX8_fraction 0 = .ok (.aload_n 0, 1) := by decide +kernel
theorem dX8_fraction_1 : decode cX8_fraction 1 = .ok (.iconst 0, 1) := by decide +kernel
theorem dX8_fraction_2 : decode cX8_fraction 2 = .ok (.putfield 61, 3) := by decide +kernel
theorem dX8_fraction_5 : decode cX8_fraction 5 = .ok (.aload_n 0, 1) := by decide +kernel
theorem dX8_fraction_6 : decode cX8_fraction 6 = .ok (.getfield 108, 3) := by decide +kernel
theorem dX8_fraction_9 : decode cX8_fraction 9 = .ok (.iconst 2, 1) := by decide +kernel
theorem dX8_fraction_10 : decode cX8_fraction 10 = .ok (.if_icmp .ne 34, 3) := by decide +kernel
theorem dX8_fraction_13 : decode cX8_fraction 13 = .ok (.lload_n 1, 1) := by decide +kernel
theorem dX8_fraction_14 : decode cX8_fraction 14 = .ok (.lconst 1, 1) := by decide +kernel
theorem dX8_fraction_15 : decode cX8_fraction 15 = .ok (.ldc2_w 118, 3) := by decide +kernel
theorem dX8_fraction_18 : decode cX8_fraction 18 = .ok (.invokestatic 68, 3) := by decide +kernel
theorem dX8_fraction_21 : decode cX8_fraction 21 = .ok (.ifCond .eq 23, 3) := by decide +kernel
theorem dX8_fraction_24 : decode cX8_fraction 24 = .ok (.lload_n 3, 1) := by decide +kernel
theorem dX8_fraction_25 : decode cX8_fraction 25 = .ok (.lconst 1, 1) := by decide +kernel
theorem dX8_fraction_26 : decode cX8_fraction 26 = .ok (.ldc2_w 118, 3) := by decide +kernel
theorem dX8_fraction_29 : decode cX8_fraction 29 = .ok (.invokestatic 68, 3) := by decide +kernel
theorem dX8_fraction_32 : decode cX8_fraction 32 = .ok (.ifCond .eq 12, 3) := by decide +kernel
theorem dX8_fraction_35 : decode cX8_fraction 35 = .ok (.aload_n 0, 1) := by decide +kernel
theorem dX8_fraction_36 : decode cX8_fraction 36 = .ok (.getfield 111, 3) := by decide +kernel
theorem dX8_fraction_39 : decode cX8_fraction 39 = .ok (.bipush 40, 2) := by decide +kernel
theorem dX8_fraction_41 : decode cX8_fraction 41 = .ok (.if_icmp .ne 5, 3) := by decide +kernel
theorem dX8_fraction_44 : decode cX8_fraction 44 = .ok (.iconst (-1), 1) := by decide +kernel
theorem dX8_fraction_45 : decode cX8_fraction 45 = .ok (.ireturn, 1) := by decide +kernel
theorem dX8_fraction_46 : decode cX8_fraction 46 = .ok (.aload_n 0, 1) := by decide +kernel
theorem dX8_fraction_47 : decode cX8_fraction 47 = .ok (.lload_n 1, 1) := by decide +kernel
theorem dX8_fraction_48 : decode cX8_fraction 48 = .ok (.lload_n 3, 1) := by decide +kernel
theorem dX8_fraction_49 : decode cX8_fraction 49 = .ok (.invokevirtual 120, 3) := by decide +kernel
theorem dX8_fraction_52 : decode cX8_fraction 52 = .ok (.aload_n 0, 1) := by decide +kernel
theorem dX8_fraction_53 : decode cX8_fraction 53 = .ok (.getfield 111, 3) := by decide +kernel
theorem dX8_fraction_56 : decode cX8_fraction 56 = .ok (.ireturn, 1) := by decide +kernel
theorem dX8_count_0 : decode cX8_count 0 = .ok (.aload_n 0, 1) := by decide +kernel
theorem dX8_count_1 : decode cX8_count 1 = .ok (.iconst 0, 1) := by decide +kernel
theorem dX8_count_2 : decode cX8_count 2 = .ok (.putfield 61, 3) := by decide +kernel
theorem dX8_count_5 : decode cX8_count 5 = .ok (.iload_n 1, 1) := by decide +kernel
theorem dX8_count_6 : decode cX8_count 6 = .ok (.tableswitch 112 0 6 #[42, 47, 64, 81, 86, 91, 96], 42) := by decide +kernel
theorem dX8_count_48 : decode cX8_count 48 = .ok (.aload_n 0, 1) := by decide +kernel
theorem dX8_count_49 : decode cX8_count 49 = .ok (.getfield 108, 3) := by decide +kernel
theorem dX8_count_52 : decode cX8_count 52 = .ok (.ireturn, 1) := by decide +kernel
theorem dX8_count_53 : decode cX8_count 53 = .ok (.aload_n 0, 1) := by decide +kernel
theorem dX8_count_54 : decode cX8_count 54 = .ok (.getfield 108, 3) := by decide +kernel
theorem dX8_count_57 : decode cX8_count 57 = .ok (.iconst 1, 1) := by decide +kernel
theorem dX8_count_58 : decode cX8_count 58 = .ok (.if_icmp .ne 10, 3) := by decide +kernel
theorem dX8_count_61 : decode cX8_count 61 = .ok (.aload_n 0, 1) := by decide +kernel
theorem dX8_count_62 : decode cX8_count 62 = .ok (.getfield 105, 3) := by decide +kernel
theorem dX8_count_65 : decode cX8_count 65 = .ok (.goto 4, 3) := by decide +kernel
theorem dX8_count_68 : decode cX8_count 68 = .ok (.iconst 0, 1) := by decide +kernel
theorem dX8_count_69 : decode cX8_count 69 = .ok (.ireturn, 1) := by decide +kernel
theorem dX8_count_70 : decode cX8_count 70 = .ok (.aload_n 0, 1) := by decide +kernel
theorem dX8_count_71 : decode cX8_count 71 = .ok (.getfield 108, 3) := by decide +kernel
theorem dX8_count_74 : decode cX8_count 74 = .ok (.iconst 2, 1) := by decide +kernel
theorem dX8_count_75 : decode cX8_count 75 = .ok (.if_icmp .ne 10, 3) := by decide +kernel
theorem dX8_count_78 : decode cX8_count 78 = .ok (.aload_n 0, 1) := by decide +kernel
theorem dX8_count_79 : decode cX8_count 79 = .ok (.getfield 111, 3) := by decide +kernel
theorem dX8_count_82 : decode cX8_count 82 = .ok (.goto 4, 3) := by decide +kernel
theorem dX8_count_85 : decode cX8_count 85 = .ok (.iconst 0, 1) := by decide +kernel
theorem dX8_count_86 : decode cX8_count 86 = .ok (.ireturn, 1) := by decide +kernel
theorem dX8_count_87 : decode cX8_count 87 = .ok (.aload_n 0, 1) := by decide +kernel
theorem dX8_count_88 : decode cX8_count 88 = .ok (.getfield 124, 3) := by decide +kernel
theorem dX8_count_91 : decode cX8_count 91 = .ok (.ireturn, 1) := by decide +kernel
theorem dX8_count_92 : decode cX8_count 92 = .ok (.aload_n 0, 1) := by decide +kernel
theorem dX8_count_93 : decode cX8_count 93 = .ok (.getfield 127, 3) := by decide +kernel
theorem dX8_count_96 : decode cX8_count 96 = .ok (.ireturn, 1) := by decide +kernel
theorem dX8_count_97 : decode cX8_count 97 = .ok (.aload_n 0, 1) := by decide +kernel
theorem dX8_count_98 : decode cX8_count 98 = .ok (.getfield 130, 3) := by decide +kernel
theorem dX8_count_101 : decode cX8_count 101 = .ok (.ireturn, 1) := by decide +kernel
theorem dX8_count_102 : decode cX8_count 102 = .ok (.aload_n 0, 1) := by decide +kernel
theorem dX8_count_103 : decode cX8_count 103 = .ok (.getfield 9, 3) := by decide +kernel
theorem dX8_count_106 : decode cX8_count 106 = .ok (.ifCond .ge 7, 3) := by decide +kernel
theorem dX8_count_109 : decode cX8_count 109 = .ok (.iconst (-1), 1) := by decide +kernel
theorem dX8_count_110 : decode cX8_count 110 = .ok (.goto 7, 3) := by decide +kernel
theorem dX8_count_113 : decode cX8_count 113 = .ok (.aload_n 0, 1) := by decide +kernel
theorem dX8_count_114 : decode cX8_count 114 = .ok (.getfield 85, 3) := by decide +kernel
theorem dX8_count_117 : decode cX8_count 117 = .ok (.ireturn, 1) := by decide +kernel
theorem dX8_count_118 : decode cX8_count 118 = .ok (.iconst (-1), 1) := by decide +kernel
theorem dX8_count_119 : decode cX8_count 119 = .ok (.ireturn, 1) := by decide +kernel
set_option maxRecDepth 20000 in
theorem ggX8_told_X8_in : GoodIn wsX8_told wsX8_in := goodIn_r _ [12] (by decide +kernel) (by decide +kernel)
set_option maxRecDepth 20000 in
theorem gX8_told_X8_in : GoodIn wsX8_told (va_wsS RX8 68 yX8_in wsX8_in) := goodIn_app (goodIn_of _ (by decide +kernel)) ggX8_told_X8_in
set_option maxRecDepth 20000 in
theorem ggX8_told_X8_refuse : GoodIn wsX8_told wsX8_refuse := goodIn_r _ [16, 1, 17, 18, 19, 20, 21, 22, 23, 24, 25, 26, 27, 28, 29, 30, 31, 32, 33, 34, 35, 36, 37, 38, 39, 40, 41, 42, 43, 44, 45, 46, 47, 48, 49] (by decide +kernel) (by decide +kernel)
set_option maxRecDepth 20000 in
theorem gX8_told_X8_refuse : GoodIn wsX8_told (wsV RX8 98 RX8 yX8_refuse wsX8_refuse) := goodIn_app (goodIn_of _ (by decide +kernel)) ggX8_told_X8_refuse
theorem dX8_told_0 : decode cX8_told 0 = .ok (.aload_n 0, 1) := by decide +kernel
theorem dX8_told_1 : decode cX8_told 1 = .ok (.iconst 0, 1) := by decide +kernel
theorem dX8_told_2 : decode cX8_told 2 = .ok (.putfield 61, 3) := by decide +kernel
theorem dX8_told_5 : decode cX8_told 5 = .ok (.aload_n 0, 1) := by decide +kernel
theorem dX8_told_6 : decode cX8_told 6 = .ok (.getfield 108, 3) := by decide +kernel
theorem dX8_told_9 : decode cX8_told 9 = .ok (.iconst 1, 1) := by decide +kernel
theorem dX8_told_10 : decode cX8_told 10 = .ok (.if_icmp .ne 42, 3) := by decide +kernel
theorem dX8_told_13 : decode cX8_told 13 = .ok (.iload_n 1, 1) := by decide +kernel
theorem dX8_told_14 : decode cX8_told 14 = .ok (.i2l, 1) := by decide +kernel
theorem dX8_told_15 : decode cX8_told 15 = .ok (.lconst 0, 1) := by decide +kernel
theorem dX8_told_16 : decode cX8_told 16 = .ok (.aload_n 0, 1) := by decide +kernel
theorem dX8_told_17 : decode cX8_told 17 = .ok (.getfield 105, 3) := by decide +kernel
theorem dX8_told_20 : decode cX8_told 20 = .ok (.iconst 1, 1) := by decide +kernel
theorem dX8_told_21 : decode cX8_told 21 = .ok (.isub, 1) := by decide +kernel
theorem dX8_told_22 : decode cX8_told 22 = .ok (.i2l, 1) := by decide +kernel
theorem dX8_told_23 : decode cX8_told 23 = .ok (.invokestatic 68, 3) := by decide +kernel
theorem dX8_told_26 : decode cX8_told 26 = .ok (.ifCond .eq 26, 3) := by decide +kernel
theorem dX8_told_29 : decode cX8_told 29 = .ok (.iload_n 2, 1) := by decide +kernel
theorem dX8_told_30 : decode cX8_told 30 = .ok (.i2l, 1) := by decide +kernel
theorem dX8_told_31 : decode cX8_told 31 = .ok (.lconst 0, 1) := by decide +kernel
theorem dX8_told_32 : decode cX8_told 32 = .ok (.ldc2_w 72, 3) := by decide +kernel
theorem dX8_told_35 : decode cX8_told 35 = .ok (.invokestatic 68, 3) := by decide +kernel
theorem dX8_told_38 : decode cX8_told 38 = .ok (.ifCond .eq 14, 3) := by decide +kernel
theorem dX8_told_41 : decode cX8_told 41 = .ok (.aload_n 0, 1) := by decide +kernel
theorem dX8_told_42 : decode cX8_told 42 = .ok (.getfield 20, 3) := by decide +kernel
theorem dX8_told_45 : decode cX8_told 45 = .ok (.iconst 3, 1) := by decide +kernel
theorem dX8_told_46 : decode cX8_told 46 = .ok (.iload_n 1, 1) := by decide +kernel
theorem dX8_told_47 : decode cX8_told 47 = .ok (.imul, 1) := by decide +kernel
theorem dX8_told_48 : decode cX8_told 48 = .ok (.iload_n 2, 1) := by decide +kernel
theorem dX8_told_49 : decode cX8_told 49 = .ok (.iadd, 1) := by decide +kernel
theorem dX8_told_50 : decode cX8_told 50 = .ok (.laload, 1) := by decide +kernel
theorem dX8_told_51 : decode cX8_told 51 = .ok (.lreturn, 1) := by decide +kernel
theorem dX8_told_52 : decode cX8_told 52 = .ok (.aload_n 0, 1) := by decide +kernel
theorem dX8_told_53 : decode cX8_told 53 = .ok (.getfield 108, 3) := by decide +kernel
theorem dX8_told_56 : decode cX8_told 56 = .ok (.iconst 2, 1) := by decide +kernel
theorem dX8_told_57 : decode cX8_told 57 = .ok (.if_icmp .ne 49, 3) := by decide +kernel
theorem dX8_told_60 : decode cX8_told 60 = .ok (.iload_n 1, 1) := by decide +kernel
theorem dX8_told_61 : decode cX8_told 61 = .ok (.i2l, 1) := by decide +kernel
theorem dX8_told_62 : decode cX8_told 62 = .ok (.lconst 0, 1) := by decide +kernel
theorem dX8_told_63 : decode cX8_told 63 = .ok (.aload_n 0, 1) := by decide +kernel
theorem dX8_told_64 : decode cX8_told 64 = .ok (.getfield 111, 3) := by decide +kernel
theorem dX8_told_67 : decode cX8_told 67 = .ok (.iconst 1, 1) := by decide +kernel
theorem dX8_told_68 : decode cX8_told 68 = .ok (.isub, 1) := by decide +kernel
theorem dX8_told_69 : decode cX8_told 69 = .ok (.i2l, 1) := by decide +kernel
theorem dX8_told_70 : decode cX8_told 70 = .ok (.invokestatic 68, 3) := by decide +kernel
theorem dX8_told_73 : decode cX8_told 73 = .ok (.ifCond .eq 33, 3) := by decide +kernel
theorem dX8_told_76 : decode cX8_told 76 = .ok (.iload_n 2, 1) := by decide +kernel
theorem dX8_told_77 : decode cX8_told 77 = .ok (.i2l, 1) := by decide +kernel
theorem dX8_told_78 : decode cX8_told 78 = .ok (.lconst 0, 1) := by decide +kernel
theorem dX8_told_79 : decode cX8_told 79 = .ok (.lconst 1, 1) := by decide +kernel
theorem dX8_told_80 : decode cX8_told 80 = .ok (.invokestatic 68, 3) := by decide +kernel
theorem dX8_told_83 : decode cX8_told 83 = .ok (.ifCond .eq 23, 3) := by decide +kernel
theorem dX8_told_86 : decode cX8_told 86 = .ok (.iload_n 2, 1) := by decide +kernel
theorem dX8_told_87 : decode cX8_told 87 = .ok (.ifCond .ne 12, 3) := by decide +kernel
theorem dX8_told_90 : decode cX8_told 90 = .ok (.aload_n 0, 1) := by decide +kernel
theorem dX8_told_91 : decode cX8_told 91 = .ok (.getfield 23, 3) := by decide +kernel
theorem dX8_told_94 : decode cX8_told 94 = .ok (.iload_n 1, 1) := by decide +kernel
theorem dX8_told_95 : decode cX8_told 95 = .ok (.laload, 1) := by decide +kernel
theorem dX8_told_96 : decode cX8_told 96 = .ok (.goto 9, 3) := by decide +kernel
theorem dX8_told_99 : decode cX8_told 99 = .ok (.aload_n 0, 1) := by decide +kernel
theorem dX8_told_100 : decode cX8_told 100 = .ok (.getfield 26, 3) := by decide +kernel
theorem dX8_told_103 : decode cX8_told 103 = .ok (.iload_n 1, 1) := by decide +kernel
theorem dX8_told_104 : decode cX8_told 104 = .ok (.laload, 1) := by decide +kernel
theorem dX8_told_105 : decode cX8_told 105 = .ok (.lreturn, 1) := by decide +kernel
theorem dX8_told_106 : decode cX8_told 106 = .ok (.aload_n 0, 1) := by decide +kernel
theorem dX8_told_107 : decode cX8_told 107 = .ok (.iconst 1, 1) := by decide +kernel
theorem dX8_told_108 : decode cX8_told 108 = .ok (.invokevirtual 98, 3) := by decide +kernel
theorem dX8_told_111 : decode cX8_told 111 = .ok (.lreturn, 1) := by decide +kernel
set_option maxRecDepth 20000 in
theorem ggX8_restBy_J9_floorMod_f86c9 : GoodIn wsX8_restBy wsJ9_floorMod_f86c9 := goodIn_r _ [4] (by decide +kernel) (by decide +kernel)
set_option maxRecDepth 20000 in
theorem gX8_restBy_J9_floorMod_f86c9 : GoodIn wsX8_restBy (va_wsS RX8 133 yJ9_floorMod_f86c9 wsJ9_floorMod_f86c9) := goodIn_app (goodIn_of _ (by decide +kernel)) ggX8_restBy_J9_floorMod_f86c9
theorem dX8_restBy_0 : decode cX8_restBy 0 = .ok (.lload_n 0, 1) := by decide +kernel
theorem dX8_restBy_1 : decode cX8_restBy 1 = .ok (.iload_n 2, 1) := by decide +kernel
theorem dX8_restBy_2 : decode cX8_restBy 2 = .ok (.i2l, 1) := by decide +kernel
theorem dX8_restBy_3 : decode cX8_restBy 3 = .ok (.invokestatic 133, 3) := by decide +kernel
theorem dX8_restBy_6 : decode cX8_restBy 6 = .ok (.lreturn, 1) := by decide +kernel
set_option maxRecDepth 20000 in
theorem ggX8_way_X8_restBy : GoodIn wsX8_way wsX8_restBy := goodIn_r _ [8, 9, 10, 11, 12] (by decide +kernel) (by decide +kernel)
set_option maxRecDepth 20000 in
theorem gX8_way_X8_restBy : GoodIn wsX8_way (va_wsS RX8 136 yX8_restBy wsX8_restBy) := goodIn_app (goodIn_of _ (by decide +kernel)) ggX8_way_X8_restBy
theorem dX8_way_0 : decode cX8_way 0 = .ok (.aload_n 0, 1) := by decide +kernel
theorem dX8_way_1 : decode cX8_way 1 = .ok (.getfield 108, 3) := by decide +kernel
theorem dX8_way_4 : decode cX8_way 4 = .ok (.iconst 1, 1) := by decide +kernel
theorem dX8_way_5 : decode cX8_way 5 = .ok (.if_icmp .ne 13, 3) := by decide +kernel
theorem dX8_way_8 : decode cX8_way 8 = .ok (.lload_n 1, 1) := by decide +kernel
theorem dX8_way_9 : decode cX8_way 9 = .ok (.aload_n 0, 1) := by decide +kernel
theorem dX8_way_10 : decode cX8_way 10 = .ok (.getfield 105, 3) := by decide +kernel
theorem dX8_way_13 : decode cX8_way 13 = .ok (.invokestatic 136, 3) := by decide +kernel
theorem dX8_way_16 : decode cX8_way 16 = .ok (.l2i, 1) := by decide +kernel
theorem dX8_way_17 : decode cX8_way 17 = .ok (.ireturn, 1) := by decide +kernel
theorem dX8_way_18 : decode cX8_way 18 = .ok (.iconst 0, 1) := by decide +kernel
theorem dX8_way_19 : decode cX8_way 19 = .ok (.istore_n 3, 1) := by decide +kernel
theorem dX8_way_20 : decode cX8_way 20 = .ok (.iload_n 3, 1) := by decide +kernel
theorem dX8_way_21 : decode cX8_way 21 = .ok (.aload_n 0, 1) := by decide +kernel
theorem dX8_way_22 : decode cX8_way 22 = .ok (.getfield 111, 3) := by decide +kernel
theorem dX8_way_25 : decode cX8_way 25 = .ok (.if_icmp .ge 30, 3) := by decide +kernel
theorem dX8_way_28 : decode cX8_way 28 = .ok (.lload_n 1, 1) := by decide +kernel
theorem dX8_way_29 : decode cX8_way 29 = .ok (.lconst 1, 1) := by decide +kernel
theorem dX8_way_30 : decode cX8_way 30 = .ok (.lcmp, 1) := by decide +kernel
theorem dX8_way_31 : decode cX8_way 31 = .ok (.ifCond .lt 24, 3) := by decide +kernel
theorem dX8_way_34 : decode cX8_way 34 = .ok (.lload_n 1, 1) := by decide +kernel
theorem dX8_way_35 : decode cX8_way 35 = .ok (.aload_n 0, 1) := by decide +kernel
theorem dX8_way_36 : decode cX8_way 36 = .ok (.getfield 26, 3) := by decide +kernel
theorem dX8_way_39 : decode cX8_way 39 = .ok (.iload_n 3, 1) := by decide +kernel
theorem dX8_way_40 : decode cX8_way 40 = .ok (.laload, 1) := by decide +kernel
theorem dX8_way_41 : decode cX8_way 41 = .ok (.lrem, 1) := by decide +kernel
theorem dX8_way_42 : decode cX8_way 42 = .ok (.lconst 0, 1) := by decide +kernel
theorem dX8_way_43 : decode cX8_way 43 = .ok (.lcmp, 1) := by decide +kernel
theorem dX8_way_44 : decode cX8_way 44 = .ok (.ifCond .ne 5, 3) := by decide +kernel
theorem dX8_way_47 : decode cX8_way 47 = .ok (.iload_n 3, 1) := by decide +kernel
theorem dX8_way_48 : decode cX8_way 48 = .ok (.ireturn, 1) := by decide +kernel
theorem dX8_way_49 : decode cX8_way 49 = .ok (.iinc 3 1, 3) := by decide +kernel
theorem dX8_way_52 : decode cX8_way 52 = .ok (.goto (-32), 3) := by decide +kernel
theorem dX8_way_55 : decode cX8_way 55 = .ok (.iconst (-1), 1) := by decide +kernel
theorem dX8_way_56 : decode cX8_way 56 = .ok (.ireturn, 1) := by decide +kernel
set_option maxRecDepth 20000 in
theorem ggX8_goes_X8_way : GoodIn wsX8_goes wsX8_way := goodIn_ca (goodIn_r _ [12, 1, 13, 14, 2, 15, 16, 11, 17, 18, 19, 20, 21, 29, 30, 31, 32, 33, 34, 35, 36, 37, 38, 39, 40, 41, 42, 43, 44, 45, 46, 47, 48, 49, 50, 51, 52, 53, 54, 55, 56, 57, 58, 59, 60, 61] (by decide +kernel) (by decide +kernel)) (goodIn_sub (fun _ h => List.mem_cons_of_mem _ (List.mem_append_right _ h)) (by decide +kernel))
set_option maxRecDepth 20000 in
theorem gX8_goes_X8_way : GoodIn wsX8_goes (wsV RX8 140 RX8 yX8_way wsX8_way) := goodIn_app (goodIn_of _ (by decide +kernel)) ggX8_goes_X8_way
set_option maxRecDepth 20000 in
theorem ggX8_goes_X8_isNumber : GoodIn wsX8_goes wsX8_isNumber := goodIn_r _ [24, 25, 3, 26, 27, 11, 28] (by decide +kernel) (by decide +kernel)
set_option maxRecDepth 20000 in
theorem gX8_goes_X8_isNumber : GoodIn wsX8_goes (va_wsS RX8 150 yX8_isNumber wsX8_isNumber) := goodIn_app (goodIn_of _ (by decide +kernel)) ggX8_goes_X8_isNumber
theorem dX8_goes_0 : decode cX8_goes 0 = .ok (.aload_n 0, 1) := by decide +kernel
theorem dX8_goes_1 : decode cX8_goes 1 = .ok (.lload_n 1, 1) := by decide +kernel
theorem dX8_goes_2 : decode cX8_goes 2 = .ok (.invokevirtual 140, 3) := by decide +kernel
theorem dX8_goes_5 : decode cX8_goes 5 = .ok (.istore_n 3, 1) := by decide +kernel
theorem dX8_goes_6 : decode cX8_goes 6 = .ok (.iload_n 3, 1) := by decide +kernel
theorem dX8_goes_7 : decode cX8_goes 7 = .ok (.ifCond .ge 5, 3) := by decide +kernel
theorem dX8_goes_10 : decode cX8_goes 10 = .ok (.iconst 1, 1) := by decide +kernel
theorem dX8_goes_11 : decode cX8_goes 11 = .ok (.ireturn, 1) := by decide +kernel
theorem dX8_goes_12 : decode cX8_goes 12 = .ok (.aload_n 0, 1) := by decide +kernel
theorem dX8_goes_13 : decode cX8_goes 13 = .ok (.getfield 108, 3) := by decide +kernel
theorem dX8_goes_16 : decode cX8_goes 16 = .ok (.iconst 2, 1) := by decide +kernel
theorem dX8_goes_17 : decode cX8_goes 17 = .ok (.if_icmp .ne 51, 3) := by decide +kernel
theorem dX8_goes_20 : decode cX8_goes 20 = .ok (.lload_n 1, 1) := by decide +kernel
theorem dX8_goes_21 : decode cX8_goes 21 = .ok (.aload_n 0, 1) := by decide +kernel
theorem dX8_goes_22 : decode cX8_goes 22 = .ok (.getfield 26, 3) := by decide +kernel
theorem dX8_goes_25 : decode cX8_goes 25 = .ok (.iload_n 3, 1) := by decide +kernel
theorem dX8_goes_26 : decode cX8_goes 26 = .ok (.laload, 1) := by decide +kernel
theorem dX8_goes_27 : decode cX8_goes 27 = .ok (.ldiv, 1) := by decide +kernel
theorem dX8_goes_28 : decode cX8_goes 28 = .ok (.lstore 4, 2) := by decide +kernel
theorem dX8_goes_30 : decode cX8_goes 30 = .ok (.aload_n 0, 1) := by decide +kernel
theorem dX8_goes_31 : decode cX8_goes 31 = .ok (.lload 4, 2) := by decide +kernel
theorem dX8_goes_33 : decode cX8_goes 33 = .ok (.ldc2_w 66, 3) := by decide +kernel
theorem dX8_goes_36 : decode cX8_goes 36 = .ok (.aload_n 0, 1) := by decide +kernel
theorem dX8_goes_37 : decode cX8_goes 37 = .ok (.getfield 23, 3) := by decide +kernel
theorem dX8_goes_40 : decode cX8_goes 40 = .ok (.iload_n 3, 1) := by decide +kernel
theorem dX8_goes_41 : decode cX8_goes 41 = .ok (.laload, 1) := by decide +kernel
theorem dX8_goes_42 : decode cX8_goes 42 = .ok (.ldiv, 1) := by decide +kernel
theorem dX8_goes_43 : decode cX8_goes 43 = .ok (.lcmp, 1) := by decide +kernel
theorem dX8_goes_44 : decode cX8_goes 44 = .ok (.ifCond .le 9, 3) := by decide +kernel
theorem dX8_goes_47 : decode cX8_goes 47 = .ok (.ldc2_w 144, 3) := by decide +kernel
theorem dX8_goes_50 : decode cX8_goes 50 = .ok (.goto 12, 3) := by decide +kernel
theorem dX8_goes_53 : decode cX8_goes 53 = .ok (.lload 4, 2) := by decide +kernel
theorem dX8_goes_55 : decode cX8_goes 55 = .ok (.aload_n 0, 1) := by decide +kernel
theorem dX8_goes_56 : decode cX8_goes 56 = .ok (.getfield 23, 3) := by decide +kernel
theorem dX8_goes_59 : decode cX8_goes 59 = .ok (.iload_n 3, 1) := by decide +kernel
theorem dX8_goes_60 : decode cX8_goes 60 = .ok (.laload, 1) := by decide +kernel
theorem dX8_goes_61 : decode cX8_goes 61 = .ok (.lmul, 1) := by decide +kernel
theorem dX8_goes_62 : decode cX8_goes 62 = .ok (.putfield 146, 3) := by decide +kernel
theorem dX8_goes_65 : decode cX8_goes 65 = .ok (.goto 39, 3) := by decide +kernel
theorem dX8_goes_68 : decode cX8_goes 68 = .ok (.aload_n 0, 1) := by decide +kernel
theorem dX8_goes_69 : decode cX8_goes 69 = .ok (.aload_n 0, 1) := by decide +kernel
theorem dX8_goes_70 : decode cX8_goes 70 = .ok (.getfield 20, 3) := by decide +kernel
theorem dX8_goes_73 : decode cX8_goes 73 = .ok (.iconst 3, 1) := by decide +kernel
theorem dX8_goes_74 : decode cX8_goes 74 = .ok (.iload_n 3, 1) := by decide +kernel
theorem dX8_goes_75 : decode cX8_goes 75 = .ok (.imul, 1) := by decide +kernel
theorem dX8_goes_76 : decode cX8_goes 76 = .ok (.laload, 1) := by decide +kernel
theorem dX8_goes_77 : decode cX8_goes 77 = .ok (.lload_n 1, 1) := by decide +kernel
theorem dX8_goes_78 : decode cX8_goes 78 = .ok (.lmul, 1) := by decide +kernel
theorem dX8_goes_79 : decode cX8_goes 79 = .ok (.aload_n 0, 1) := by decide +kernel
theorem dX8_goes_80 : decode cX8_goes 80 = .ok (.getfield 20, 3) := by decide +kernel
theorem dX8_goes_83 : decode cX8_goes 83 = .ok (.iconst 3, 1) := by decide +kernel
theorem dX8_goes_84 : decode cX8_goes 84 = .ok (.iload_n 3, 1) := by decide +kernel
theorem dX8_goes_85 : decode cX8_goes 85 = .ok (.imul, 1) := by decide +kernel
theorem dX8_goes_86 : decode cX8_goes 86 = .ok (.iconst 1, 1) := by decide +kernel
theorem dX8_goes_87 : decode cX8_goes 87 = .ok (.iadd, 1) := by decide +kernel
theorem dX8_goes_88 : decode cX8_goes 88 = .ok (.laload, 1) := by decide +kernel
theorem dX8_goes_89 : decode cX8_goes 89 = .ok (.ladd, 1) := by decide +kernel
theorem dX8_goes_90 : decode cX8_goes 90 = .ok (.aload_n 0, 1) := by decide +kernel
theorem dX8_goes_91 : decode cX8_goes 91 = .ok (.getfield 20, 3) := by decide +kernel
theorem dX8_goes_94 : decode cX8_goes 94 = .ok (.iconst 3, 1) := by decide +kernel
theorem dX8_goes_95 : decode cX8_goes 95 = .ok (.iload_n 3, 1) := by decide +kernel
theorem dX8_goes_96 : decode cX8_goes 96 = .ok (.imul, 1) := by decide +kernel
theorem dX8_goes_97 : decode cX8_goes 97 = .ok (.iconst 2, 1) := by decide +kernel
theorem dX8_goes_98 : decode cX8_goes 98 = .ok (.iadd, 1) := by decide +kernel
theorem dX8_goes_99 : decode cX8_goes 99 = .ok (.laload, 1) := by decide +kernel
theorem dX8_goes_100 : decode cX8_goes 100 = .ok (.ldiv, 1) := by decide +kernel
theorem dX8_goes_101 : decode cX8_goes 101 = .ok (.putfield 146, 3) := by decide +kernel
theorem dX8_goes_104 : decode cX8_goes 104 = .ok (.aload_n 0, 1) := by decide +kernel
theorem dX8_goes_105 : decode cX8_goes 105 = .ok (.getfield 146, 3) := by decide +kernel
theorem dX8_goes_108 : decode cX8_goes 108 = .ok (.invokestatic 150, 3) := by decide +kernel
theorem dX8_goes_111 : decode cX8_goes 111 = .ok (.ifCond .eq 7, 3) := by decide +kernel
theorem dX8_goes_114 : decode cX8_goes 114 = .ok (.iconst 0, 1) := by decide +kernel
theorem dX8_goes_115 : decode cX8_goes 115 = .ok (.goto 4, 3) := by decide +kernel
theorem dX8_goes_118 : decode cX8_goes 118 = .ok (.iconst 2, 1) := by decide +kernel
theorem dX8_goes_119 : decode cX8_goes 119 = .ok (.ireturn, 1) := by decide +kernel
set_option maxRecDepth 20000 in
theorem ggX8_step_X8_refuse : GoodIn wsX8_step wsX8_refuse := goodIn_r _ [8, 1, 38, 39, 40, 41, 42, 43, 44, 45, 46, 47, 48, 49, 50, 51, 52, 53, 54, 55, 56, 57, 58, 59, 60, 61, 62, 63, 64, 65, 66, 67, 68, 69, 70] (by decide +kernel) (by decide +kernel)
set_option maxRecDepth 20000 in
theorem gX8_step_X8_refuse : GoodIn wsX8_step (wsV RX8 98 RX8 yX8_refuse wsX8_refuse) := goodIn_app (goodIn_of _ (by decide +kernel)) ggX8_step_X8_refuse
set_option maxRecDepth 20000 in
theorem ggX8_step_X8_isNumber : GoodIn wsX8_step wsX8_isNumber := goodIn_r _ [11, 12, 13, 14, 15, 7, 16] (by decide +kernel) (by decide +kernel)
set_option maxRecDepth 20000 in
theorem gX8_step_X8_isNumber : GoodIn wsX8_step (va_wsS RX8 150 yX8_isNumber wsX8_isNumber) := goodIn_app (goodIn_of _ (by decide +kernel)) ggX8_step_X8_isNumber
set_option maxRecDepth 20000 in
theorem ggX8_step_X8_goes : GoodIn wsX8_step wsX8_goes := goodIn_ca (goodIn_r _ [20, 2, 21, 13, 22, 23, 3, 24, 25, 26, 27, 7, 28, 29, 30, 31, 32, 33, 34, 35, 36, 37, 9, 10, 11, 12, 14, 15, 16, 38, 39, 40, 41, 42, 43, 44, 45, 46, 47, 48, 49, 50, 51, 52, 53, 54, 55, 56, 57, 58, 59, 60, 61, 62, 63, 64, 65, 66, 67, 68, 69, 70] (by decide +kernel) (by decide +kernel)) (goodIn_sub (fun _ h => List.mem_cons_of_mem _ (List.mem_append_right _ h)) (by decide +kernel))
set_option maxRecDepth 20000 in
theorem gX8_step_X8_goes : GoodIn wsX8_step (wsV RX8 154 RX8 yX8_goes wsX8_goes) := goodIn_app (goodIn_of _ (by decide +kernel)) ggX8_step_X8_goes
theorem dX8_step_0 : decode cX8_step 0 = .ok (.aload_n 0, 1) := by decide +kernel
theorem dX8_step_1 : decode cX8_step 1 = .ok (.iconst 0, 1) := by decide +kernel
theorem dX8_step_2 : decode cX8_step 2 = .ok (.putfield 61, 3) := by decide +kernel
theorem dX8_step_5 : decode cX8_step 5 = .ok (.aload_n 0, 1) := by decide +kernel
theorem dX8_step_6 : decode cX8_step 6 = .ok (.getfield 108, 3) := by decide +kernel
theorem dX8_step_9 : decode cX8_step 9 = .ok (.ifCond .ne 9, 3) := by decide +kernel
theorem dX8_step_12 : decode cX8_step 12 = .ok (.aload_n 0, 1) := by decide +kernel
theorem dX8_step_13 : decode cX8_step 13 = .ok (.iconst 1, 1) := by decide +kernel
theorem dX8_step_14 : decode cX8_step 14 = .ok (.invokevirtual 98, 3) := by decide +kernel
theorem dX8_step_17 : decode cX8_step 17 = .ok (.lreturn, 1) := by decide +kernel
theorem dX8_step_18 : decode cX8_step 18 = .ok (.lload_n 1, 1) := by decide +kernel
theorem dX8_step_19 : decode cX8_step 19 = .ok (.invokestatic 150, 3) := by decide +kernel
theorem dX8_step_22 : decode cX8_step 22 = .ok (.ifCond .eq 11, 3) := by decide +kernel
theorem dX8_step_25 : decode cX8_step 25 = .ok (.aload_n 0, 1) := by decide +kernel
theorem dX8_step_26 : decode cX8_step 26 = .ok (.lload_n 1, 1) := by decide +kernel
theorem dX8_step_27 : decode cX8_step 27 = .ok (.invokevirtual 154, 3) := by decide +kernel
theorem dX8_step_30 : decode cX8_step 30 = .ok (.goto 4, 3) := by decide +kernel
theorem dX8_step_33 : decode cX8_step 33 = .ok (.iconst 2, 1) := by decide +kernel
theorem dX8_step_34 : decode cX8_step 34 = .ok (.istore_n 3, 1) := by decide +kernel
theorem dX8_step_35 : decode cX8_step 35 = .ok (.iload_n 3, 1) := by decide +kernel
theorem dX8_step_36 : decode cX8_step 36 = .ok (.ifCond .ne 10, 3) := by decide +kernel
theorem dX8_step_39 : decode cX8_step 39 = .ok (.aload_n 0, 1) := by decide +kernel
theorem dX8_step_40 : decode cX8_step 40 = .ok (.getfield 146, 3) := by decide +kernel
theorem dX8_step_43 : decode cX8_step 43 = .ok (.goto 17, 3) := by decide +kernel
theorem dX8_step_46 : decode cX8_step 46 = .ok (.aload_n 0, 1) := by decide +kernel
theorem dX8_step_47 : decode cX8_step 47 = .ok (.iload_n 3, 1) := by decide +kernel
theorem dX8_step_48 : decode cX8_step 48 = .ok (.iconst 1, 1) := by decide +kernel
theorem dX8_step_49 : decode cX8_step 49 = .ok (.if_icmp .ne 7, 3) := by decide +kernel
theorem dX8_step_52 : decode cX8_step 52 = .ok (.iconst 2, 1) := by decide +kernel
theorem dX8_step_53 : decode cX8_step 53 = .ok (.goto 4, 3) := by decide +kernel
theorem dX8_step_56 : decode cX8_step 56 = .ok (.iconst 3, 1) := by decide +kernel
theorem dX8_step_57 : decode cX8_step 57 = .ok (.invokevirtual 98, 3) := by decide +kernel
theorem dX8_step_60 : decode cX8_step 60 = .ok (.lreturn, 1) := by decide +kernel
set_option maxRecDepth 20000 in
theorem ggX8_run_X8_in : GoodIn wsX8_run wsX8_in := goodIn_r _ [8] (by decide +kernel) (by decide +kernel)
set_option maxRecDepth 20000 in
theorem gX8_run_X8_in : GoodIn wsX8_run (va_wsS RX8 68 yX8_in wsX8_in) := goodIn_app (goodIn_of _ (by decide +kernel)) ggX8_run_X8_in
set_option maxRecDepth 20000 in
theorem ggX8_run_X8_refuse : GoodIn wsX8_run wsX8_refuse := goodIn_r _ [12, 1, 39, 40, 41, 42, 43, 44, 45, 46, 47, 48, 49, 50, 51, 52, 53, 54, 55, 56, 57, 58, 59, 60, 61, 62, 63, 64, 65, 66, 67, 68, 69, 70, 71] (by decide +kernel) (by decide +kernel)
set_option maxRecDepth 20000 in
theorem gX8_run_X8_refuse : GoodIn wsX8_run (wsV RX8 98 RX8 yX8_refuse wsX8_refuse) := goodIn_app (goodIn_of _ (by decide +kernel)) ggX8_run_X8_refuse
set_option maxRecDepth 20000 in
theorem ggX8_run_X8_isNumber : GoodIn wsX8_run wsX8_isNumber := goodIn_r _ [15, 16, 17, 5, 6, 7, 8] (by decide +kernel) (by decide +kernel)
set_option maxRecDepth 20000 in
theorem gX8_run_X8_isNumber : GoodIn wsX8_run (va_wsS RX8 150 yX8_isNumber wsX8_isNumber) := goodIn_app (goodIn_of _ (by decide +kernel)) ggX8_run_X8_isNumber
set_option maxRecDepth 20000 in
theorem ggX8_run_X8_goes : GoodIn wsX8_run wsX8_goes := goodIn_ca (goodIn_r _ [21, 3, 22, 17, 23, 24, 4, 25, 26, 27, 28, 7, 29, 30, 31, 32, 33, 34, 35, 36, 37, 38, 13, 14, 15, 16, 5, 6, 8, 39, 40, 41, 42, 43, 44, 45, 46, 47, 48, 49, 50, 51, 52, 53, 54, 55, 56, 57, 58, 59, 60, 61, 62, 63, 64, 65, 66, 67, 68, 69, 70, 71] (by decide +kernel) (by decide +kernel)) (goodIn_sub (fun _ h => List.mem_cons_of_mem _ (List.mem_append_right _ h)) (by decide +kernel))
set_option maxRecDepth 20000 in
theorem gX8_run_X8_goes : GoodIn wsX8_run (wsV RX8 154 RX8 yX8_goes wsX8_goes) := goodIn_app (goodIn_of _ (by decide +kernel)) ggX8_run_X8_goes
theorem dX8_run_0 : decode cX8_run 0 = .ok (.aload_n 0, 1) := by decide +kernel
theorem dX8_run_1 : decode cX8_run 1 = .ok (.iconst 0, 1) := by decide +kernel
theorem dX8_run_2 : decode cX8_run 2 = .ok (.putfield 61, 3) := by decide +kernel
theorem dX8_run_5 : decode cX8_run 5 = .ok (.iload_n 3, 1) := by decide +kernel
theorem dX8_run_6 : decode cX8_run 6 = .ok (.i2l, 1) := by decide +kernel
theorem dX8_run_7 : decode cX8_run 7 = .ok (.lconst 0, 1) := by decide +kernel
theorem dX8_run_8 : decode cX8_run 8 = .ok (.ldc2_w 157, 3) := by decide +kernel
theorem dX8_run_11 : decode cX8_run 11 = .ok (.invokestatic 68, 3) := by decide +kernel
theorem dX8_run_14 : decode cX8_run 14 = .ok (.ifCond .ne 9, 3) := by decide +kernel
theorem dX8_run_17 : decode cX8_run 17 = .ok (.aload_n 0, 1) := by decide +kernel
theorem dX8_run_18 : decode cX8_run 18 = .ok (.iconst 1, 1) := by decide +kernel
theorem dX8_run_19 : decode cX8_run 19 = .ok (.invokevirtual 98, 3) := by decide +kernel
theorem dX8_run_22 : decode cX8_run 22 = .ok (.lreturn, 1) := by decide +kernel
theorem dX8_run_23 : decode cX8_run 23 = .ok (.aload_n 0, 1) := by decide +kernel
theorem dX8_run_24 : decode cX8_run 24 = .ok (.getfield 108, 3) := by decide +kernel
theorem dX8_run_27 : decode cX8_run 27 = .ok (.ifCond .ne 9, 3) := by decide +kernel
theorem dX8_run_30 : decode cX8_run 30 = .ok (.aload_n 0, 1) := by decide +kernel
theorem dX8_run_31 : decode cX8_run 31 = .ok (.iconst 2, 1) := by decide +kernel
theorem dX8_run_32 : decode cX8_run 32 = .ok (.invokevirtual 98, 3) := by decide +kernel
theorem dX8_run_35 : decode cX8_run 35 = .ok (.lreturn, 1) := by decide +kernel
theorem dX8_run_36 : decode cX8_run 36 = .ok (.lload_n 1, 1) := by decide +kernel
theorem dX8_run_37 : decode cX8_run 37 = .ok (.invokestatic 150, 3) := by decide +kernel
theorem dX8_run_40 : decode cX8_run 40 = .ok (.ifCond .ne 9, 3) := by decide +kernel
theorem dX8_run_43 : decode cX8_run 43 = .ok (.aload_n 0, 1) := by decide +kernel
theorem dX8_run_44 : decode cX8_run 44 = .ok (.iconst 4, 1) := by decide +kernel
theorem dX8_run_45 : decode cX8_run 45 = .ok (.invokevirtual 98, 3) := by decide +kernel
theorem dX8_run_48 : decode cX8_run 48 = .ok (.lreturn, 1) := by decide +kernel
theorem dX8_run_49 : decode cX8_run 49 = .ok (.aload_n 0, 1) := by decide +kernel
theorem dX8_run_50 : decode cX8_run 50 = .ok (.lload_n 1, 1) := by decide +kernel
theorem dX8_run_51 : decode cX8_run 51 = .ok (.putfield 146, 3) := by decide +kernel
theorem dX8_run_54 : decode cX8_run 54 = .ok (.iconst 0, 1) := by decide +kernel
theorem dX8_run_55 : decode cX8_run 55 = .ok (.istore 4, 2) := by decide +kernel
theorem dX8_run_57 : decode cX8_run 57 = .ok (.iload 4, 2) := by decide +kernel
theorem dX8_run_59 : decode cX8_run 59 = .ok (.iload_n 3, 1) := by decide +kernel
theorem dX8_run_60 : decode cX8_run 60 = .ok (.if_icmp .ge 40, 3) := by decide +kernel
theorem dX8_run_63 : decode cX8_run 63 = .ok (.aload_n 0, 1) := by decide +kernel
theorem dX8_run_64 : decode cX8_run 64 = .ok (.aload_n 0, 1) := by decide +kernel
theorem dX8_run_65 : decode cX8_run 65 = .ok (.getfield 146, 3) := by decide +kernel
theorem dX8_run_68 : decode cX8_run 68 = .ok (.invokevirtual 154, 3) := by decide +kernel
theorem dX8_run_71 : decode cX8_run 71 = .ok (.istore 5, 2) := by decide +kernel
theorem dX8_run_73 : decode cX8_run 73 = .ok (.iload 5, 2) := by decide +kernel
theorem dX8_run_75 : decode cX8_run 75 = .ok (.ifCond .eq 19, 3) := by decide +kernel
theorem dX8_run_78 : decode cX8_run 78 = .ok (.aload_n 0, 1) := by decide +kernel
theorem dX8_run_79 : decode cX8_run 79 = .ok (.iload 5, 2) := by decide +kernel
theorem dX8_run_81 : decode cX8_run 81 = .ok (.iconst 1, 1) := by decide +kernel
theorem dX8_run_82 : decode cX8_run 82 = .ok (.if_icmp .ne 7, 3) := by decide +kernel
theorem dX8_run_85 : decode cX8_run 85 = .ok (.iconst 3, 1) := by decide +kernel
theorem dX8_run_86 : decode cX8_run 86 = .ok (.goto 4, 3) := by decide +kernel
theorem dX8_run_89 : decode cX8_run 89 = .ok (.iconst 4, 1) := by decide +kernel
theorem dX8_run_90 : decode cX8_run 90 = .ok (.invokevirtual 98, 3) := by decide +kernel
theorem dX8_run_93 : decode cX8_run 93 = .ok (.lreturn, 1) := by decide +kernel
theorem dX8_run_94 : decode cX8_run 94 = .ok (.iinc 4 1, 3) := by decide +kernel
theorem dX8_run_97 : decode cX8_run 97 = .ok (.goto (-40), 3) := by decide +kernel
theorem dX8_run_100 : decode cX8_run 100 = .ok (.aload_n 0, 1) := by decide +kernel
theorem dX8_run_101 : decode cX8_run 101 = .ok (.getfield 146, 3) := by decide +kernel
theorem dX8_run_104 : decode cX8_run 104 = .ok (.lreturn, 1) := by decide +kernel
set_option maxRecDepth 20000 in
theorem ggX8_until_X8_in : GoodIn wsX8_until wsX8_in := goodIn_r _ [8] (by decide +kernel) (by decide +kernel)
set_option maxRecDepth 20000 in
theorem gX8_until_X8_in : GoodIn wsX8_until (va_wsS RX8 68 yX8_in wsX8_in) := goodIn_app (goodIn_of _ (by decide +kernel)) ggX8_until_X8_in
set_option maxRecDepth 20000 in
theorem ggX8_until_X8_isNumber : GoodIn wsX8_until wsX8_isNumber := goodIn_r _ [11, 12, 13, 5, 6, 7, 8] (by decide +kernel) (by decide +kernel)
set_option maxRecDepth 20000 in
theorem gX8_until_X8_isNumber : GoodIn wsX8_until (va_wsS RX8 150 yX8_isNumber wsX8_isNumber) := goodIn_app (goodIn_of _ (by decide +kernel)) ggX8_until_X8_isNumber
set_option maxRecDepth 20000 in
theorem ggX8_until_X8_goes : GoodIn wsX8_until wsX8_goes := goodIn_ca (goodIn_r _ [17, 2, 18, 13, 19, 20, 4, 21, 22, 23, 24, 7, 25, 26, 27, 28, 29, 30, 31, 32, 33, 34, 9, 10, 11, 12, 5, 6, 8, 35, 36, 37, 38, 39, 40, 41, 42, 43, 44, 45, 46, 47, 48, 49, 50, 51, 52, 53, 54, 55, 56, 57, 58, 59, 60, 61, 62, 63, 64, 65, 66, 67] (by decide +kernel) (by decide +kernel)) (goodIn_sub (fun _ h => List.mem_cons_of_mem _ (List.mem_append_right _ h)) (by decide +kernel))
set_option maxRecDepth 20000 in
theorem gX8_until_X8_goes : GoodIn wsX8_until (wsV RX8 154 RX8 yX8_goes wsX8_goes) := goodIn_app (goodIn_of _ (by decide +kernel)) ggX8_until_X8_goes
theorem dX8_until_0 : decode cX8_until 0 = .ok (.aload_n 0, 1) := by decide +kernel
theorem dX8_until_1 : decode cX8_until 1 = .ok (.iconst 0, 1) := by decide +kernel
theorem dX8_until_2 : decode cX8_until 2 = .ok (.putfield 61, 3) := by decide +kernel
theorem dX8_until_5 : decode cX8_until 5 = .ok (.aload_n 0, 1) := by decide +kernel
theorem dX8_until_6 : decode cX8_until 6 = .ok (.getfield 108, 3) := by decide +kernel
theorem dX8_until_9 : decode cX8_until 9 = .ok (.ifCond .eq 30, 3) := by decide +kernel
theorem dX8_until_12 : decode cX8_until 12 = .ok (.iload 5, 2) := by decide +kernel
theorem dX8_until_14 : decode cX8_until 14 = .ok (.i2l, 1) := by decide +kernel
theorem dX8_until_15 : decode cX8_until 15 = .ok (.lconst 0, 1) := by decide +kernel
theorem dX8_until_16 : decode cX8_until 16 = .ok (.ldc2_w 157, 3) := by decide +kernel
theorem dX8_until_19 : decode cX8_until 19 = .ok (.invokestatic 68, 3) := by decide +kernel
theorem dX8_until_22 : decode cX8_until 22 = .ok (.ifCond .eq 17, 3) := by decide +kernel
theorem dX8_until_25 : decode cX8_until 25 = .ok (.lload_n 1, 1) := by decide +kernel
theorem dX8_until_26 : decode cX8_until 26 = .ok (.invokestatic 150, 3) := by decide +kernel
theorem dX8_until_29 : decode cX8_until 29 = .ok (.ifCond .eq 10, 3) := by decide +kernel
theorem dX8_until_32 : decode cX8_until 32 = .ok (.lload_n 3, 1) := by decide +kernel
theorem dX8_until_33 : decode cX8_until 33 = .ok (.invokestatic 150, 3) := by decide +kernel
theorem dX8_until_36 : decode cX8_until 36 = .ok (.ifCond .ne 5, 3) := by decide +kernel
theorem dX8_until_39 : decode cX8_until 39 = .ok (.iconst (-1), 1) := by decide +kernel
theorem dX8_until_40 : decode cX8_until 40 = .ok (.ireturn, 1) := by decide +kernel
theorem dX8_until_41 : decode cX8_until 41 = .ok (.aload_n 0, 1) := by decide +kernel
theorem dX8_until_42 : decode cX8_until 42 = .ok (.lload_n 1, 1) := by decide +kernel
theorem dX8_until_43 : decode cX8_until 43 = .ok (.putfield 146, 3) := by decide +kernel
theorem dX8_until_46 : decode cX8_until 46 = .ok (.iconst 0, 1) := by decide +kernel
theorem dX8_until_47 : decode cX8_until 47 = .ok (.istore 6, 2) := by decide +kernel
theorem dX8_until_49 : decode cX8_until 49 = .ok (.iload 6, 2) := by decide +kernel
theorem dX8_until_51 : decode cX8_until 51 = .ok (.iload 5, 2) := by decide +kernel
theorem dX8_until_53 : decode cX8_until 53 = .ok (.if_icmp .gt 41, 3) := by decide +kernel
theorem dX8_until_56 : decode cX8_until 56 = .ok (.aload_n 0, 1) := by decide +kernel
theorem dX8_until_57 : decode cX8_until 57 = .ok (.getfield 146, 3) := by decide +kernel
theorem dX8_until_60 : decode cX8_until 60 = .ok (.lload_n 3, 1) := by decide +kernel
theorem dX8_until_61 : decode cX8_until 61 = .ok (.lcmp, 1) := by decide +kernel
theorem dX8_until_62 : decode cX8_until 62 = .ok (.ifCond .ne 6, 3) := by decide +kernel
theorem dX8_until_65 : decode cX8_until 65 = .ok (.iload 6, 2) := by decide +kernel
theorem dX8_until_67 : decode cX8_until 67 = .ok (.ireturn, 1) := by decide +kernel
theorem dX8_until_68 : decode cX8_until 68 = .ok (.iload 6, 2) := by decide +kernel
theorem dX8_until_70 : decode cX8_until 70 = .ok (.iload 5, 2) := by decide +kernel
theorem dX8_until_72 : decode cX8_until 72 = .ok (.if_icmp .ge 16, 3) := by decide +kernel
theorem dX8_until_75 : decode cX8_until 75 = .ok (.aload_n 0, 1) := by decide +kernel
theorem dX8_until_76 : decode cX8_until 76 = .ok (.aload_n 0, 1) := by decide +kernel
theorem dX8_until_77 : decode cX8_until 77 = .ok (.getfield 146, 3) := by decide +kernel
theorem dX8_until_80 : decode cX8_until 80 = .ok (.invokevirtual 154, 3) := by decide +kernel
theorem dX8_until_83 : decode cX8_until 83 = .ok (.ifCond .eq 5, 3) := by decide +kernel
theorem dX8_until_86 : decode cX8_until 86 = .ok (.iconst (-1), 1) := by decide +kernel
theorem dX8_until_87 : decode cX8_until 87 = .ok (.ireturn, 1) := by decide +kernel
theorem dX8_until_88 : decode cX8_until 88 = .ok (.iinc 6 1, 3) := by decide +kernel
theorem dX8_until_91 : decode cX8_until 91 = .ok (.goto (-42), 3) := by decide +kernel
theorem dX8_until_94 : decode cX8_until 94 = .ok (.bipush (-2), 2) := by decide +kernel
theorem dX8_until_96 : decode cX8_until 96 = .ok (.ireturn, 1) := by decide +kernel
set_option maxRecDepth 20000 in
theorem ggX8_height_X8_in : GoodIn wsX8_height wsX8_in := goodIn_r _ [8] (by decide +kernel) (by decide +kernel)
set_option maxRecDepth 20000 in
theorem gX8_height_X8_in : GoodIn wsX8_height (va_wsS RX8 68 yX8_in wsX8_in) := goodIn_app (goodIn_of _ (by decide +kernel)) ggX8_height_X8_in
set_option maxRecDepth 20000 in
theorem ggX8_height_X8_isNumber : GoodIn wsX8_height wsX8_isNumber := goodIn_r _ [11, 12, 13, 5, 6, 7, 8] (by decide +kernel) (by decide +kernel)
set_option maxRecDepth 20000 in
theorem gX8_height_X8_isNumber : GoodIn wsX8_height (va_wsS RX8 150 yX8_isNumber wsX8_isNumber) := goodIn_app (goodIn_of _ (by decide +kernel)) ggX8_height_X8_isNumber
set_option maxRecDepth 20000 in
theorem ggX8_height_X8_goes : GoodIn wsX8_height wsX8_goes := goodIn_ca (goodIn_r _ [17, 2, 18, 13, 19, 20, 4, 21, 22, 23, 24, 7, 25, 26, 27, 28, 29, 30, 31, 32, 33, 34, 9, 10, 11, 12, 5, 6, 8, 35, 36, 37, 38, 39, 40, 41, 42, 43, 44, 45, 46, 47, 48, 49, 50, 51, 52, 53, 54, 55, 56, 57, 58, 59, 60, 61, 62, 63, 64, 65, 66, 67] (by decide +kernel) (by decide +kernel)) (goodIn_sub (fun _ h => List.mem_cons_of_mem _ (List.mem_append_right _ h)) (by decide +kernel))
set_option maxRecDepth 20000 in
theorem gX8_height_X8_goes : GoodIn wsX8_height (wsV RX8 154 RX8 yX8_goes wsX8_goes) := goodIn_app (goodIn_of _ (by decide +kernel)) ggX8_height_X8_goes
theorem dX8_height_0 : decode cX8_height 0 = .ok (.aload_n 0, 1) := by decide +kernel
theorem dX8_height_1 : decode cX8_height 1 = .ok (.iconst 0, 1) := by decide +kernel
theorem dX8_height_2 : decode cX8_height 2 = .ok (.putfield 61, 3) := by decide +kernel
theorem dX8_height_5 : decode cX8_height 5 = .ok (.aload_n 0, 1) := by decide +kernel
theorem dX8_height_6 : decode cX8_height 6 = .ok (.getfield 108, 3) := by decide +kernel
theorem dX8_height_9 : decode cX8_height 9 = .ok (.ifCond .eq 22, 3) := by decide +kernel
theorem dX8_height_12 : decode cX8_height 12 = .ok (.iload_n 3, 1) := by decide +kernel
theorem dX8_height_13 : decode cX8_height 13 = .ok (.i2l, 1) := by decide +kernel
theorem dX8_height_14 : decode cX8_height 14 = .ok (.lconst 0, 1) := by decide +kernel
theorem dX8_height_15 : decode cX8_height 15 = .ok (.ldc2_w 157, 3) := by decide +kernel
theorem dX8_height_18 : decode cX8_height 18 = .ok (.invokestatic 68, 3) := by decide +kernel
theorem dX8_height_21 : decode cX8_height 21 = .ok (.ifCond .eq 10, 3) := by decide +kernel
theorem dX8_height_24 : decode cX8_height 24 = .ok (.lload_n 1, 1) := by decide +kernel
theorem dX8_height_25 : decode cX8_height 25 = .ok (.invokestatic 150, 3) := by decide +kernel
theorem dX8_height_28 : decode cX8_height 28 = .ok (.ifCond .ne 5, 3) := by decide +kernel
theorem dX8_height_31 : decode cX8_height 31 = .ok (.iconst (-1), 1) := by decide +kernel
theorem dX8_height_32 : decode cX8_height 32 = .ok (.ireturn, 1) := by decide +kernel
theorem dX8_height_33 : decode cX8_height 33 = .ok (.aload_n 0, 1) := by decide +kernel
theorem dX8_height_34 : decode cX8_height 34 = .ok (.lload_n 1, 1) := by decide +kernel
theorem dX8_height_35 : decode cX8_height 35 = .ok (.putfield 146, 3) := by decide +kernel
theorem dX8_height_38 : decode cX8_height 38 = .ok (.iconst 0, 1) := by decide +kernel
theorem dX8_height_39 : decode cX8_height 39 = .ok (.istore 4, 2) := by decide +kernel
theorem dX8_height_41 : decode cX8_height 41 = .ok (.iload 4, 2) := by decide +kernel
theorem dX8_height_43 : decode cX8_height 43 = .ok (.iload_n 3, 1) := by decide +kernel
theorem dX8_height_44 : decode cX8_height 44 = .ok (.if_icmp .gt 40, 3) := by decide +kernel
theorem dX8_height_47 : decode cX8_height 47 = .ok (.aload_n 0, 1) := by decide +kernel
theorem dX8_height_48 : decode cX8_height 48 = .ok (.getfield 146, 3) := by decide +kernel
theorem dX8_height_51 : decode cX8_height 51 = .ok (.lload_n 1, 1) := by decide +kernel
theorem dX8_height_52 : decode cX8_height 52 = .ok (.lcmp, 1) := by decide +kernel
theorem dX8_height_53 : decode cX8_height 53 = .ok (.ifCond .ge 6, 3) := by decide +kernel
theorem dX8_height_56 : decode cX8_height 56 = .ok (.iload 4, 2) := by decide +kernel
theorem dX8_height_58 : decode cX8_height 58 = .ok (.ireturn, 1) := by decide +kernel
theorem dX8_height_59 : decode cX8_height 59 = .ok (.iload 4, 2) := by decide +kernel
theorem dX8_height_61 : decode cX8_height 61 = .ok (.iload_n 3, 1) := by decide +kernel
theorem dX8_height_62 : decode cX8_height 62 = .ok (.if_icmp .ge 16, 3) := by decide +kernel
theorem dX8_height_65 : decode cX8_height 65 = .ok (.aload_n 0, 1) := by decide +kernel
theorem dX8_height_66 : decode cX8_height 66 = .ok (.aload_n 0, 1) := by decide +kernel
theorem dX8_height_67 : decode cX8_height 67 = .ok (.getfield 146, 3) := by decide +kernel
theorem dX8_height_70 : decode cX8_height 70 = .ok (.invokevirtual 154, 3) := by decide +kernel
theorem dX8_height_73 : decode cX8_height 73 = .ok (.ifCond .eq 5, 3) := by decide +kernel
theorem dX8_height_76 : decode cX8_height 76 = .ok (.iconst (-1), 1) := by decide +kernel
theorem dX8_height_77 : decode cX8_height 77 = .ok (.ireturn, 1) := by decide +kernel
theorem dX8_height_78 : decode cX8_height 78 = .ok (.iinc 4 1, 3) := by decide +kernel
theorem dX8_height_81 : decode cX8_height 81 = .ok (.goto (-40), 3) := by decide +kernel
theorem dX8_height_84 : decode cX8_height 84 = .ok (.bipush (-2), 2) := by decide +kernel
theorem dX8_height_86 : decode cX8_height 86 = .ok (.ireturn, 1) := by decide +kernel
set_option maxRecDepth 20000 in
theorem ggX8_peak_X8_in : GoodIn wsX8_peak wsX8_in := goodIn_r _ [12] (by decide +kernel) (by decide +kernel)
set_option maxRecDepth 20000 in
theorem gX8_peak_X8_in : GoodIn wsX8_peak (va_wsS RX8 68 yX8_in wsX8_in) := goodIn_app (goodIn_of _ (by decide +kernel)) ggX8_peak_X8_in
set_option maxRecDepth 20000 in
theorem ggX8_peak_X8_refuse : GoodIn wsX8_peak wsX8_refuse := goodIn_r _ [16, 1, 43, 44, 45, 46, 47, 48, 49, 50, 51, 52, 53, 54, 55, 56, 57, 58, 59, 60, 61, 62, 63, 64, 65, 66, 67, 68, 69, 70, 71, 72, 73, 74, 75] (by decide +kernel) (by decide +kernel)
set_option maxRecDepth 20000 in
theorem gX8_peak_X8_refuse : GoodIn wsX8_peak (wsV RX8 98 RX8 yX8_refuse wsX8_refuse) := goodIn_app (goodIn_of _ (by decide +kernel)) ggX8_peak_X8_refuse
set_option maxRecDepth 20000 in
theorem ggX8_peak_X8_isNumber : GoodIn wsX8_peak wsX8_isNumber := goodIn_r _ [19, 20, 21, 9, 10, 11, 12] (by decide +kernel) (by decide +kernel)
set_option maxRecDepth 20000 in
theorem gX8_peak_X8_isNumber : GoodIn wsX8_peak (va_wsS RX8 150 yX8_isNumber wsX8_isNumber) := goodIn_app (goodIn_of _ (by decide +kernel)) ggX8_peak_X8_isNumber
set_option maxRecDepth 20000 in
theorem ggX8_peak_X8_goes : GoodIn wsX8_peak wsX8_goes := goodIn_ca (goodIn_r _ [25, 3, 26, 21, 27, 28, 4, 29, 30, 31, 32, 11, 33, 34, 35, 36, 37, 38, 39, 40, 41, 42, 17, 18, 19, 20, 9, 10, 12, 43, 44, 45, 46, 47, 48, 49, 50, 51, 52, 53, 54, 55, 56, 57, 58, 59, 60, 61, 62, 63, 64, 65, 66, 67, 68, 69, 70, 71, 72, 73, 74, 75] (by decide +kernel) (by decide +kernel)) (goodIn_sub (fun _ h => List.mem_cons_of_mem _ (List.mem_append_right _ h)) (by decide +kernel))
set_option maxRecDepth 20000 in
theorem gX8_peak_X8_goes : GoodIn wsX8_peak (wsV RX8 154 RX8 yX8_goes wsX8_goes) := goodIn_app (goodIn_of _ (by decide +kernel)) ggX8_peak_X8_goes
theorem dX8_peak_0 : decode cX8_peak 0 = .ok (.aload_n 0, 1) := by decide +kernel
theorem dX8_peak_1 : decode cX8_peak 1 = .ok (.iconst 0, 1) := by decide +kernel
theorem dX8_peak_2 : decode cX8_peak 2 = .ok (.putfield 61, 3) := by decide +kernel
theorem dX8_peak_5 : decode cX8_peak 5 = .ok (.iload_n 3, 1) := by decide +kernel
theorem dX8_peak_6 : decode cX8_peak 6 = .ok (.i2l, 1) := by decide +kernel
theorem dX8_peak_7 : decode cX8_peak 7 = .ok (.lconst 0, 1) := by decide +kernel
theorem dX8_peak_8 : decode cX8_peak 8 = .ok (.ldc2_w 157, 3) := by decide +kernel
theorem dX8_peak_11 : decode cX8_peak 11 = .ok (.invokestatic 68, 3) := by decide +kernel
theorem dX8_peak_14 : decode cX8_peak 14 = .ok (.ifCond .ne 9, 3) := by decide +kernel
theorem dX8_peak_17 : decode cX8_peak 17 = .ok (.aload_n 0, 1) := by decide +kernel
theorem dX8_peak_18 : decode cX8_peak 18 = .ok (.iconst 1, 1) := by decide +kernel
theorem dX8_peak_19 : decode cX8_peak 19 = .ok (.invokevirtual 98, 3) := by decide +kernel
theorem dX8_peak_22 : decode cX8_peak 22 = .ok (.lreturn, 1) := by decide +kernel
theorem dX8_peak_23 : decode cX8_peak 23 = .ok (.aload_n 0, 1) := by decide +kernel
theorem dX8_peak_24 : decode cX8_peak 24 = .ok (.getfield 108, 3) := by decide +kernel
theorem dX8_peak_27 : decode cX8_peak 27 = .ok (.ifCond .ne 9, 3) := by decide +kernel
theorem dX8_peak_30 : decode cX8_peak 30 = .ok (.aload_n 0, 1) := by decide +kernel
theorem dX8_peak_31 : decode cX8_peak 31 = .ok (.iconst 2, 1) := by decide +kernel
theorem dX8_peak_32 : decode cX8_peak 32 = .ok (.invokevirtual 98, 3) := by decide +kernel
theorem dX8_peak_35 : decode cX8_peak 35 = .ok (.lreturn, 1) := by decide +kernel
theorem dX8_peak_36 : decode cX8_peak 36 = .ok (.lload_n 1, 1) := by decide +kernel
theorem dX8_peak_37 : decode cX8_peak 37 = .ok (.invokestatic 150, 3) := by decide +kernel
theorem dX8_peak_40 : decode cX8_peak 40 = .ok (.ifCond .ne 9, 3) := by decide +kernel
theorem dX8_peak_43 : decode cX8_peak 43 = .ok (.aload_n 0, 1) := by decide +kernel
theorem dX8_peak_44 : decode cX8_peak 44 = .ok (.iconst 3, 1) := by decide +kernel
theorem dX8_peak_45 : decode cX8_peak 45 = .ok (.invokevirtual 98, 3) := by decide +kernel
theorem dX8_peak_48 : decode cX8_peak 48 = .ok (.lreturn, 1) := by decide +kernel
theorem dX8_peak_49 : decode cX8_peak 49 = .ok (.lload_n 1, 1) := by decide +kernel
theorem dX8_peak_50 : decode cX8_peak 50 = .ok (.lstore 4, 2) := by decide +kernel
theorem dX8_peak_52 : decode cX8_peak 52 = .ok (.aload_n 0, 1) := by decide +kernel
theorem dX8_peak_53 : decode cX8_peak 53 = .ok (.lload_n 1, 1) := by decide +kernel
theorem dX8_peak_54 : decode cX8_peak 54 = .ok (.putfield 146, 3) := by decide +kernel
theorem dX8_peak_57 : decode cX8_peak 57 = .ok (.iconst 0, 1) := by decide +kernel
theorem dX8_peak_58 : decode cX8_peak 58 = .ok (.istore 6, 2) := by decide +kernel
theorem dX8_peak_60 : decode cX8_peak 60 = .ok (.iload 6, 2) := by decide +kernel
theorem dX8_peak_62 : decode cX8_peak 62 = .ok (.iload_n 3, 1) := by decide +kernel
theorem dX8_peak_63 : decode cX8_peak 63 = .ok (.if_icmp .ge 31, 3) := by decide +kernel
theorem dX8_peak_66 : decode cX8_peak 66 = .ok (.aload_n 0, 1) := by decide +kernel
theorem dX8_peak_67 : decode cX8_peak 67 = .ok (.aload_n 0, 1) := by decide +kernel
theorem dX8_peak_68 : decode cX8_peak 68 = .ok (.getfield 146, 3) := by decide +kernel
theorem dX8_peak_71 : decode cX8_peak 71 = .ok (.invokevirtual 154, 3) := by decide +kernel
theorem dX8_peak_74 : decode cX8_peak 74 = .ok (.ifCond .ne 20, 3) := by decide +kernel
theorem dX8_peak_77 : decode cX8_peak 77 = .ok (.lload 4, 2) := by decide +kernel
theorem dX8_peak_79 : decode cX8_peak 79 = .ok (.aload_n 0, 1) := by decide +kernel
theorem dX8_peak_80 : decode cX8_peak 80 = .ok (.getfield 146, 3) := by decide +kernel
theorem dX8_peak_83 : decode cX8_peak 83 = .ok (.invokestatic 159, 3) := by decide +kernel
theorem dX8_peak_86 : decode cX8_peak 86 = .ok (.lstore 4, 2) := by decide +kernel
theorem dX8_peak_88 : decode cX8_peak 88 = .ok (.iinc 6 1, 3) := by decide +kernel
theorem dX8_peak_91 : decode cX8_peak 91 = .ok (.goto (-31), 3) := by decide +kernel
theorem dX8_peak_94 : decode cX8_peak 94 = .ok (.lload 4, 2) := by decide +kernel
theorem dX8_peak_96 : decode cX8_peak 96 = .ok (.lreturn, 1) := by decide +kernel
set_option maxRecDepth 20000 in
theorem ggX8_word_X8_isNumber : GoodIn wsX8_word wsX8_isNumber := goodIn_r _ [9, 10, 11, 12, 13, 8, 14] (by decide +kernel) (by decide +kernel)
set_option maxRecDepth 20000 in
theorem gX8_word_X8_isNumber : GoodIn wsX8_word (va_wsS RX8 150 yX8_isNumber wsX8_isNumber) := goodIn_app (goodIn_of _ (by decide +kernel)) ggX8_word_X8_isNumber
set_option maxRecDepth 20000 in
theorem ggX8_word_X8_in : GoodIn wsX8_word wsX8_in := goodIn_r _ [14] (by decide +kernel) (by decide +kernel)
set_option maxRecDepth 20000 in
theorem gX8_word_X8_in : GoodIn wsX8_word (va_wsS RX8 68 yX8_in wsX8_in) := goodIn_app (goodIn_of _ (by decide +kernel)) ggX8_word_X8_in
set_option maxRecDepth 20000 in
theorem ggX8_word_X8_way : GoodIn wsX8_word wsX8_way := goodIn_ca (goodIn_r _ [18, 2, 19, 20, 21, 22, 23, 8, 24, 25, 26, 27, 28, 46, 47, 48, 49, 50, 51, 52, 53, 54, 55, 56, 57, 58, 59, 60, 61, 62, 63, 64, 65, 66, 67, 68, 69, 70, 71, 72, 73, 74, 75, 76, 77, 78] (by decide +kernel) (by decide +kernel)) (goodIn_sub (fun _ h => List.mem_cons_of_mem _ (List.mem_append_right _ h)) (by decide +kernel))
set_option maxRecDepth 20000 in
theorem gX8_word_X8_way : GoodIn wsX8_word (wsV RX8 140 RX8 yX8_way wsX8_way) := goodIn_app (goodIn_of _ (by decide +kernel)) ggX8_word_X8_way
set_option maxRecDepth 20000 in
theorem ggX8_word_X8_goes : GoodIn wsX8_word wsX8_goes := goodIn_ca (goodIn_r _ [32, 2, 21, 11, 33, 34, 4, 35, 15, 16, 17, 8, 18, 19, 20, 22, 23, 24, 25, 26, 27, 28, 6, 7, 9, 10, 12, 13, 14, 46, 47, 48, 49, 50, 51, 52, 53, 54, 55, 56, 57, 58, 59, 60, 61, 62, 63, 64, 65, 66, 67, 68, 69, 70, 71, 72, 73, 74, 75, 76, 77, 78] (by decide +kernel) (by decide +kernel)) (goodIn_sub (fun _ h => List.mem_cons_of_mem _ (List.mem_append_right _ h)) (by decide +kernel))
set_option maxRecDepth 20000 in
theorem gX8_word_X8_goes : GoodIn wsX8_word (wsV RX8 154 RX8 yX8_goes wsX8_goes) := goodIn_app (goodIn_of _ (by decide +kernel)) ggX8_word_X8_goes
set_option maxRecDepth 20000 in
theorem ggX8_word_X8_tells : GoodIn wsX8_word wsX8_tells := goodIn_r _ [39, 40, 41, 42, 43, 44, 45, 5, 46, 47, 48, 49, 50, 51, 52, 53, 54, 55, 56, 57, 58, 59, 60, 61, 62, 63, 64, 65, 66, 67, 68, 69, 70, 71, 72, 73, 74, 75, 76, 77, 78] (by decide +kernel) (by decide +kernel)
set_option maxRecDepth 20000 in
theorem gX8_word_X8_tells : GoodIn wsX8_word (wsV RX8 164 RX8 yX8_tells wsX8_tells) := goodIn_app (goodIn_of _ (by decide +kernel)) ggX8_word_X8_tells
theorem dX8_word_0 : decode cX8_word 0 = .ok (.aload_n 0, 1) := by decide +kernel
theorem dX8_word_1 : decode cX8_word 1 = .ok (.iconst 0, 1) := by decide +kernel
theorem dX8_word_2 : decode cX8_word 2 = .ok (.putfield 61, 3) := by decide +kernel
theorem dX8_word_5 : decode cX8_word 5 = .ok (.aload_n 0, 1) := by decide +kernel
theorem dX8_word_6 : decode cX8_word 6 = .ok (.getfield 108, 3) := by decide +kernel
theorem dX8_word_9 : decode cX8_word 9 = .ok (.ifCond .eq 22, 3) := by decide +kernel
theorem dX8_word_12 : decode cX8_word 12 = .ok (.lload_n 1, 1) := by decide +kernel
theorem dX8_word_13 : decode cX8_word 13 = .ok (.invokestatic 150, 3) := by decide +kernel
theorem dX8_word_16 : decode cX8_word 16 = .ok (.ifCond .eq 15, 3) := by decide +kernel
theorem dX8_word_19 : decode cX8_word 19 = .ok (.iload_n 3, 1) := by decide +kernel
theorem dX8_word_20 : decode cX8_word 20 = .ok (.i2l, 1) := by decide +kernel
theorem dX8_word_21 : decode cX8_word 21 = .ok (.lconst 1, 1) := by decide +kernel
theorem dX8_word_22 : decode cX8_word 22 = .ok (.ldc2_w 162, 3) := by decide +kernel
theorem dX8_word_25 : decode cX8_word 25 = .ok (.invokestatic 68, 3) := by decide +kernel
theorem dX8_word_28 : decode cX8_word 28 = .ok (.ifCond .ne 5, 3) := by decide +kernel
theorem dX8_word_31 : decode cX8_word 31 = .ok (.iconst (-1), 1) := by decide +kernel
theorem dX8_word_32 : decode cX8_word 32 = .ok (.ireturn, 1) := by decide +kernel
theorem dX8_word_33 : decode cX8_word 33 = .ok (.aload_n 0, 1) := by decide +kernel
theorem dX8_word_34 : decode cX8_word 34 = .ok (.lload_n 1, 1) := by decide +kernel
theorem dX8_word_35 : decode cX8_word 35 = .ok (.putfield 146, 3) := by decide +kernel
theorem dX8_word_38 : decode cX8_word 38 = .ok (.iconst 0, 1) := by decide +kernel
theorem dX8_word_39 : decode cX8_word 39 = .ok (.istore 4, 2) := by decide +kernel
theorem dX8_word_41 : decode cX8_word 41 = .ok (.iload 4, 2) := by decide +kernel
theorem dX8_word_43 : decode cX8_word 43 = .ok (.iload_n 3, 1) := by decide +kernel
theorem dX8_word_44 : decode cX8_word 44 = .ok (.if_icmp .ge 57, 3) := by decide +kernel
theorem dX8_word_47 : decode cX8_word 47 = .ok (.aload_n 0, 1) := by decide +kernel
theorem dX8_word_48 : decode cX8_word 48 = .ok (.aload_n 0, 1) := by decide +kernel
theorem dX8_word_49 : decode cX8_word 49 = .ok (.getfield 146, 3) := by decide +kernel
theorem dX8_word_52 : decode cX8_word 52 = .ok (.invokevirtual 140, 3) := by decide +kernel
theorem dX8_word_55 : decode cX8_word 55 = .ok (.istore 5, 2) := by decide +kernel
theorem dX8_word_57 : decode cX8_word 57 = .ok (.iload 5, 2) := by decide +kernel
theorem dX8_word_59 : decode cX8_word 59 = .ok (.ifCond .ge 6, 3) := by decide +kernel
theorem dX8_word_62 : decode cX8_word 62 = .ok (.goto 39, 3) := by decide +kernel
theorem dX8_word_65 : decode cX8_word 65 = .ok (.aload_n 0, 1) := by decide +kernel
theorem dX8_word_66 : decode cX8_word 66 = .ok (.getfield 32, 3) := by decide +kernel
theorem dX8_word_69 : decode cX8_word 69 = .ok (.iload 4, 2) := by decide +kernel
theorem dX8_word_71 : decode cX8_word 71 = .ok (.iload 5, 2) := by decide +kernel
theorem dX8_word_73 : decode cX8_word 73 = .ok (.i2l, 1) := by decide +kernel
theorem dX8_word_74 : decode cX8_word 74 = .ok (.lastore, 1) := by decide +kernel
theorem dX8_word_75 : decode cX8_word 75 = .ok (.iinc 4 1, 3) := by decide +kernel
theorem dX8_word_78 : decode cX8_word 78 = .ok (.iload 4, 2) := by decide +kernel
theorem dX8_word_80 : decode cX8_word 80 = .ok (.iload_n 3, 1) := by decide +kernel
theorem dX8_word_81 : decode cX8_word 81 = .ok (.if_icmp .ge 17, 3) := by decide +kernel
theorem dX8_word_84 : decode cX8_word 84 = .ok (.aload_n 0, 1) := by decide +kernel
theorem dX8_word_85 : decode cX8_word 85 = .ok (.aload_n 0, 1) := by decide +kernel
theorem dX8_word_86 : decode cX8_word 86 = .ok (.getfield 146, 3) := by decide +kernel
theorem dX8_word_89 : decode cX8_word 89 = .ok (.invokevirtual 154, 3) := by decide +kernel
theorem dX8_word_92 : decode cX8_word 92 = .ok (.iconst 2, 1) := by decide +kernel
theorem dX8_word_93 : decode cX8_word 93 = .ok (.if_icmp .ne 5, 3) := by decide +kernel
theorem dX8_word_96 : decode cX8_word 96 = .ok (.iconst (-1), 1) := by decide +kernel
theorem dX8_word_97 : decode cX8_word 97 = .ok (.ireturn, 1) := by decide +kernel
theorem dX8_word_98 : decode cX8_word 98 = .ok (.goto (-57), 3) := by decide +kernel
theorem dX8_word_101 : decode cX8_word 101 = .ok (.aload_n 0, 1) := by decide +kernel
theorem dX8_word_102 : decode cX8_word 102 = .ok (.iload 4, 2) := by decide +kernel
theorem dX8_word_104 : decode cX8_word 104 = .ok (.invokevirtual 164, 3) := by decide +kernel
theorem dX8_word_107 : decode cX8_word 107 = .ok (.iload 4, 2) := by decide +kernel
theorem dX8_word_109 : decode cX8_word 109 = .ok (.ireturn, 1) := by decide +kernel
theorem dX8_tells_0 : decode cX8_tells 0 = .ok (.aload_n 0, 1) := by decide +kernel
theorem dX8_tells_1 : decode cX8_tells 1 = .ok (.iload_n 1, 1) := by decide +kernel
theorem dX8_tells_2 : decode cX8_tells 2 = .ok (.sipush 1000, 3) := by decide +kernel
theorem dX8_tells_5 : decode cX8_tells 5 = .ok (.invokestatic 88, 3) := by decide +kernel
theorem dX8_tells_8 : decode cX8_tells 8 = .ok (.putfield 124, 3) := by decide +kernel
theorem dX8_tells_11 : decode cX8_tells 11 = .ok (.iconst 0, 1) := by decide +kernel
theorem dX8_tells_12 : decode cX8_tells 12 = .ok (.istore_n 2, 1) := by decide +kernel
theorem dX8_tells_13 : decode cX8_tells 13 = .ok (.iload_n 2, 1) := by decide +kernel
theorem dX8_tells_14 : decode cX8_tells 14 = .ok (.aload_n 0, 1) := by decide +kernel
theorem dX8_tells_15 : decode cX8_tells 15 = .ok (.getfield 124, 3) := by decide +kernel
theorem dX8_tells_18 : decode cX8_tells 18 = .ok (.if_icmp .ge 21, 3) := by decide +kernel
theorem dX8_tells_21 : decode cX8_tells 21 = .ok (.aload_n 0, 1) := by decide +kernel
theorem dX8_tells_22 : decode cX8_tells 22 = .ok (.getfield 29, 3) := by decide +kernel
theorem dX8_tells_25 : decode cX8_tells 25 = .ok (.iload_n 2, 1) := by decide +kernel
theorem dX8_tells_26 : decode cX8_tells 26 = .ok (.aload_n 0, 1) := by decide +kernel
theorem dX8_tells_27 : decode cX8_tells 27 = .ok (.getfield 32, 3) := by decide +kernel
theorem dX8_tells_30 : decode cX8_tells 30 = .ok (.iload_n 2, 1) := by decide +kernel
theorem dX8_tells_31 : decode cX8_tells 31 = .ok (.laload, 1) := by decide +kernel
theorem dX8_tells_32 : decode cX8_tells 32 = .ok (.lastore, 1) := by decide +kernel
theorem dX8_tells_33 : decode cX8_tells 33 = .ok (.iinc 2 1, 3) := by decide +kernel
theorem dX8_tells_36 : decode cX8_tells 36 = .ok (.goto (-23), 3) := by decide +kernel
theorem dX8_tells_39 : decode cX8_tells 39 = .ok (.return_, 1) := by decide +kernel
set_option maxRecDepth 20000 in
theorem ggX8_row_X8_in : GoodIn wsX8_row wsX8_in := goodIn_r _ [7] (by decide +kernel) (by decide +kernel)
set_option maxRecDepth 20000 in
theorem gX8_row_X8_in : GoodIn wsX8_row (va_wsS RX8 68 yX8_in wsX8_in) := goodIn_app (goodIn_of _ (by decide +kernel)) ggX8_row_X8_in
set_option maxRecDepth 20000 in
theorem ggX8_row_X8_refuse : GoodIn wsX8_row wsX8_refuse := goodIn_r _ [11, 1, 12, 13, 14, 15, 16, 17, 18, 19, 20, 21, 22, 23, 24, 25, 26, 27, 28, 29, 30, 31, 32, 33, 34, 35, 36, 37, 38, 39, 40, 41, 42, 43, 44] (by decide +kernel) (by decide +kernel)
set_option maxRecDepth 20000 in
theorem gX8_row_X8_refuse : GoodIn wsX8_row (wsV RX8 98 RX8 yX8_refuse wsX8_refuse) := goodIn_app (goodIn_of _ (by decide +kernel)) ggX8_row_X8_refuse
theorem dX8_row_0 : decode cX8_row 0 = .ok (.aload_n 0, 1) := by decide +kernel
theorem dX8_row_1 : decode cX8_row 1 = .ok (.iconst 0, 1) := by decide +kernel
theorem dX8_row_2 : decode cX8_row 2 = .ok (.putfield 61, 3) := by decide +kernel
theorem dX8_row_5 : decode cX8_row 5 = .ok (.iload_n 1, 1) := by decide +kernel
theorem dX8_row_6 : decode cX8_row 6 = .ok (.i2l, 1) := by decide +kernel
theorem dX8_row_7 : decode cX8_row 7 = .ok (.lconst 0, 1) := by decide +kernel
theorem dX8_row_8 : decode cX8_row 8 = .ok (.aload_n 0, 1) := by decide +kernel
theorem dX8_row_9 : decode cX8_row 9 = .ok (.getfield 124, 3) := by decide +kernel
theorem dX8_row_12 : decode cX8_row 12 = .ok (.iconst 1, 1) := by decide +kernel
theorem dX8_row_13 : decode cX8_row 13 = .ok (.isub, 1) := by decide +kernel
theorem dX8_row_14 : decode cX8_row 14 = .ok (.i2l, 1) := by decide +kernel
theorem dX8_row_15 : decode cX8_row 15 = .ok (.invokestatic 68, 3) := by decide +kernel
theorem dX8_row_18 : decode cX8_row 18 = .ok (.ifCond .eq 12, 3) := by decide +kernel
theorem dX8_row_21 : decode cX8_row 21 = .ok (.aload_n 0, 1) := by decide +kernel
theorem dX8_row_22 : decode cX8_row 22 = .ok (.getfield 29, 3) := by decide +kernel
theorem dX8_row_25 : decode cX8_row 25 = .ok (.iload_n 1, 1) := by decide +kernel
theorem dX8_row_26 : decode cX8_row 26 = .ok (.laload, 1) := by decide +kernel
theorem dX8_row_27 : decode cX8_row 27 = .ok (.goto 8, 3) := by decide +kernel
theorem dX8_row_30 : decode cX8_row 30 = .ok (.aload_n 0, 1) := by decide +kernel
theorem dX8_row_31 : decode cX8_row 31 = .ok (.iconst 1, 1) := by decide +kernel
theorem dX8_row_32 : decode cX8_row 32 = .ok (.invokevirtual 98, 3) := by decide +kernel
theorem dX8_row_35 : decode cX8_row 35 = .ok (.lreturn, 1) := by decide +kernel
set_option maxRecDepth 20000 in
theorem ggX8_rest_X8_in : GoodIn wsX8_rest wsX8_in := goodIn_r _ [8] (by decide +kernel) (by decide +kernel)
set_option maxRecDepth 20000 in
theorem gX8_rest_X8_in : GoodIn wsX8_rest (va_wsS RX8 68 yX8_in wsX8_in) := goodIn_app (goodIn_of _ (by decide +kernel)) ggX8_rest_X8_in
theorem dX8_rest_0 : decode cX8_rest 0 = .ok (.aload_n 0, 1) := by decide +kernel
theorem dX8_rest_1 : decode cX8_rest 1 = .ok (.iconst 0, 1) := by decide +kernel
theorem dX8_rest_2 : decode cX8_rest 2 = .ok (.putfield 61, 3) := by decide +kernel
theorem dX8_rest_5 : decode cX8_rest 5 = .ok (.iload_n 1, 1) := by decide +kernel
theorem dX8_rest_6 : decode cX8_rest 6 = .ok (.i2l, 1) := by decide +kernel
theorem dX8_rest_7 : decode cX8_rest 7 = .ok (.lconst 0, 1) := by decide +kernel
theorem dX8_rest_8 : decode cX8_rest 8 = .ok (.ldc2_w 168, 3) := by decide +kernel
theorem dX8_rest_11 : decode cX8_rest 11 = .ok (.invokestatic 68, 3) := by decide +kernel
theorem dX8_rest_14 : decode cX8_rest 14 = .ok (.ifCond .eq 12, 3) := by decide +kernel
theorem dX8_rest_17 : decode cX8_rest 17 = .ok (.aload_n 0, 1) := by decide +kernel
theorem dX8_rest_18 : decode cX8_rest 18 = .ok (.getfield 127, 3) := by decide +kernel
theorem dX8_rest_21 : decode cX8_rest 21 = .ok (.bipush 40, 2) := by decide +kernel
theorem dX8_rest_23 : decode cX8_rest 23 = .ok (.if_icmp .ne 5, 3) := by decide +kernel
theorem dX8_rest_26 : decode cX8_rest 26 = .ok (.iconst (-1), 1) := by decide +kernel
theorem dX8_rest_27 : decode cX8_rest 27 = .ok (.ireturn, 1) := by decide +kernel
theorem dX8_rest_28 : decode cX8_rest 28 = .ok (.aload_n 0, 1) := by decide +kernel
theorem dX8_rest_29 : decode cX8_rest 29 = .ok (.getfield 35, 3) := by decide +kernel
theorem dX8_rest_32 : decode cX8_rest 32 = .ok (.aload_n 0, 1) := by decide +kernel
theorem dX8_rest_33 : decode cX8_rest 33 = .ok (.getfield 127, 3) := by decide +kernel
theorem dX8_rest_36 : decode cX8_rest 36 = .ok (.iload_n 1, 1) := by decide +kernel
theorem dX8_rest_37 : decode cX8_rest 37 = .ok (.iastore, 1) := by decide +kernel
theorem dX8_rest_38 : decode cX8_rest 38 = .ok (.aload_n 0, 1) := by decide +kernel
theorem dX8_rest_39 : decode cX8_rest 39 = .ok (.dup, 1) := by decide +kernel
theorem dX8_rest_40 : decode cX8_rest 40 = .ok (.getfield 127, 3) := by decide +kernel
theorem dX8_rest_43 : decode cX8_rest 43 = .ok (.iconst 1, 1) := by decide +kernel
theorem dX8_rest_44 : decode cX8_rest 44 = .ok (.iadd, 1) := by decide +kernel
theorem dX8_rest_45 : decode cX8_rest 45 = .ok (.putfield 127, 3) := by decide +kernel
theorem dX8_rest_48 : decode cX8_rest 48 = .ok (.aload_n 0, 1) := by decide +kernel
theorem dX8_rest_49 : decode cX8_rest 49 = .ok (.getfield 127, 3) := by decide +kernel
theorem dX8_rest_52 : decode cX8_rest 52 = .ok (.ireturn, 1) := by decide +kernel
theorem dX8_clear_0 : decode cX8_clear 0 = .ok (.aload_n 0, 1) := by decide +kernel
theorem dX8_clear_1 : decode cX8_clear 1 = .ok (.iconst 0, 1) := by decide +kernel
theorem dX8_clear_2 : decode cX8_clear 2 = .ok (.putfield 61, 3) := by decide +kernel
theorem dX8_clear_5 : decode cX8_clear 5 = .ok (.aload_n 0, 1) := by decide +kernel
theorem dX8_clear_6 : decode cX8_clear 6 = .ok (.getfield 127, 3) := by decide +kernel
theorem dX8_clear_9 : decode cX8_clear 9 = .ok (.istore_n 1, 1) := by decide +kernel
theorem dX8_clear_10 : decode cX8_clear 10 = .ok (.aload_n 0, 1) := by decide +kernel
theorem dX8_clear_11 : decode cX8_clear 11 = .ok (.iconst 0, 1) := by decide +kernel
theorem dX8_clear_12 : decode cX8_clear 12 = .ok (.putfield 127, 3) := by decide +kernel
theorem dX8_clear_15 : decode cX8_clear 15 = .ok (.iload_n 1, 1) := by decide +kernel
theorem dX8_clear_16 : decode cX8_clear 16 = .ok (.ireturn, 1) := by decide +kernel
set_option maxRecDepth 20000 in
theorem ggX8_shaped_X8_common : GoodIn wsX8_shaped wsX8_common := goodIn_ca (goodIn_r _ [8] (by decide +kernel) (by decide +kernel)) (goodIn_sub (fun _ h => List.mem_cons_of_mem _ (List.mem_append_right _ h)) (by decide +kernel))
set_option maxRecDepth 20000 in
theorem gX8_shaped_X8_common : GoodIn wsX8_shaped (va_wsS RX8 114 yX8_common wsX8_common) := goodIn_app (goodIn_of _ (by decide +kernel)) ggX8_shaped_X8_common
set_option maxRecDepth 20000 in
theorem ggX8_shaped_X8_isNumber : GoodIn wsX8_shaped wsX8_isNumber := goodIn_r _ [11, 12, 13, 14, 15, 7, 16] (by decide +kernel) (by decide +kernel)
set_option maxRecDepth 20000 in
theorem gX8_shaped_X8_isNumber : GoodIn wsX8_shaped (va_wsS RX8 150 yX8_isNumber wsX8_isNumber) := goodIn_app (goodIn_of _ (by decide +kernel)) ggX8_shaped_X8_isNumber
theorem dX8_shaped_0 : decode cX8_shaped 0 = .ok (.aload_n 0, 1) := by decide +kernel
theorem dX8_shaped_1 : decode cX8_shaped 1 = .ok (.lconst 1, 1) := by decide +kernel
theorem dX8_shaped_2 : decode cX8_shaped 2 = .ok (.putfield 170, 3) := by decide +kernel
theorem dX8_shaped_5 : decode cX8_shaped 5 = .ok (.aload_n 0, 1) := by decide +kernel
theorem dX8_shaped_6 : decode cX8_shaped 6 = .ok (.lconst 0, 1) := by decide +kernel
theorem dX8_shaped_7 : decode cX8_shaped 7 = .ok (.putfield 173, 3) := by decide +kernel
theorem dX8_shaped_10 : decode cX8_shaped 10 = .ok (.aload_n 0, 1) := by decide +kernel
theorem dX8_shaped_11 : decode cX8_shaped 11 = .ok (.lconst 1, 1) := by decide +kernel
theorem dX8_shaped_12 : decode cX8_shaped 12 = .ok (.putfield 176, 3) := by decide +kernel
theorem dX8_shaped_15 : decode cX8_shaped 15 = .ok (.iconst 0, 1) := by decide +kernel
theorem dX8_shaped_16 : decode cX8_shaped 16 = .ok (.istore_n 3, 1) := by decide +kernel
theorem dX8_shaped_17 : decode cX8_shaped 17 = .ok (.iload_n 3, 1) := by decide +kernel
theorem dX8_shaped_18 : decode cX8_shaped 18 = .ok (.iload_n 2, 1) := by decide +kernel
theorem dX8_shaped_19 : decode cX8_shaped 19 = .ok (.if_icmp .ge 175, 3) := by decide +kernel
theorem dX8_shaped_22 : decode cX8_shaped 22 = .ok (.aload_n 0, 1) := by decide +kernel
theorem dX8_shaped_23 : decode cX8_shaped 23 = .ok (.getfield 20, 3) := by decide +kernel
theorem dX8_shaped_26 : decode cX8_shaped 26 = .ok (.iconst 3, 1) := by decide +kernel
theorem dX8_shaped_27 : decode cX8_shaped 27 = .ok (.aload_n 1, 1) := by decide +kernel
theorem dX8_shaped_28 : decode cX8_shaped 28 = .ok (.iload_n 3, 1) := by decide +kernel
