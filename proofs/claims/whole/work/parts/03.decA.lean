theorem dX0_init_0 : decode cX0_init 0 = .ok (.aload_n 0, 1) := by decide +kernel
theorem dX0_init_1 : decode cX0_init 1 = .ok (.invokespecial 3, 3) := by decide +kernel
theorem dX0_init_4 : decode cX0_init 4 = .ok (.aload_n 0, 1) := by decide +kernel
theorem dX0_init_5 : decode cX0_init 5 = .ok (.iconst 0, 1) := by decide +kernel
theorem dX0_init_6 : decode cX0_init 6 = .ok (.putfield 9, 3) := by decide +kernel
theorem dX0_init_9 : decode cX0_init 9 = .ok (.aload_n 0, 1) := by decide +kernel
theorem dX0_init_10 : decode cX0_init 10 = .ok (.bipush 40, 2) := by decide +kernel
theorem dX0_init_12 : decode cX0_init 12 = .ok (.newarray .long, 2) := by decide +kernel
theorem dX0_init_14 : decode cX0_init 14 = .ok (.putfield 15, 3) := by decide +kernel
theorem dX0_init_17 : decode cX0_init 17 = .ok (.aload_n 0, 1) := by decide +kernel
theorem dX0_init_18 : decode cX0_init 18 = .ok (.bipush 40, 2) := by decide +kernel
theorem dX0_init_20 : decode cX0_init 20 = .ok (.newarray .long, 2) := by decide +kernel
theorem dX0_init_22 : decode cX0_init 22 = .ok (.putfield 19, 3) := by decide +kernel
theorem dX0_init_25 : decode cX0_init 25 = .ok (.return_, 1) := by decide +kernel
theorem dX0_size_0 : decode cX0_size 0 = .ok (.aload_n 0, 1) := by decide +kernel
theorem dX0_size_1 : decode cX0_size 1 = .ok (.getfield 9, 3) := by decide +kernel
theorem dX0_size_4 : decode cX0_size 4 = .ok (.ireturn, 1) := by decide +kernel
theorem dX0_has_0 : decode cX0_has 0 = .ok (.iload_n 1, 1) := by decide +kernel
theorem dX0_has_1 : decode cX0_has 1 = .ok (.ifCond .lt 21, 3) := by decide +kernel
theorem dX0_has_4 : decode cX0_has 4 = .ok (.iload_n 1, 1) := by decide +kernel
theorem dX0_has_5 : decode cX0_has 5 = .ok (.aload_n 0, 1) := by decide +kernel
theorem dX0_has_6 : decode cX0_has 6 = .ok (.getfield 9, 3) := by decide +kernel
theorem dX0_has_9 : decode cX0_has 9 = .ok (.if_icmp .ge 13, 3) := by decide +kernel
theorem dX0_has_12 : decode cX0_has 12 = .ok (.iload_n 1, 1) := by decide +kernel
theorem dX0_has_13 : decode cX0_has 13 = .ok (.bipush 40, 2) := by decide +kernel
theorem dX0_has_15 : decode cX0_has 15 = .ok (.if_icmp .ge 7, 3) := by decide +kernel
theorem dX0_has_18 : decode cX0_has 18 = .ok (.iconst 1, 1) := by decide +kernel
theorem dX0_has_19 : decode cX0_has 19 = .ok (.goto 4, 3) := by decide +kernel
theorem dX0_has_22 : decode cX0_has 22 = .ok (.iconst 0, 1) := by decide +kernel
theorem dX0_has_23 : decode cX0_has 23 = .ok (.ireturn, 1) := by decide +kernel
theorem dX0_empty_0 : decode cX0_empty 0 = .ok (.aload_n 0, 1) := by decide +kernel
theorem dX0_empty_1 : decode cX0_empty 1 = .ok (.iconst 0, 1) := by decide +kernel
theorem dX0_empty_2 : decode cX0_empty 2 = .ok (.putfield 9, 3) := by decide +kernel
theorem dX0_empty_5 : decode cX0_empty 5 = .ok (.return_, 1) := by decide +kernel
set_option maxRecDepth 20000 in
theorem ggX0_add_X7_commonDivisor : GoodIn wsX0_add wsX7_commonDivisor := goodIn_ca (goodIn_r _ [6, 7, 8, 9, 10] (by decide +kernel) (by decide +kernel)) (goodIn_sub (fun _ h => List.mem_cons_of_mem _ (List.mem_append_right _ h)) (by decide +kernel))
set_option maxRecDepth 20000 in
theorem gX0_add_X7_commonDivisor_n22 : GoodIn wsX0_add (wsX7_commonDivisor) := ggX0_add_X7_commonDivisor
theorem dX0_add_0 : decode cX0_add 0 = .ok (.aload_n 0, 1) := by decide +kernel
theorem dX0_add_1 : decode cX0_add 1 = .ok (.getfield 9, 3) := by decide +kernel
theorem dX0_add_4 : decode cX0_add 4 = .ok (.ifCond .lt 12, 3) := by decide +kernel
theorem dX0_add_7 : decode cX0_add 7 = .ok (.aload_n 0, 1) := by decide +kernel
theorem dX0_add_8 : decode cX0_add 8 = .ok (.getfield 9, 3) := by decide +kernel
theorem dX0_add_11 : decode cX0_add 11 = .ok (.bipush 40, 2) := by decide +kernel
theorem dX0_add_13 : decode cX0_add 13 = .ok (.if_icmp .lt 5, 3) := by decide +kernel
theorem dX0_add_16 : decode cX0_add 16 = .ok (.iconst 0, 1) := by decide +kernel
theorem dX0_add_17 : decode cX0_add 17 = .ok (.ireturn, 1) := by decide +kernel
theorem dX0_add_18 : decode cX0_add 18 = .ok (.lload_n 1, 1) := by decide +kernel
theorem dX0_add_19 : decode cX0_add 19 = .ok (.lload_n 3, 1) := by decide +kernel
theorem dX0_add_20 : decode cX0_add 20 = .ok (.invokestatic 22, 3) := by decide +kernel
theorem dX0_add_23 : decode cX0_add 23 = .ok (.lstore 5, 2) := by decide +kernel
theorem dX0_add_25 : decode cX0_add 25 = .ok (.aload_n 0, 1) := by decide +kernel
theorem dX0_add_26 : decode cX0_add 26 = .ok (.getfield 15, 3) := by decide +kernel
theorem dX0_add_29 : decode cX0_add 29 = .ok (.aload_n 0, 1) := by decide +kernel
theorem dX0_add_30 : decode cX0_add 30 = .ok (.getfield 9, 3) := by decide +kernel
theorem dX0_add_33 : decode cX0_add 33 = .ok (.lload_n 1, 1) := by decide +kernel
theorem dX0_add_34 : decode cX0_add 34 = .ok (.lload 5, 2) := by decide +kernel
theorem dX0_add_36 : decode cX0_add 36 = .ok (.ldiv, 1) := by decide +kernel
theorem dX0_add_37 : decode cX0_add 37 = .ok (.lastore, 1) := by decide +kernel
theorem dX0_add_38 : decode cX0_add 38 = .ok (.aload_n 0, 1) := by decide +kernel
theorem dX0_add_39 : decode cX0_add 39 = .ok (.getfield 19, 3) := by decide +kernel
theorem dX0_add_42 : decode cX0_add 42 = .ok (.aload_n 0, 1) := by decide +kernel
theorem dX0_add_43 : decode cX0_add 43 = .ok (.getfield 9, 3) := by decide +kernel
theorem dX0_add_46 : decode cX0_add 46 = .ok (.lload_n 3, 1) := by decide +kernel
theorem dX0_add_47 : decode cX0_add 47 = .ok (.lload 5, 2) := by decide +kernel
theorem dX0_add_49 : decode cX0_add 49 = .ok (.ldiv, 1) := by decide +kernel
theorem dX0_add_50 : decode cX0_add 50 = .ok (.lastore, 1) := by decide +kernel
theorem dX0_add_51 : decode cX0_add 51 = .ok (.aload_n 0, 1) := by decide +kernel
theorem dX0_add_52 : decode cX0_add 52 = .ok (.dup, 1) := by decide +kernel
theorem dX0_add_53 : decode cX0_add 53 = .ok (.getfield 9, 3) := by decide +kernel
theorem dX0_add_56 : decode cX0_add 56 = .ok (.iconst 1, 1) := by decide +kernel
theorem dX0_add_57 : decode cX0_add 57 = .ok (.iadd, 1) := by decide +kernel
theorem dX0_add_58 : decode cX0_add 58 = .ok (.putfield 9, 3) := by decide +kernel
theorem dX0_add_61 : decode cX0_add 61 = .ok (.iconst 1, 1) := by decide +kernel
theorem dX0_add_62 : decode cX0_add 62 = .ok (.ireturn, 1) := by decide +kernel
set_option maxRecDepth 20000 in
theorem ggX0_over_X0_has : GoodIn wsX0_over wsX0_has := goodIn_r _ [6, 7, 8, 9, 10] (by decide +kernel) (by decide +kernel)
set_option maxRecDepth 20000 in
theorem gX0_over_X0_has : GoodIn wsX0_over (wsV RX0 26 RX0 yX0_has wsX0_has) := goodIn_app (goodIn_of _ (by decide +kernel)) ggX0_over_X0_has
theorem dX0_over_0 : decode cX0_over 0 = .ok (.aload_n 0, 1) := by decide +kernel
theorem dX0_over_1 : decode cX0_over 1 = .ok (.iload_n 1, 1) := by decide +kernel
theorem dX0_over_2 : decode cX0_over 2 = .ok (.invokevirtual 26, 3) := by decide +kernel
theorem dX0_over_5 : decode cX0_over 5 = .ok (.ifCond .eq 23, 3) := by decide +kernel
theorem dX0_over_8 : decode cX0_over 8 = .ok (.aload_n 0, 1) := by decide +kernel
theorem dX0_over_9 : decode cX0_over 9 = .ok (.getfield 15, 3) := by decide +kernel
theorem dX0_over_12 : decode cX0_over 12 = .ok (.iload_n 1, 1) := by decide +kernel
theorem dX0_over_13 : decode cX0_over 13 = .ok (.laload, 1) := by decide +kernel
theorem dX0_over_14 : decode cX0_over 14 = .ok (.lconst 1, 1) := by decide +kernel
theorem dX0_over_15 : decode cX0_over 15 = .ok (.lcmp, 1) := by decide +kernel
theorem dX0_over_16 : decode cX0_over 16 = .ok (.ifCond .le 12, 3) := by decide +kernel
theorem dX0_over_19 : decode cX0_over 19 = .ok (.aload_n 0, 1) := by decide +kernel
theorem dX0_over_20 : decode cX0_over 20 = .ok (.getfield 15, 3) := by decide +kernel
theorem dX0_over_23 : decode cX0_over 23 = .ok (.iload_n 1, 1) := by decide +kernel
theorem dX0_over_24 : decode cX0_over 24 = .ok (.laload, 1) := by decide +kernel
theorem dX0_over_25 : decode cX0_over 25 = .ok (.goto 4, 3) := by decide +kernel
theorem dX0_over_28 : decode cX0_over 28 = .ok (.lconst 1, 1) := by decide +kernel
theorem dX0_over_29 : decode cX0_over 29 = .ok (.lreturn, 1) := by decide +kernel
set_option maxRecDepth 20000 in
theorem ggX0_under_X0_has : GoodIn wsX0_under wsX0_has := goodIn_r _ [6, 7, 8, 9, 10] (by decide +kernel) (by decide +kernel)
set_option maxRecDepth 20000 in
theorem gX0_under_X0_has : GoodIn wsX0_under (wsV RX0 26 RX0 yX0_has wsX0_has) := goodIn_app (goodIn_of _ (by decide +kernel)) ggX0_under_X0_has
theorem dX0_under_0 : decode cX0_under 0 = .ok (.aload_n 0, 1) := by decide +kernel
theorem dX0_under_1 : decode cX0_under 1 = .ok (.iload_n 1, 1) := by decide +kernel
theorem dX0_under_2 : decode cX0_under 2 = .ok (.invokevirtual 26, 3) := by decide +kernel
theorem dX0_under_5 : decode cX0_under 5 = .ok (.ifCond .eq 23, 3) := by decide +kernel
theorem dX0_under_8 : decode cX0_under 8 = .ok (.aload_n 0, 1) := by decide +kernel
theorem dX0_under_9 : decode cX0_under 9 = .ok (.getfield 19, 3) := by decide +kernel
theorem dX0_under_12 : decode cX0_under 12 = .ok (.iload_n 1, 1) := by decide +kernel
theorem dX0_under_13 : decode cX0_under 13 = .ok (.laload, 1) := by decide +kernel
theorem dX0_under_14 : decode cX0_under 14 = .ok (.lconst 1, 1) := by decide +kernel
theorem dX0_under_15 : decode cX0_under 15 = .ok (.lcmp, 1) := by decide +kernel
theorem dX0_under_16 : decode cX0_under 16 = .ok (.ifCond .le 12, 3) := by decide +kernel
theorem dX0_under_19 : decode cX0_under 19 = .ok (.aload_n 0, 1) := by decide +kernel
theorem dX0_under_20 : decode cX0_under 20 = .ok (.getfield 19, 3) := by decide +kernel
theorem dX0_under_23 : decode cX0_under 23 = .ok (.iload_n 1, 1) := by decide +kernel
theorem dX0_under_24 : decode cX0_under 24 = .ok (.laload, 1) := by decide +kernel
theorem dX0_under_25 : decode cX0_under 25 = .ok (.goto 4, 3) := by decide +kernel
theorem dX0_under_28 : decode cX0_under 28 = .ok (.lconst 1, 1) := by decide +kernel
theorem dX0_under_29 : decode cX0_under 29 = .ok (.lreturn, 1) := by decide +kernel
set_option maxRecDepth 20000 in
theorem ggX0_firstFit_X0_under : GoodIn wsX0_firstFit wsX0_under := goodIn_r _ [6, 7, 8, 9, 10, 5, 11, 1, 12, 13, 14] (by decide +kernel) (by decide +kernel)
set_option maxRecDepth 20000 in
theorem gX0_firstFit_X0_under : GoodIn wsX0_firstFit (wsV RX0 30 RX0 yX0_under wsX0_under) := goodIn_app (goodIn_of _ (by decide +kernel)) ggX0_firstFit_X0_under
theorem dX0_firstFit_0 : decode cX0_firstFit 0 = .ok (.lload_n 1, 1) := by decide +kernel
theorem dX0_firstFit_1 : decode cX0_firstFit 1 = .ok (.lconst 1, 1) := by decide +kernel
theorem dX0_firstFit_2 : decode cX0_firstFit 2 = .ok (.lcmp, 1) := by decide +kernel
theorem dX0_firstFit_3 : decode cX0_firstFit 3 = .ok (.ifCond .ge 5, 3) := by decide +kernel
theorem dX0_firstFit_6 : decode cX0_firstFit 6 = .ok (.iconst (-1), 1) := by decide +kernel
theorem dX0_firstFit_7 : decode cX0_firstFit 7 = .ok (.ireturn, 1) := by decide +kernel
theorem dX0_firstFit_8 : decode cX0_firstFit 8 = .ok (.iconst 0, 1) := by decide +kernel
theorem dX0_firstFit_9 : decode cX0_firstFit 9 = .ok (.istore_n 3, 1) := by decide +kernel
theorem dX0_firstFit_10 : decode cX0_firstFit 10 = .ok (.iload_n 3, 1) := by decide +kernel
theorem dX0_firstFit_11 : decode cX0_firstFit 11 = .ok (.aload_n 0, 1) := by decide +kernel
theorem dX0_firstFit_12 : decode cX0_firstFit 12 = .ok (.getfield 9, 3) := by decide +kernel
theorem dX0_firstFit_15 : decode cX0_firstFit 15 = .ok (.if_icmp .ge 23, 3) := by decide +kernel
theorem dX0_firstFit_18 : decode cX0_firstFit 18 = .ok (.lload_n 1, 1) := by decide +kernel
theorem dX0_firstFit_19 : decode cX0_firstFit 19 = .ok (.aload_n 0, 1) := by decide +kernel
theorem dX0_firstFit_20 : decode cX0_firstFit 20 = .ok (.iload_n 3, 1) := by decide +kernel
theorem dX0_firstFit_21 : decode cX0_firstFit 21 = .ok (.invokevirtual 30, 3) := by decide +kernel
theorem dX0_firstFit_24 : decode cX0_firstFit 24 = .ok (.lrem, 1) := by decide +kernel
theorem dX0_firstFit_25 : decode cX0_firstFit 25 = .ok (.lconst 0, 1) := by decide +kernel
theorem dX0_firstFit_26 : decode cX0_firstFit 26 = .ok (.lcmp, 1) := by decide +kernel
theorem dX0_firstFit_27 : decode cX0_firstFit 27 = .ok (.ifCond .ne 5, 3) := by decide +kernel
theorem dX0_firstFit_30 : decode cX0_firstFit 30 = .ok (.iload_n 3, 1) := by decide +kernel
theorem dX0_firstFit_31 : decode cX0_firstFit 31 = .ok (.ireturn, 1) := by decide +kernel
theorem dX0_firstFit_32 : decode cX0_firstFit 32 = .ok (.iinc 3 1, 3) := by decide +kernel
theorem dX0_firstFit_35 : decode cX0_firstFit 35 = .ok (.goto (-25), 3) := by decide +kernel
theorem dX0_firstFit_38 : decode cX0_firstFit 38 = .ok (.iconst (-1), 1) := by decide +kernel
theorem dX0_firstFit_39 : decode cX0_firstFit 39 = .ok (.ireturn, 1) := by decide +kernel
set_option maxRecDepth 20000 in
theorem ggX0_after_X0_firstFit : GoodIn wsX0_after wsX0_firstFit := goodIn_ca (goodIn_r _ [8, 9, 10, 11, 12, 7, 13, 14, 15, 16, 17, 18, 24, 25, 26] (by decide +kernel) (by decide +kernel)) (goodIn_sub (fun _ h => List.mem_cons_of_mem _ (List.mem_append_right _ h)) (by decide +kernel))
set_option maxRecDepth 20000 in
theorem gX0_after_X0_firstFit : GoodIn wsX0_after (wsV RX0 34 RX0 yX0_firstFit wsX0_firstFit) := goodIn_app (goodIn_of _ (by decide +kernel)) ggX0_after_X0_firstFit
set_option maxRecDepth 20000 in
theorem ggX0_after_X0_under : GoodIn wsX0_after wsX0_under := goodIn_r _ [13, 14, 15, 16, 17, 7, 18, 9, 24, 25, 26] (by decide +kernel) (by decide +kernel)
set_option maxRecDepth 20000 in
theorem gX0_after_X0_under : GoodIn wsX0_after (wsV RX0 30 RX0 yX0_under wsX0_under) := goodIn_app (goodIn_of _ (by decide +kernel)) ggX0_after_X0_under
set_option maxRecDepth 20000 in
theorem ggX0_after_X0_over : GoodIn wsX0_after wsX0_over := goodIn_r _ [22, 23, 15, 16, 17, 7, 18, 9, 24, 25, 26] (by decide +kernel) (by decide +kernel)
set_option maxRecDepth 20000 in
theorem gX0_after_X0_over : GoodIn wsX0_after (wsV RX0 42 RX0 yX0_over wsX0_over) := goodIn_app (goodIn_of _ (by decide +kernel)) ggX0_after_X0_over
theorem dX0_after_0 : decode cX0_after 0 = .ok (.aload_n 0, 1) := by decide +kernel
theorem dX0_after_1 : decode cX0_after 1 = .ok (.lload_n 1, 1) := by decide +kernel
theorem dX0_after_2 : decode cX0_after 2 = .ok (.invokevirtual 34, 3) := by decide +kernel
theorem dX0_after_5 : decode cX0_after 5 = .ok (.istore_n 3, 1) := by decide +kernel
theorem dX0_after_6 : decode cX0_after 6 = .ok (.iload_n 3, 1) := by decide +kernel
theorem dX0_after_7 : decode cX0_after 7 = .ok (.ifCond .ge 7, 3) := by decide +kernel
theorem dX0_after_10 : decode cX0_after 10 = .ok (.ldc2_w 38, 3) := by decide +kernel
theorem dX0_after_13 : decode cX0_after 13 = .ok (.lreturn, 1) := by decide +kernel
theorem dX0_after_14 : decode cX0_after 14 = .ok (.lload_n 1, 1) := by decide +kernel
theorem dX0_after_15 : decode cX0_after 15 = .ok (.aload_n 0, 1) := by decide +kernel
theorem dX0_after_16 : decode cX0_after 16 = .ok (.iload_n 3, 1) := by decide +kernel
theorem dX0_after_17 : decode cX0_after 17 = .ok (.invokevirtual 30, 3) := by decide +kernel
theorem dX0_after_20 : decode cX0_after 20 = .ok (.ldiv, 1) := by decide +kernel
theorem dX0_after_21 : decode cX0_after 21 = .ok (.lstore 4, 2) := by decide +kernel
theorem dX0_after_23 : decode cX0_after 23 = .ok (.lload 4, 2) := by decide +kernel
theorem dX0_after_25 : decode cX0_after 25 = .ok (.ldc2_w 40, 3) := by decide +kernel
theorem dX0_after_28 : decode cX0_after 28 = .ok (.aload_n 0, 1) := by decide +kernel
theorem dX0_after_29 : decode cX0_after 29 = .ok (.iload_n 3, 1) := by decide +kernel
theorem dX0_after_30 : decode cX0_after 30 = .ok (.invokevirtual 42, 3) := by decide +kernel
theorem dX0_after_33 : decode cX0_after 33 = .ok (.ldiv, 1) := by decide +kernel
theorem dX0_after_34 : decode cX0_after 34 = .ok (.lcmp, 1) := by decide +kernel
theorem dX0_after_35 : decode cX0_after 35 = .ok (.ifCond .le 9, 3) := by decide +kernel
theorem dX0_after_38 : decode cX0_after 38 = .ok (.ldc2_w 45, 3) := by decide +kernel
theorem dX0_after_41 : decode cX0_after 41 = .ok (.goto 11, 3) := by decide +kernel
theorem dX0_after_44 : decode cX0_after 44 = .ok (.lload 4, 2) := by decide +kernel
theorem dX0_after_46 : decode cX0_after 46 = .ok (.aload_n 0, 1) := by decide +kernel
theorem dX0_after_47 : decode cX0_after 47 = .ok (.iload_n 3, 1) := by decide +kernel
theorem dX0_after_48 : decode cX0_after 48 = .ok (.invokevirtual 42, 3) := by decide +kernel
theorem dX0_after_51 : decode cX0_after 51 = .ok (.lmul, 1) := by decide +kernel
theorem dX0_after_52 : decode cX0_after 52 = .ok (.lreturn, 1) := by decide +kernel
set_option maxRecDepth 20000 in
theorem ggX0_isEverFirst_X0_under : GoodIn wsX0_isEverFirst wsX0_under := goodIn_r _ [5, 6, 7, 8, 9, 4, 10, 11, 16, 17, 18] (by decide +kernel) (by decide +kernel)
set_option maxRecDepth 20000 in
theorem gX0_isEverFirst_X0_under : GoodIn wsX0_isEverFirst (wsV RX0 30 RX0 yX0_under wsX0_under) := goodIn_app (goodIn_of _ (by decide +kernel)) ggX0_isEverFirst_X0_under
set_option maxRecDepth 20000 in
theorem ggX0_isEverFirst_X0_firstFit : GoodIn wsX0_isEverFirst wsX0_firstFit := goodIn_ca (goodIn_r _ [15, 11, 1, 2, 3, 4, 5, 6, 7, 8, 9, 10, 16, 17, 18] (by decide +kernel) (by decide +kernel)) (goodIn_sub (fun _ h => List.mem_cons_of_mem _ (List.mem_append_right _ h)) (by decide +kernel))
set_option maxRecDepth 20000 in
theorem gX0_isEverFirst_X0_firstFit : GoodIn wsX0_isEverFirst (wsV RX0 34 RX0 yX0_firstFit wsX0_firstFit) := goodIn_app (goodIn_of _ (by decide +kernel)) ggX0_isEverFirst_X0_firstFit
theorem dX0_isEverFirst_0 : decode cX0_isEverFirst 0 = .ok (.aload_n 0, 1) := by decide +kernel
theorem dX0_isEverFirst_1 : decode cX0_isEverFirst 1 = .ok (.aload_n 0, 1) := by decide +kernel
theorem dX0_isEverFirst_2 : decode cX0_isEverFirst 2 = .ok (.iload_n 1, 1) := by decide +kernel
theorem dX0_isEverFirst_3 : decode cX0_isEverFirst 3 = .ok (.invokevirtual 30, 3) := by decide +kernel
theorem dX0_isEverFirst_6 : decode cX0_isEverFirst 6 = .ok (.invokevirtual 34, 3) := by decide +kernel
theorem dX0_isEverFirst_9 : decode cX0_isEverFirst 9 = .ok (.iload_n 1, 1) := by decide +kernel
theorem dX0_isEverFirst_10 : decode cX0_isEverFirst 10 = .ok (.if_icmp .ne 7, 3) := by decide +kernel
theorem dX0_isEverFirst_13 : decode cX0_isEverFirst 13 = .ok (.iconst 1, 1) := by decide +kernel
theorem dX0_isEverFirst_14 : decode cX0_isEverFirst 14 = .ok (.goto 4, 3) := by decide +kernel
theorem dX0_isEverFirst_17 : decode cX0_isEverFirst 17 = .ok (.iconst 0, 1) := by decide +kernel
theorem dX0_isEverFirst_18 : decode cX0_isEverFirst 18 = .ok (.ireturn, 1) := by decide +kernel
set_option maxRecDepth 20000 in
theorem ggX1_init_X2_init : GoodIn wsX1_init wsX2_init := goodIn_r _ [15, 16, 2, 3, 17, 18, 19, 20, 21, 22, 23, 24, 25] (by decide +kernel) (by decide +kernel)
set_option maxRecDepth 20000 in
theorem gX1_init_X2_init : GoodIn wsX1_init (wsX2_init) := ggX1_init_X2_init
theorem dX1_init_0 : decode cX1_init 0 = .ok (.aload_n 0, 1) := by decide +kernel
theorem dX1_init_1 : decode cX1_init 1 = .ok (.invokespecial 3, 3) := by decide +kernel
theorem dX1_init_4 : decode cX1_init 4 = .ok (.aload_n 0, 1) := by decide +kernel
theorem dX1_init_5 : decode cX1_init 5 = .ok (.new 9, 3) := by decide +kernel
theorem dX1_init_8 : decode cX1_init 8 = .ok (.dup, 1) := by decide +kernel
theorem dX1_init_9 : decode cX1_init 9 = .ok (.bipush 12, 2) := by decide +kernel
theorem dX1_init_11 : decode cX1_init 11 = .ok (.invokespecial 11, 3) := by decide +kernel
theorem dX1_init_14 : decode cX1_init 14 = .ok (.putfield 14, 3) := by decide +kernel
theorem dX1_init_17 : decode cX1_init 17 = .ok (.aload_n 0, 1) := by decide +kernel
theorem dX1_init_18 : decode cX1_init 18 = .ok (.new 9, 3) := by decide +kernel
theorem dX1_init_21 : decode cX1_init 21 = .ok (.dup, 1) := by decide +kernel
theorem dX1_init_22 : decode cX1_init 22 = .ok (.bipush 12, 2) := by decide +kernel
theorem dX1_init_24 : decode cX1_init 24 = .ok (.invokespecial 11, 3) := by decide +kernel
theorem dX1_init_27 : decode cX1_init 27 = .ok (.putfield 20, 3) := by decide +kernel
theorem dX1_init_30 : decode cX1_init 30 = .ok (.aload_n 0, 1) := by decide +kernel
theorem dX1_init_31 : decode cX1_init 31 = .ok (.new 9, 3) := by decide +kernel
theorem dX1_init_34 : decode cX1_init 34 = .ok (.dup, 1) := by decide +kernel
theorem dX1_init_35 : decode cX1_init 35 = .ok (.bipush 12, 2) := by decide +kernel
theorem dX1_init_37 : decode cX1_init 37 = .ok (.invokespecial 11, 3) := by decide +kernel
theorem dX1_init_40 : decode cX1_init 40 = .ok (.putfield 23, 3) := by decide +kernel
theorem dX1_init_43 : decode cX1_init 43 = .ok (.aload_n 0, 1) := by decide +kernel
theorem dX1_init_44 : decode cX1_init 44 = .ok (.new 9, 3) := by decide +kernel
theorem dX1_init_47 : decode cX1_init 47 = .ok (.dup, 1) := by decide +kernel
theorem dX1_init_48 : decode cX1_init 48 = .ok (.bipush 12, 2) := by decide +kernel
theorem dX1_init_50 : decode cX1_init 50 = .ok (.invokespecial 11, 3) := by decide +kernel
theorem dX1_init_53 : decode cX1_init 53 = .ok (.putfield 26, 3) := by decide +kernel
theorem dX1_init_56 : decode cX1_init 56 = .ok (.aload_n 0, 1) := by decide +kernel
theorem dX1_init_57 : decode cX1_init 57 = .ok (.new 9, 3) := by decide +kernel
theorem dX1_init_60 : decode cX1_init 60 = .ok (.dup, 1) := by decide +kernel
theorem dX1_init_61 : decode cX1_init 61 = .ok (.iconst 4, 1) := by decide +kernel
theorem dX1_init_62 : decode cX1_init 62 = .ok (.invokespecial 11, 3) := by decide +kernel
theorem dX1_init_65 : decode cX1_init 65 = .ok (.putfield 29, 3) := by decide +kernel
theorem dX1_init_68 : decode cX1_init 68 = .ok (.aload_n 0, 1) := by decide +kernel
theorem dX1_init_69 : decode cX1_init 69 = .ok (.iconst 0, 1) := by decide +kernel
theorem dX1_init_70 : decode cX1_init 70 = .ok (.putfield 32, 3) := by decide +kernel
theorem dX1_init_73 : decode cX1_init 73 = .ok (.return_, 1) := by decide +kernel
set_option maxRecDepth 20000 in
theorem ggX1_size_X2_size : GoodIn wsX1_size wsX2_size := goodIn_r _ [6, 7, 14, 15] (by decide +kernel) (by decide +kernel)
set_option maxRecDepth 20000 in
theorem gX1_size_X2_size : GoodIn wsX1_size (wsV RX1 36 RX2 yX2_size wsX2_size) := goodIn_app (goodIn_of _ (by decide +kernel)) ggX1_size_X2_size
theorem dX1_size_0 : decode cX1_size 0 = .ok (.aload_n 0, 1) := by decide +kernel
theorem dX1_size_1 : decode cX1_size 1 = .ok (.getfield 14, 3) := by decide +kernel
theorem dX1_size_4 : decode cX1_size 4 = .ok (.invokevirtual 36, 3) := by decide +kernel
theorem dX1_size_7 : decode cX1_size 7 = .ok (.ireturn, 1) := by decide +kernel
set_option maxRecDepth 20000 in
theorem ggX1_empty_X2_empty : GoodIn wsX1_empty wsX2_empty := goodIn_r _ [9, 10, 17, 18] (by decide +kernel) (by decide +kernel)
set_option maxRecDepth 20000 in
theorem gX1_empty_X2_empty : GoodIn wsX1_empty (wsV RX1 40 RX2 yX2_empty wsX2_empty) := goodIn_app (goodIn_of _ (by decide +kernel)) ggX1_empty_X2_empty
theorem dX1_empty_0 : decode cX1_empty 0 = .ok (.aload_n 0, 1) := by decide +kernel
theorem dX1_empty_1 : decode cX1_empty 1 = .ok (.getfield 14, 3) := by decide +kernel
theorem dX1_empty_4 : decode cX1_empty 4 = .ok (.invokevirtual 40, 3) := by decide +kernel
theorem dX1_empty_7 : decode cX1_empty 7 = .ok (.aload_n 0, 1) := by decide +kernel
theorem dX1_empty_8 : decode cX1_empty 8 = .ok (.getfield 20, 3) := by decide +kernel
theorem dX1_empty_11 : decode cX1_empty 11 = .ok (.invokevirtual 40, 3) := by decide +kernel
theorem dX1_empty_14 : decode cX1_empty 14 = .ok (.aload_n 0, 1) := by decide +kernel
theorem dX1_empty_15 : decode cX1_empty 15 = .ok (.getfield 23, 3) := by decide +kernel
theorem dX1_empty_18 : decode cX1_empty 18 = .ok (.invokevirtual 40, 3) := by decide +kernel
theorem dX1_empty_21 : decode cX1_empty 21 = .ok (.aload_n 0, 1) := by decide +kernel
theorem dX1_empty_22 : decode cX1_empty 22 = .ok (.getfield 26, 3) := by decide +kernel
theorem dX1_empty_25 : decode cX1_empty 25 = .ok (.invokevirtual 40, 3) := by decide +kernel
theorem dX1_empty_28 : decode cX1_empty 28 = .ok (.return_, 1) := by decide +kernel
set_option maxRecDepth 20000 in
theorem ggX1_add_X2_add : GoodIn wsX1_add wsX2_add := goodIn_r _ [9, 10, 11, 18, 19] (by decide +kernel) (by decide +kernel)
set_option maxRecDepth 20000 in
theorem gX1_add_X2_add : GoodIn wsX1_add (wsV RX1 43 RX2 yX2_add wsX2_add) := goodIn_app (goodIn_of _ (by decide +kernel)) ggX1_add_X2_add
theorem dX1_add_0 : decode cX1_add 0 = .ok (.aload_n 0, 1) := by decide +kernel
theorem dX1_add_1 : decode cX1_add 1 = .ok (.getfield 14, 3) := by decide +kernel
theorem dX1_add_4 : decode cX1_add 4 = .ok (.iload_n 1, 1) := by decide +kernel
theorem dX1_add_5 : decode cX1_add 5 = .ok (.i2l, 1) := by decide +kernel
theorem dX1_add_6 : decode cX1_add 6 = .ok (.invokevirtual 43, 3) := by decide +kernel
theorem dX1_add_9 : decode cX1_add 9 = .ok (.ifCond .eq 44, 3) := by decide +kernel
theorem dX1_add_12 : decode cX1_add 12 = .ok (.aload_n 0, 1) := by decide +kernel
theorem dX1_add_13 : decode cX1_add 13 = .ok (.getfield 20, 3) := by decide +kernel
theorem dX1_add_16 : decode cX1_add 16 = .ok (.iload_n 2, 1) := by decide +kernel
theorem dX1_add_17 : decode cX1_add 17 = .ok (.i2l, 1) := by decide +kernel
theorem dX1_add_18 : decode cX1_add 18 = .ok (.invokevirtual 43, 3) := by decide +kernel
theorem dX1_add_21 : decode cX1_add 21 = .ok (.ifCond .eq 32, 3) := by decide +kernel
theorem dX1_add_24 : decode cX1_add 24 = .ok (.aload_n 0, 1) := by decide +kernel
theorem dX1_add_25 : decode cX1_add 25 = .ok (.getfield 23, 3) := by decide +kernel
theorem dX1_add_28 : decode cX1_add 28 = .ok (.iload_n 3, 1) := by decide +kernel
theorem dX1_add_29 : decode cX1_add 29 = .ok (.i2l, 1) := by decide +kernel
theorem dX1_add_30 : decode cX1_add 30 = .ok (.invokevirtual 43, 3) := by decide +kernel
theorem dX1_add_33 : decode cX1_add 33 = .ok (.ifCond .eq 20, 3) := by decide +kernel
theorem dX1_add_36 : decode cX1_add 36 = .ok (.aload_n 0, 1) := by decide +kernel
theorem dX1_add_37 : decode cX1_add 37 = .ok (.getfield 26, 3) := by decide +kernel
theorem dX1_add_40 : decode cX1_add 40 = .ok (.iload 4, 2) := by decide +kernel
theorem dX1_add_42 : decode cX1_add 42 = .ok (.i2l, 1) := by decide +kernel
theorem dX1_add_43 : decode cX1_add 43 = .ok (.invokevirtual 43, 3) := by decide +kernel
theorem dX1_add_46 : decode cX1_add 46 = .ok (.ifCond .eq 7, 3) := by decide +kernel
theorem dX1_add_49 : decode cX1_add 49 = .ok (.iconst 1, 1) := by decide +kernel
theorem dX1_add_50 : decode cX1_add 50 = .ok (.goto 4, 3) := by decide +kernel
theorem dX1_add_53 : decode cX1_add 53 = .ok (.iconst 0, 1) := by decide +kernel
theorem dX1_add_54 : decode cX1_add 54 = .ok (.ireturn, 1) := by decide +kernel
set_option maxRecDepth 20000 in
theorem ggX1_kind_X2_at : GoodIn wsX1_kind wsX2_at := goodIn_r _ [6, 7, 8, 9, 10, 5, 11, 12, 19, 20] (by decide +kernel) (by decide +kernel)
set_option maxRecDepth 20000 in
theorem gX1_kind_X2_at : GoodIn wsX1_kind (wsV RX1 47 RX2 yX2_at wsX2_at) := goodIn_app (goodIn_of _ (by decide +kernel)) ggX1_kind_X2_at
theorem dX1_kind_0 : decode cX1_kind 0 = .ok (.aload_n 0, 1) := by decide +kernel
theorem dX1_kind_1 : decode cX1_kind 1 = .ok (.getfield 14, 3) := by decide +kernel
theorem dX1_kind_4 : decode cX1_kind 4 = .ok (.iload_n 1, 1) := by decide +kernel
theorem dX1_kind_5 : decode cX1_kind 5 = .ok (.invokevirtual 47, 3) := by decide +kernel
theorem dX1_kind_8 : decode cX1_kind 8 = .ok (.l2i, 1) := by decide +kernel
theorem dX1_kind_9 : decode cX1_kind 9 = .ok (.ireturn, 1) := by decide +kernel
set_option maxRecDepth 20000 in
theorem ggX1_heap_X2_at : GoodIn wsX1_heap wsX2_at := goodIn_r _ [6, 7, 8, 9, 10, 5, 11, 12, 19, 20] (by decide +kernel) (by decide +kernel)
set_option maxRecDepth 20000 in
theorem gX1_heap_X2_at : GoodIn wsX1_heap (wsV RX1 47 RX2 yX2_at wsX2_at) := goodIn_app (goodIn_of _ (by decide +kernel)) ggX1_heap_X2_at
theorem dX1_heap_0 : decode cX1_heap 0 = .ok (.aload_n 0, 1) := by decide +kernel
theorem dX1_heap_1 : decode cX1_heap 1 = .ok (.getfield 20, 3) := by decide +kernel
theorem dX1_heap_4 : decode cX1_heap 4 = .ok (.iload_n 1, 1) := by decide +kernel
theorem dX1_heap_5 : decode cX1_heap 5 = .ok (.invokevirtual 47, 3) := by decide +kernel
theorem dX1_heap_8 : decode cX1_heap 8 = .ok (.l2i, 1) := by decide +kernel
theorem dX1_heap_9 : decode cX1_heap 9 = .ok (.ireturn, 1) := by decide +kernel
set_option maxRecDepth 20000 in
theorem ggX1_next_X2_at : GoodIn wsX1_next wsX2_at := goodIn_r _ [6, 7, 8, 9, 10, 5, 11, 12, 19, 20] (by decide +kernel) (by decide +kernel)
set_option maxRecDepth 20000 in
theorem gX1_next_X2_at : GoodIn wsX1_next (wsV RX1 47 RX2 yX2_at wsX2_at) := goodIn_app (goodIn_of _ (by decide +kernel)) ggX1_next_X2_at
theorem dX1_next_0 : decode cX1_next 0 = .ok (.aload_n 0, 1) := by decide +kernel
theorem dX1_next_1 : decode cX1_next 1 = .ok (.getfield 23, 3) := by decide +kernel
theorem dX1_next_4 : decode cX1_next 4 = .ok (.iload_n 1, 1) := by decide +kernel
theorem dX1_next_5 : decode cX1_next 5 = .ok (.invokevirtual 47, 3) := by decide +kernel
theorem dX1_next_8 : decode cX1_next 8 = .ok (.l2i, 1) := by decide +kernel
theorem dX1_next_9 : decode cX1_next 9 = .ok (.ireturn, 1) := by decide +kernel
set_option maxRecDepth 20000 in
theorem ggX1_otherwise_X2_at : GoodIn wsX1_otherwise wsX2_at := goodIn_r _ [6, 7, 8, 9, 10, 5, 11, 12, 19, 20] (by decide +kernel) (by decide +kernel)
set_option maxRecDepth 20000 in
theorem gX1_otherwise_X2_at : GoodIn wsX1_otherwise (wsV RX1 47 RX2 yX2_at wsX2_at) := goodIn_app (goodIn_of _ (by decide +kernel)) ggX1_otherwise_X2_at
theorem dX1_otherwise_0 : decode cX1_otherwise 0 = .ok (.aload_n 0, 1) := by decide +kernel
theorem dX1_otherwise_1 : decode cX1_otherwise 1 = .ok (.getfield 26, 3) := by decide +kernel
theorem dX1_otherwise_4 : decode cX1_otherwise 4 = .ok (.iload_n 1, 1) := by decide +kernel
theorem dX1_otherwise_5 : decode cX1_otherwise 5 = .ok (.invokevirtual 47, 3) := by decide +kernel
theorem dX1_otherwise_8 : decode cX1_otherwise 8 = .ok (.l2i, 1) := by decide +kernel
theorem dX1_otherwise_9 : decode cX1_otherwise 9 = .ok (.ireturn, 1) := by decide +kernel
set_option maxRecDepth 20000 in
theorem ggX1_fill_X2_empty : GoodIn wsX1_fill wsX2_empty := goodIn_r _ [6, 7, 19, 20] (by decide +kernel) (by decide +kernel)
set_option maxRecDepth 20000 in
theorem gX1_fill_X2_empty : GoodIn wsX1_fill (wsV RX1 40 RX2 yX2_empty wsX2_empty) := goodIn_app (goodIn_of _ (by decide +kernel)) ggX1_fill_X2_empty
set_option maxRecDepth 20000 in
theorem ggX1_fill_X2_add : GoodIn wsX1_fill wsX2_add := goodIn_r _ [11, 7, 12, 19, 20] (by decide +kernel) (by decide +kernel)
set_option maxRecDepth 20000 in
theorem gX1_fill_X2_add : GoodIn wsX1_fill (wsV RX1 43 RX2 yX2_add wsX2_add) := goodIn_app (goodIn_of _ (by decide +kernel)) ggX1_fill_X2_add
theorem dX1_fill_0 : decode cX1_fill 0 = .ok (.aload_n 0, 1) := by decide +kernel
theorem dX1_fill_1 : decode cX1_fill 1 = .ok (.getfield 29, 3) := by decide +kernel
theorem dX1_fill_4 : decode cX1_fill 4 = .ok (.invokevirtual 40, 3) := by decide +kernel
theorem dX1_fill_7 : decode cX1_fill 7 = .ok (.aload_n 0, 1) := by decide +kernel
theorem dX1_fill_8 : decode cX1_fill 8 = .ok (.getfield 29, 3) := by decide +kernel
theorem dX1_fill_11 : decode cX1_fill 11 = .ok (.iload_n 1, 1) := by decide +kernel
theorem dX1_fill_12 : decode cX1_fill 12 = .ok (.i2l, 1) := by decide +kernel
theorem dX1_fill_13 : decode cX1_fill 13 = .ok (.invokevirtual 43, 3) := by decide +kernel
theorem dX1_fill_16 : decode cX1_fill 16 = .ok (.pop, 1) := by decide +kernel
theorem dX1_fill_17 : decode cX1_fill 17 = .ok (.aload_n 0, 1) := by decide +kernel
theorem dX1_fill_18 : decode cX1_fill 18 = .ok (.getfield 29, 3) := by decide +kernel
theorem dX1_fill_21 : decode cX1_fill 21 = .ok (.iload_n 2, 1) := by decide +kernel
theorem dX1_fill_22 : decode cX1_fill 22 = .ok (.i2l, 1) := by decide +kernel
theorem dX1_fill_23 : decode cX1_fill 23 = .ok (.invokevirtual 43, 3) := by decide +kernel
theorem dX1_fill_26 : decode cX1_fill 26 = .ok (.pop, 1) := by decide +kernel
theorem dX1_fill_27 : decode cX1_fill 27 = .ok (.aload_n 0, 1) := by decide +kernel
theorem dX1_fill_28 : decode cX1_fill 28 = .ok (.getfield 29, 3) := by decide +kernel
theorem dX1_fill_31 : decode cX1_fill 31 = .ok (.iload_n 3, 1) := by decide +kernel
theorem dX1_fill_32 : decode cX1_fill 32 = .ok (.i2l, 1) := by decide +kernel
theorem dX1_fill_33 : decode cX1_fill 33 = .ok (.invokevirtual 43, 3) := by decide +kernel
theorem dX1_fill_36 : decode cX1_fill 36 = .ok (.pop, 1) := by decide +kernel
theorem dX1_fill_37 : decode cX1_fill 37 = .ok (.aload_n 0, 1) := by decide +kernel
theorem dX1_fill_38 : decode cX1_fill 38 = .ok (.getfield 29, 3) := by decide +kernel
theorem dX1_fill_41 : decode cX1_fill 41 = .ok (.iload 4, 2) := by decide +kernel
theorem dX1_fill_43 : decode cX1_fill 43 = .ok (.i2l, 1) := by decide +kernel
theorem dX1_fill_44 : decode cX1_fill 44 = .ok (.invokevirtual 43, 3) := by decide +kernel
theorem dX1_fill_47 : decode cX1_fill 47 = .ok (.pop, 1) := by decide +kernel
theorem dX1_fill_48 : decode cX1_fill 48 = .ok (.return_, 1) := by decide +kernel
set_option maxRecDepth 20000 in
theorem ggX1_inHeap_X2_at : GoodIn wsX1_inHeap wsX2_at := goodIn_r _ [6, 7, 8, 9, 10, 5, 11, 12, 19, 20] (by decide +kernel) (by decide +kernel)
set_option maxRecDepth 20000 in
theorem gX1_inHeap_X2_at : GoodIn wsX1_inHeap (wsV RX1 47 RX2 yX2_at wsX2_at) := goodIn_app (goodIn_of _ (by decide +kernel)) ggX1_inHeap_X2_at
theorem dX1_inHeap_0 : decode cX1_inHeap 0 = .ok (.aload_n 0, 1) := by decide +kernel
theorem dX1_inHeap_1 : decode cX1_inHeap 1 = .ok (.getfield 29, 3) := by decide +kernel
theorem dX1_inHeap_4 : decode cX1_inHeap 4 = .ok (.iload_n 1, 1) := by decide +kernel
theorem dX1_inHeap_5 : decode cX1_inHeap 5 = .ok (.invokevirtual 47, 3) := by decide +kernel
theorem dX1_inHeap_8 : decode cX1_inHeap 8 = .ok (.lreturn, 1) := by decide +kernel
theorem dX1_done_0 : decode cX1_done 0 = .ok (.aload_n 0, 1) := by decide +kernel
theorem dX1_done_1 : decode cX1_done 1 = .ok (.getfield 32, 3) := by decide +kernel
theorem dX1_done_4 : decode cX1_done 4 = .ok (.ireturn, 1) := by decide +kernel
set_option maxRecDepth 20000 in
theorem ggX1_work_X1_size : GoodIn wsX1_work wsX1_size := goodIn_r _ [6, 7, 8, 9, 10, 11, 12, 13, 51, 52, 53, 54, 55, 56, 57, 58] (by decide +kernel) (by decide +kernel)
set_option maxRecDepth 20000 in
theorem gX1_work_X1_size : GoodIn wsX1_work (wsV RX1 51 RX1 yX1_size wsX1_size) := goodIn_app (goodIn_of _ (by decide +kernel)) ggX1_work_X1_size
set_option maxRecDepth 20000 in
theorem ggX1_work_X1_kind : GoodIn wsX1_work wsX1_kind := goodIn_r _ [17, 7, 18, 19, 20, 11, 21, 22, 23, 24, 25, 26, 13, 51, 52, 53, 54, 55, 56, 57, 58] (by decide +kernel) (by decide +kernel)
set_option maxRecDepth 20000 in
theorem gX1_work_X1_kind : GoodIn wsX1_work (wsV RX1 52 RX1 yX1_kind wsX1_kind) := goodIn_app (goodIn_of _ (by decide +kernel)) ggX1_work_X1_kind
set_option maxRecDepth 20000 in
theorem ggX1_work_X1_follow : GoodIn wsX1_work wsX1_follow := goodIn_r _ [30, 31, 32, 33, 34, 5, 35, 36, 18, 19, 20, 11, 21, 22, 23, 24, 25, 26, 13, 14, 15, 16, 17, 7, 37, 38, 39, 40, 41, 42, 43, 44, 45, 46, 47, 48, 49, 50, 51, 52, 53, 54, 55, 56, 57, 58] (by decide +kernel) (by decide +kernel)
set_option maxRecDepth 20000 in
theorem gX1_work_X1_follow : GoodIn wsX1_work (wsV RX1 56 RX1 yX1_follow wsX1_follow) := goodIn_app (goodIn_of _ (by decide +kernel)) ggX1_work_X1_follow
theorem dX1_work_0 : decode cX1_work 0 = .ok (.iconst 0, 1) := by decide +kernel
theorem dX1_work_1 : decode cX1_work 1 = .ok (.istore_n 2, 1) := by decide +kernel
theorem dX1_work_2 : decode cX1_work 2 = .ok (.aload_n 0, 1) := by decide +kernel
theorem dX1_work_3 : decode cX1_work 3 = .ok (.iconst 0, 1) := by decide +kernel
theorem dX1_work_4 : decode cX1_work 4 = .ok (.putfield 32, 3) := by decide +kernel
theorem dX1_work_7 : decode cX1_work 7 = .ok (.aload_n 0, 1) := by decide +kernel
theorem dX1_work_8 : decode cX1_work 8 = .ok (.getfield 32, 3) := by decide +kernel
theorem dX1_work_11 : decode cX1_work 11 = .ok (.iload_n 1, 1) := by decide +kernel
theorem dX1_work_12 : decode cX1_work 12 = .ok (.if_icmp .ge 41, 3) := by decide +kernel
theorem dX1_work_15 : decode cX1_work 15 = .ok (.iload_n 2, 1) := by decide +kernel
theorem dX1_work_16 : decode cX1_work 16 = .ok (.aload_n 0, 1) := by decide +kernel
theorem dX1_work_17 : decode cX1_work 17 = .ok (.invokevirtual 51, 3) := by decide +kernel
theorem dX1_work_20 : decode cX1_work 20 = .ok (.if_icmp .ge 33, 3) := by decide +kernel
theorem dX1_work_23 : decode cX1_work 23 = .ok (.aload_n 0, 1) := by decide +kernel
theorem dX1_work_24 : decode cX1_work 24 = .ok (.dup, 1) := by decide +kernel
theorem dX1_work_25 : decode cX1_work 25 = .ok (.getfield 32, 3) := by decide +kernel
theorem dX1_work_28 : decode cX1_work 28 = .ok (.iconst 1, 1) := by decide +kernel
theorem dX1_work_29 : decode cX1_work 29 = .ok (.iadd, 1) := by decide +kernel
theorem dX1_work_30 : decode cX1_work 30 = .ok (.putfield 32, 3) := by decide +kernel
theorem dX1_work_33 : decode cX1_work 33 = .ok (.aload_n 0, 1) := by decide +kernel
theorem dX1_work_34 : decode cX1_work 34 = .ok (.iload_n 2, 1) := by decide +kernel
theorem dX1_work_35 : decode cX1_work 35 = .ok (.invokevirtual 52, 3) := by decide +kernel
theorem dX1_work_38 : decode cX1_work 38 = .ok (.iconst 2, 1) := by decide +kernel
theorem dX1_work_39 : decode cX1_work 39 = .ok (.if_icmp .ne 5, 3) := by decide +kernel
theorem dX1_work_42 : decode cX1_work 42 = .ok (.iconst 1, 1) := by decide +kernel
theorem dX1_work_43 : decode cX1_work 43 = .ok (.ireturn, 1) := by decide +kernel
theorem dX1_work_44 : decode cX1_work 44 = .ok (.aload_n 0, 1) := by decide +kernel
theorem dX1_work_45 : decode cX1_work 45 = .ok (.iload_n 2, 1) := by decide +kernel
theorem dX1_work_46 : decode cX1_work 46 = .ok (.invokevirtual 56, 3) := by decide +kernel
theorem dX1_work_49 : decode cX1_work 49 = .ok (.istore_n 2, 1) := by decide +kernel
theorem dX1_work_50 : decode cX1_work 50 = .ok (.goto (-43), 3) := by decide +kernel
theorem dX1_work_53 : decode cX1_work 53 = .ok (.iload_n 2, 1) := by decide +kernel
theorem dX1_work_54 : decode cX1_work 54 = .ok (.aload_n 0, 1) := by decide +kernel
theorem dX1_work_55 : decode cX1_work 55 = .ok (.invokevirtual 51, 3) := by decide +kernel
theorem dX1_work_58 : decode cX1_work 58 = .ok (.if_icmp .ge 8, 3) := by decide +kernel
theorem dX1_work_61 : decode cX1_work 61 = .ok (.bipush (-2), 2) := by decide +kernel
theorem dX1_work_63 : decode cX1_work 63 = .ok (.goto 4, 3) := by decide +kernel
theorem dX1_work_66 : decode cX1_work 66 = .ok (.iconst 0, 1) := by decide +kernel
theorem dX1_work_67 : decode cX1_work 67 = .ok (.ireturn, 1) := by decide +kernel
set_option maxRecDepth 20000 in
theorem ggX1_follow_X1_heap : GoodIn wsX1_follow wsX1_heap := goodIn_r _ [6, 7, 8, 9, 10, 11, 12, 13, 14, 15, 16, 17, 18, 38, 39, 40, 41, 42, 43, 44, 45] (by decide +kernel) (by decide +kernel)
set_option maxRecDepth 20000 in
theorem gX1_follow_X1_heap : GoodIn wsX1_follow (wsV RX1 59 RX1 yX1_heap wsX1_heap) := goodIn_app (goodIn_of _ (by decide +kernel)) ggX1_follow_X1_heap
set_option maxRecDepth 20000 in
theorem ggX1_follow_X1_kind : GoodIn wsX1_follow wsX1_kind := goodIn_r _ [22, 23, 8, 9, 10, 11, 12, 13, 14, 15, 16, 17, 18, 38, 39, 40, 41, 42, 43, 44, 45] (by decide +kernel) (by decide +kernel)
set_option maxRecDepth 20000 in
theorem gX1_follow_X1_kind : GoodIn wsX1_follow (wsV RX1 52 RX1 yX1_kind wsX1_kind) := goodIn_app (goodIn_of _ (by decide +kernel)) ggX1_follow_X1_kind
set_option maxRecDepth 20000 in
theorem ggX1_follow_X2_at : GoodIn wsX1_follow wsX2_at := goodIn_r _ [12, 13, 14, 15, 16, 11, 17, 18, 44, 45] (by decide +kernel) (by decide +kernel)
set_option maxRecDepth 20000 in
theorem gX1_follow_X2_at : GoodIn wsX1_follow (wsV RX1 47 RX2 yX2_at wsX2_at) := goodIn_app (goodIn_of _ (by decide +kernel)) ggX1_follow_X2_at
set_option maxRecDepth 20000 in
theorem ggX1_follow_X2_put : GoodIn wsX1_follow wsX2_put := goodIn_r _ [27, 13, 14, 15, 16, 11, 17, 18, 44, 45] (by decide +kernel) (by decide +kernel)
set_option maxRecDepth 20000 in
theorem gX1_follow_X2_put : GoodIn wsX1_follow (wsV RX1 62 RX2 yX2_put wsX2_put) := goodIn_app (goodIn_of _ (by decide +kernel)) ggX1_follow_X2_put
set_option maxRecDepth 20000 in
theorem ggX1_follow_X1_next : GoodIn wsX1_follow wsX1_next := goodIn_r _ [31, 32, 8, 9, 10, 11, 12, 13, 14, 15, 16, 17, 18, 38, 39, 40, 41, 42, 43, 44, 45] (by decide +kernel) (by decide +kernel)
set_option maxRecDepth 20000 in
theorem gX1_follow_X1_next : GoodIn wsX1_follow (wsV RX1 66 RX1 yX1_next wsX1_next) := goodIn_app (goodIn_of _ (by decide +kernel)) ggX1_follow_X1_next
set_option maxRecDepth 20000 in
theorem ggX1_follow_X1_otherwise : GoodIn wsX1_follow wsX1_otherwise := goodIn_r _ [36, 37, 8, 9, 10, 11, 12, 13, 14, 15, 16, 17, 18, 38, 39, 40, 41, 42, 43, 44, 45] (by decide +kernel) (by decide +kernel)
set_option maxRecDepth 20000 in
theorem gX1_follow_X1_otherwise : GoodIn wsX1_follow (wsV RX1 69 RX1 yX1_otherwise wsX1_otherwise) := goodIn_app (goodIn_of _ (by decide +kernel)) ggX1_follow_X1_otherwise
theorem dX1_follow_0 : decode cX1_follow 0 = .ok (.aload_n 0, 1) := by decide +kernel
theorem dX1_follow_1 : decode cX1_follow 1 = .ok (.iload_n 1, 1) := by decide +kernel
theorem dX1_follow_2 : decode cX1_follow 2 = .ok (.invokevirtual 59, 3) := by decide +kernel
theorem dX1_follow_5 : decode cX1_follow 5 = .ok (.istore_n 2, 1) := by decide +kernel
theorem dX1_follow_6 : decode cX1_follow 6 = .ok (.aload_n 0, 1) := by decide +kernel
theorem dX1_follow_7 : decode cX1_follow 7 = .ok (.iload_n 1, 1) := by decide +kernel
theorem dX1_follow_8 : decode cX1_follow 8 = .ok (.invokevirtual 52, 3) := by decide +kernel
theorem dX1_follow_11 : decode cX1_follow 11 = .ok (.ifCond .ne 27, 3) := by decide +kernel
theorem dX1_follow_14 : decode cX1_follow 14 = .ok (.aload_n 0, 1) := by decide +kernel
theorem dX1_follow_15 : decode cX1_follow 15 = .ok (.getfield 29, 3) := by decide +kernel
theorem dX1_follow_18 : decode cX1_follow 18 = .ok (.iload_n 2, 1) := by decide +kernel
theorem dX1_follow_19 : decode cX1_follow 19 = .ok (.aload_n 0, 1) := by decide +kernel
theorem dX1_follow_20 : decode cX1_follow 20 = .ok (.getfield 29, 3) := by decide +kernel
theorem dX1_follow_23 : decode cX1_follow 23 = .ok (.iload_n 2, 1) := by decide +kernel
theorem dX1_follow_24 : decode cX1_follow 24 = .ok (.invokevirtual 47, 3) := by decide +kernel
theorem dX1_follow_27 : decode cX1_follow 27 = .ok (.lconst 1, 1) := by decide +kernel
theorem dX1_follow_28 : decode cX1_follow 28 = .ok (.ladd, 1) := by decide +kernel
theorem dX1_follow_29 : decode cX1_follow 29 = .ok (.invokevirtual 62, 3) := by decide +kernel
theorem dX1_follow_32 : decode cX1_follow 32 = .ok (.aload_n 0, 1) := by decide +kernel
theorem dX1_follow_33 : decode cX1_follow 33 = .ok (.iload_n 1, 1) := by decide +kernel
theorem dX1_follow_34 : decode cX1_follow 34 = .ok (.invokevirtual 66, 3) := by decide +kernel
theorem dX1_follow_37 : decode cX1_follow 37 = .ok (.ireturn, 1) := by decide +kernel
theorem dX1_follow_38 : decode cX1_follow 38 = .ok (.aload_n 0, 1) := by decide +kernel
theorem dX1_follow_39 : decode cX1_follow 39 = .ok (.getfield 29, 3) := by decide +kernel
theorem dX1_follow_42 : decode cX1_follow 42 = .ok (.iload_n 2, 1) := by decide +kernel
theorem dX1_follow_43 : decode cX1_follow 43 = .ok (.invokevirtual 47, 3) := by decide +kernel
theorem dX1_follow_46 : decode cX1_follow 46 = .ok (.lconst 0, 1) := by decide +kernel
theorem dX1_follow_47 : decode cX1_follow 47 = .ok (.lcmp, 1) := by decide +kernel
theorem dX1_follow_48 : decode cX1_follow 48 = .ok (.ifCond .ne 9, 3) := by decide +kernel
theorem dX1_follow_51 : decode cX1_follow 51 = .ok (.aload_n 0, 1) := by decide +kernel
theorem dX1_follow_52 : decode cX1_follow 52 = .ok (.iload_n 1, 1) := by decide +kernel
theorem dX1_follow_53 : decode cX1_follow 53 = .ok (.invokevirtual 69, 3) := by decide +kernel
theorem dX1_follow_56 : decode cX1_follow 56 = .ok (.ireturn, 1) := by decide +kernel
theorem dX1_follow_57 : decode cX1_follow 57 = .ok (.aload_n 0, 1) := by decide +kernel
theorem dX1_follow_58 : decode cX1_follow 58 = .ok (.getfield 29, 3) := by decide +kernel
theorem dX1_follow_61 : decode cX1_follow 61 = .ok (.iload_n 2, 1) := by decide +kernel
theorem dX1_follow_62 : decode cX1_follow 62 = .ok (.aload_n 0, 1) := by decide +kernel
theorem dX1_follow_63 : decode cX1_follow 63 = .ok (.getfield 29, 3) := by decide +kernel
theorem dX1_follow_66 : decode cX1_follow 66 = .ok (.iload_n 2, 1) := by decide +kernel
theorem dX1_follow_67 : decode cX1_follow 67 = .ok (.invokevirtual 47, 3) := by decide +kernel
theorem dX1_follow_70 : decode cX1_follow 70 = .ok (.lconst 1, 1) := by decide +kernel
theorem dX1_follow_71 : decode cX1_follow 71 = .ok (.lsub, 1) := by decide +kernel
theorem dX1_follow_72 : decode cX1_follow 72 = .ok (.invokevirtual 62, 3) := by decide +kernel
theorem dX1_follow_75 : decode cX1_follow 75 = .ok (.aload_n 0, 1) := by decide +kernel
theorem dX1_follow_76 : decode cX1_follow 76 = .ok (.iload_n 1, 1) := by decide +kernel
theorem dX1_follow_77 : decode cX1_follow 77 = .ok (.invokevirtual 66, 3) := by decide +kernel
theorem dX1_follow_80 : decode cX1_follow 80 = .ok (.ireturn, 1) := by decide +kernel
set_option maxRecDepth 20000 in
theorem ggX1_fractionsNeeded_X1_size : GoodIn wsX1_fractionsNeeded wsX1_size := goodIn_r _ [5, 6, 7, 8, 9, 10, 11, 12, 26, 27, 28, 29, 30, 31, 32, 33] (by decide +kernel) (by decide +kernel)
set_option maxRecDepth 20000 in
theorem gX1_fractionsNeeded_X1_size : GoodIn wsX1_fractionsNeeded (wsV RX1 51 RX1 yX1_size wsX1_size) := goodIn_app (goodIn_of _ (by decide +kernel)) ggX1_fractionsNeeded_X1_size
set_option maxRecDepth 20000 in
theorem ggX1_fractionsNeeded_X1_kind : GoodIn wsX1_fractionsNeeded wsX1_kind := goodIn_r _ [16, 6, 17, 18, 19, 10, 20, 21, 22, 23, 24, 25, 12, 26, 27, 28, 29, 30, 31, 32, 33] (by decide +kernel) (by decide +kernel)
set_option maxRecDepth 20000 in
theorem gX1_fractionsNeeded_X1_kind : GoodIn wsX1_fractionsNeeded (wsV RX1 52 RX1 yX1_kind wsX1_kind) := goodIn_app (goodIn_of _ (by decide +kernel)) ggX1_fractionsNeeded_X1_kind
theorem dX1_fractionsNeeded_0 : decode cX1_fractionsNeeded 0 = .ok (.iconst 2, 1) := by decide +kernel
theorem dX1_fractionsNeeded_1 : decode cX1_fractionsNeeded 1 = .ok (.aload_n 0, 1) := by decide +kernel
theorem dX1_fractionsNeeded_2 : decode cX1_fractionsNeeded 2 = .ok (.invokevirtual 51, 3) := by decide +kernel
theorem dX1_fractionsNeeded_5 : decode cX1_fractionsNeeded 5 = .ok (.imul, 1) := by decide +kernel
theorem dX1_fractionsNeeded_6 : decode cX1_fractionsNeeded 6 = .ok (.istore_n 1, 1) := by decide +kernel
theorem dX1_fractionsNeeded_7 : decode cX1_fractionsNeeded 7 = .ok (.iconst 0, 1) := by decide +kernel
theorem dX1_fractionsNeeded_8 : decode cX1_fractionsNeeded 8 = .ok (.istore_n 2, 1) := by decide +kernel
theorem dX1_fractionsNeeded_9 : decode cX1_fractionsNeeded 9 = .ok (.iload_n 2, 1) := by decide +kernel
theorem dX1_fractionsNeeded_10 : decode cX1_fractionsNeeded 10 = .ok (.aload_n 0, 1) := by decide +kernel
theorem dX1_fractionsNeeded_11 : decode cX1_fractionsNeeded 11 = .ok (.invokevirtual 51, 3) := by decide +kernel
theorem dX1_fractionsNeeded_14 : decode cX1_fractionsNeeded 14 = .ok (.if_icmp .ge 26, 3) := by decide +kernel
theorem dX1_fractionsNeeded_17 : decode cX1_fractionsNeeded 17 = .ok (.iload_n 1, 1) := by decide +kernel
theorem dX1_fractionsNeeded_18 : decode cX1_fractionsNeeded 18 = .ok (.aload_n 0, 1) := by decide +kernel
theorem dX1_fractionsNeeded_19 : decode cX1_fractionsNeeded 19 = .ok (.iload_n 2, 1) := by decide +kernel
theorem dX1_fractionsNeeded_20 : decode cX1_fractionsNeeded 20 = .ok (.invokevirtual 52, 3) := by decide +kernel
theorem dX1_fractionsNeeded_23 : decode cX1_fractionsNeeded 23 = .ok (.iconst 1, 1) := by decide +kernel
theorem dX1_fractionsNeeded_24 : decode cX1_fractionsNeeded 24 = .ok (.if_icmp .ne 7, 3) := by decide +kernel
theorem dX1_fractionsNeeded_27 : decode cX1_fractionsNeeded 27 = .ok (.iconst 1, 1) := by decide +kernel
theorem dX1_fractionsNeeded_28 : decode cX1_fractionsNeeded 28 = .ok (.goto 4, 3) := by decide +kernel
theorem dX1_fractionsNeeded_31 : decode cX1_fractionsNeeded 31 = .ok (.iconst 0, 1) := by decide +kernel
theorem dX1_fractionsNeeded_32 : decode cX1_fractionsNeeded 32 = .ok (.iadd, 1) := by decide +kernel
theorem dX1_fractionsNeeded_33 : decode cX1_fractionsNeeded 33 = .ok (.istore_n 1, 1) := by decide +kernel
theorem dX1_fractionsNeeded_34 : decode cX1_fractionsNeeded 34 = .ok (.iinc 2 1, 3) := by decide +kernel
theorem dX1_fractionsNeeded_37 : decode cX1_fractionsNeeded 37 = .ok (.goto (-28), 3) := by decide +kernel
theorem dX1_fractionsNeeded_40 : decode cX1_fractionsNeeded 40 = .ok (.iload_n 1, 1) := by decide +kernel
theorem dX1_fractionsNeeded_41 : decode cX1_fractionsNeeded 41 = .ok (.ireturn, 1) := by decide +kernel
theorem dX2_init_0 : decode cX2_init 0 = .ok (.aload_n 0, 1) := by decide +kernel
theorem dX2_init_1 : decode cX2_init 1 = .ok (.invokespecial 1, 3) := by decide +kernel
theorem dX2_init_4 : decode cX2_init 4 = .ok (.aload_n 0, 1) := by decide +kernel
theorem dX2_init_5 : decode cX2_init 5 = .ok (.iconst 0, 1) := by decide +kernel
theorem dX2_init_6 : decode cX2_init 6 = .ok (.putfield 7, 3) := by decide +kernel
theorem dX2_init_9 : decode cX2_init 9 = .ok (.aload_n 0, 1) := by decide +kernel
theorem dX2_init_10 : decode cX2_init 10 = .ok (.iload_n 1, 1) := by decide +kernel
theorem dX2_init_11 : decode cX2_init 11 = .ok (.iconst 0, 1) := by decide +kernel
theorem dX2_init_12 : decode cX2_init 12 = .ok (.invokestatic 13, 3) := by decide +kernel
theorem dX2_init_15 : decode cX2_init 15 = .ok (.newarray .long, 2) := by decide +kernel
theorem dX2_init_17 : decode cX2_init 17 = .ok (.putfield 19, 3) := by decide +kernel
theorem dX2_init_20 : decode cX2_init 20 = .ok (.return_, 1) := by decide +kernel
theorem dX2_size_0 : decode cX2_size 0 = .ok (.aload_n 0, 1) := by decide +kernel
theorem dX2_size_1 : decode cX2_size 1 = .ok (.getfield 7, 3) := by decide +kernel
theorem dX2_size_4 : decode cX2_size 4 = .ok (.ireturn, 1) := by decide +kernel
theorem dX2_has_0 : decode cX2_has 0 = .ok (.iload_n 1, 1) := by decide +kernel
theorem dX2_has_1 : decode cX2_has 1 = .ok (.ifCond .lt 24, 3) := by decide +kernel
theorem dX2_has_4 : decode cX2_has 4 = .ok (.iload_n 1, 1) := by decide +kernel
theorem dX2_has_5 : decode cX2_has 5 = .ok (.aload_n 0, 1) := by decide +kernel
theorem dX2_has_6 : decode cX2_has 6 = .ok (.getfield 7, 3) := by decide +kernel
theorem dX2_has_9 : decode cX2_has 9 = .ok (.if_icmp .ge 16, 3) := by decide +kernel
theorem dX2_has_12 : decode cX2_has 12 = .ok (.iload_n 1, 1) := by decide +kernel
theorem dX2_has_13 : decode cX2_has 13 = .ok (.aload_n 0, 1) := by decide +kernel
theorem dX2_has_14 : decode cX2_has 14 = .ok (.getfield 19, 3) := by decide +kernel
theorem dX2_has_17 : decode cX2_has 17 = .ok (.arraylength, 1) := by decide +kernel
theorem dX2_has_18 : decode cX2_has 18 = .ok (.if_icmp .ge 7, 3) := by decide +kernel
theorem dX2_has_21 : decode cX2_has 21 = .ok (.iconst 1, 1) := by decide +kernel
theorem dX2_has_22 : decode cX2_has 22 = .ok (.goto 4, 3) := by decide +kernel
theorem dX2_has_25 : decode cX2_has 25 = .ok (.iconst 0, 1) := by decide +kernel
theorem dX2_has_26 : decode cX2_has 26 = .ok (.ireturn, 1) := by decide +kernel
set_option maxRecDepth 20000 in
theorem ggX2_at_X2_has : GoodIn wsX2_at wsX2_has := goodIn_r _ [6, 7, 1, 8, 9] (by decide +kernel) (by decide +kernel)
set_option maxRecDepth 20000 in
theorem gX2_at_X2_has : GoodIn wsX2_at (wsV RX2 23 RX2 yX2_has wsX2_has) := goodIn_app (goodIn_of _ (by decide +kernel)) ggX2_at_X2_has
theorem dX2_at_0 : decode cX2_at 0 = .ok (.aload_n 0, 1) := by decide +kernel
theorem dX2_at_1 : decode cX2_at 1 = .ok (.iload_n 1, 1) := by decide +kernel
theorem dX2_at_2 : decode cX2_at 2 = .ok (.invokevirtual 23, 3) := by decide +kernel
theorem dX2_at_5 : decode cX2_at 5 = .ok (.ifCond .eq 12, 3) := by decide +kernel
theorem dX2_at_8 : decode cX2_at 8 = .ok (.aload_n 0, 1) := by decide +kernel
theorem dX2_at_9 : decode cX2_at 9 = .ok (.getfield 19, 3) := by decide +kernel
theorem dX2_at_12 : decode cX2_at 12 = .ok (.iload_n 1, 1) := by decide +kernel
theorem dX2_at_13 : decode cX2_at 13 = .ok (.laload, 1) := by decide +kernel
theorem dX2_at_14 : decode cX2_at 14 = .ok (.goto 4, 3) := by decide +kernel
theorem dX2_at_17 : decode cX2_at 17 = .ok (.lconst 0, 1) := by decide +kernel
theorem dX2_at_18 : decode cX2_at 18 = .ok (.lreturn, 1) := by decide +kernel
set_option maxRecDepth 20000 in
theorem ggX2_put_X2_has : GoodIn wsX2_put wsX2_has := goodIn_r _ [6, 7, 1, 8, 9] (by decide +kernel) (by decide +kernel)
set_option maxRecDepth 20000 in
theorem gX2_put_X2_has : GoodIn wsX2_put (wsV RX2 23 RX2 yX2_has wsX2_has) := goodIn_app (goodIn_of _ (by decide +kernel)) ggX2_put_X2_has
theorem dX2_put_0 : decode cX2_put 0 = .ok (.aload_n 0, 1) := by decide +kernel
theorem dX2_put_1 : decode cX2_put 1 = .ok (.iload_n 1, 1) := by decide +kernel
theorem dX2_put_2 : decode cX2_put 2 = .ok (.invokevirtual 23, 3) := by decide +kernel
theorem dX2_put_5 : decode cX2_put 5 = .ok (.ifCond .eq 10, 3) := by decide +kernel
theorem dX2_put_8 : decode cX2_put 8 = .ok (.aload_n 0, 1) := by decide +kernel
theorem dX2_put_9 : decode cX2_put 9 = .ok (.getfield 19, 3) := by decide +kernel
theorem dX2_put_12 : decode cX2_put 12 = .ok (.iload_n 1, 1) := by decide +kernel
theorem dX2_put_13 : decode cX2_put 13 = .ok (.lload_n 2, 1) := by decide +kernel
theorem dX2_put_14 : decode cX2_put 14 = .ok (.lastore, 1) := by decide +kernel
theorem dX2_put_15 : decode cX2_put 15 = .ok (.return_, 1) := by decide +kernel
theorem dX2_empty_0 : decode cX2_empty 0 = .ok (.aload_n 0, 1) := by decide +kernel
theorem dX2_empty_1 : decode cX2_empty 1 = .ok (.iconst 0, 1) := by decide +kernel
theorem dX2_empty_2 : decode cX2_empty 2 = .ok (.putfield 7, 3) := by decide +kernel
theorem dX2_empty_5 : decode cX2_empty 5 = .ok (.return_, 1) := by decide +kernel
theorem dX2_add_0 : decode cX2_add 0 = .ok (.aload_n 0, 1) := by decide +kernel
theorem dX2_add_1 : decode cX2_add 1 = .ok (.getfield 7, 3) := by decide +kernel
theorem dX2_add_4 : decode cX2_add 4 = .ok (.ifCond .lt 15, 3) := by decide +kernel
theorem dX2_add_7 : decode cX2_add 7 = .ok (.aload_n 0, 1) := by decide +kernel
theorem dX2_add_8 : decode cX2_add 8 = .ok (.getfield 7, 3) := by decide +kernel
theorem dX2_add_11 : decode cX2_add 11 = .ok (.aload_n 0, 1) := by decide +kernel
theorem dX2_add_12 : decode cX2_add 12 = .ok (.getfield 19, 3) := by decide +kernel
theorem dX2_add_15 : decode cX2_add 15 = .ok (.arraylength, 1) := by decide +kernel
theorem dX2_add_16 : decode cX2_add 16 = .ok (.if_icmp .lt 5, 3) := by decide +kernel
theorem dX2_add_19 : decode cX2_add 19 = .ok (.iconst 0, 1) := by decide +kernel
theorem dX2_add_20 : decode cX2_add 20 = .ok (.ireturn, 1) := by decide +kernel
theorem dX2_add_21 : decode cX2_add 21 = .ok (.aload_n 0, 1) := by decide +kernel
theorem dX2_add_22 : decode cX2_add 22 = .ok (.getfield 19, 3) := by decide +kernel
theorem dX2_add_25 : decode cX2_add 25 = .ok (.aload_n 0, 1) := by decide +kernel
theorem dX2_add_26 : decode cX2_add 26 = .ok (.getfield 7, 3) := by decide +kernel
theorem dX2_add_29 : decode cX2_add 29 = .ok (.lload_n 1, 1) := by decide +kernel
theorem dX2_add_30 : decode cX2_add 30 = .ok (.lastore, 1) := by decide +kernel
theorem dX2_add_31 : decode cX2_add 31 = .ok (.aload_n 0, 1) := by decide +kernel
theorem dX2_add_32 : decode cX2_add 32 = .ok (.dup, 1) := by decide +kernel
theorem dX2_add_33 : decode cX2_add 33 = .ok (.getfield 7, 3) := by decide +kernel
theorem dX2_add_36 : decode cX2_add 36 = .ok (.iconst 1, 1) := by decide +kernel
theorem dX2_add_37 : decode cX2_add 37 = .ok (.iadd, 1) := by decide +kernel
theorem dX2_add_38 : decode cX2_add 38 = .ok (.putfield 7, 3) := by decide +kernel
theorem dX2_add_41 : decode cX2_add 41 = .ok (.iconst 1, 1) := by decide +kernel
theorem dX2_add_42 : decode cX2_add 42 = .ok (.ireturn, 1) := by decide +kernel
set_option maxRecDepth 20000 in
theorem ggX2_zeros_X2_add : GoodIn wsX2_zeros wsX2_add := goodIn_r _ [6, 1, 7, 8, 9] (by decide +kernel) (by decide +kernel)
set_option maxRecDepth 20000 in
theorem gX2_zeros_X2_add : GoodIn wsX2_zeros (wsV RX2 27 RX2 yX2_add wsX2_add) := goodIn_app (goodIn_of _ (by decide +kernel)) ggX2_zeros_X2_add
theorem dX2_zeros_0 : decode cX2_zeros 0 = .ok (.aload_n 0, 1) := by decide +kernel
theorem dX2_zeros_1 : decode cX2_zeros 1 = .ok (.iconst 0, 1) := by decide +kernel
theorem dX2_zeros_2 : decode cX2_zeros 2 = .ok (.putfield 7, 3) := by decide +kernel
theorem dX2_zeros_5 : decode cX2_zeros 5 = .ok (.iconst 0, 1) := by decide +kernel
theorem dX2_zeros_6 : decode cX2_zeros 6 = .ok (.istore_n 2, 1) := by decide +kernel
theorem dX2_zeros_7 : decode cX2_zeros 7 = .ok (.iload_n 2, 1) := by decide +kernel
theorem dX2_zeros_8 : decode cX2_zeros 8 = .ok (.iload_n 1, 1) := by decide +kernel
theorem dX2_zeros_9 : decode cX2_zeros 9 = .ok (.if_icmp .ge 15, 3) := by decide +kernel
theorem dX2_zeros_12 : decode cX2_zeros 12 = .ok (.aload_n 0, 1) := by decide +kernel
theorem dX2_zeros_13 : decode cX2_zeros 13 = .ok (.lconst 0, 1) := by decide +kernel
theorem dX2_zeros_14 : decode cX2_zeros 14 = .ok (.invokevirtual 27, 3) := by decide +kernel
theorem dX2_zeros_17 : decode cX2_zeros 17 = .ok (.pop, 1) := by decide +kernel
theorem dX2_zeros_18 : decode cX2_zeros 18 = .ok (.iinc 2 1, 3) := by decide +kernel
theorem dX2_zeros_21 : decode cX2_zeros 21 = .ok (.goto (-14), 3) := by decide +kernel
theorem dX2_zeros_24 : decode cX2_zeros 24 = .ok (.return_, 1) := by decide +kernel
set_option maxRecDepth 20000 in
theorem ggX2_become_X2_at : GoodIn wsX2_become wsX2_at := goodIn_r _ [6, 7, 8, 9, 10, 5, 11, 1, 16, 17] (by decide +kernel) (by decide +kernel)
set_option maxRecDepth 20000 in
theorem gX2_become_X2_at : GoodIn wsX2_become (wsV RX2 31 RX2 yX2_at wsX2_at) := goodIn_app (goodIn_of _ (by decide +kernel)) ggX2_become_X2_at
set_option maxRecDepth 20000 in
theorem ggX2_become_X2_add : GoodIn wsX2_become wsX2_add := goodIn_r _ [15, 1, 7, 16, 17] (by decide +kernel) (by decide +kernel)
set_option maxRecDepth 20000 in
theorem gX2_become_X2_add : GoodIn wsX2_become (wsV RX2 27 RX2 yX2_add wsX2_add) := goodIn_app (goodIn_of _ (by decide +kernel)) ggX2_become_X2_add
theorem dX2_become_0 : decode cX2_become 0 = .ok (.aload_n 0, 1) := by decide +kernel
theorem dX2_become_1 : decode cX2_become 1 = .ok (.iconst 0, 1) := by decide +kernel
theorem dX2_become_2 : decode cX2_become 2 = .ok (.putfield 7, 3) := by decide +kernel
theorem dX2_become_5 : decode cX2_become 5 = .ok (.iconst 0, 1) := by decide +kernel
theorem dX2_become_6 : decode cX2_become 6 = .ok (.istore_n 2, 1) := by decide +kernel
theorem dX2_become_7 : decode cX2_become 7 = .ok (.iload_n 2, 1) := by decide +kernel
theorem dX2_become_8 : decode cX2_become 8 = .ok (.aload_n 1, 1) := by decide +kernel
theorem dX2_become_9 : decode cX2_become 9 = .ok (.getfield 7, 3) := by decide +kernel
theorem dX2_become_12 : decode cX2_become 12 = .ok (.if_icmp .ge 19, 3) := by decide +kernel
theorem dX2_become_15 : decode cX2_become 15 = .ok (.aload_n 0, 1) := by decide +kernel
theorem dX2_become_16 : decode cX2_become 16 = .ok (.aload_n 1, 1) := by decide +kernel
theorem dX2_become_17 : decode cX2_become 17 = .ok (.iload_n 2, 1) := by decide +kernel
theorem dX2_become_18 : decode cX2_become 18 = .ok (.invokevirtual 31, 3) := by decide +kernel
theorem dX2_become_21 : decode cX2_become 21 = .ok (.invokevirtual 27, 3) := by decide +kernel
theorem dX2_become_24 : decode cX2_become 24 = .ok (.pop, 1) := by decide +kernel
theorem dX2_become_25 : decode cX2_become 25 = .ok (.iinc 2 1, 3) := by decide +kernel
theorem dX2_become_28 : decode cX2_become 28 = .ok (.goto (-21), 3) := by decide +kernel
theorem dX2_become_31 : decode cX2_become 31 = .ok (.return_, 1) := by decide +kernel
set_option maxRecDepth 20000 in
theorem ggX2_sortIn_X2_add : GoodIn wsX2_sortIn wsX2_add := goodIn_r _ [6, 1, 7, 20, 21] (by decide +kernel) (by decide +kernel)
set_option maxRecDepth 20000 in
theorem gX2_sortIn_X2_add : GoodIn wsX2_sortIn (wsV RX2 27 RX2 yX2_add wsX2_add) := goodIn_app (goodIn_of _ (by decide +kernel)) ggX2_sortIn_X2_add
set_option maxRecDepth 20000 in
theorem ggX2_sortIn_X2_at : GoodIn wsX2_sortIn wsX2_at := goodIn_r _ [11, 7, 12, 13, 14, 5, 15, 1, 20, 21] (by decide +kernel) (by decide +kernel)
set_option maxRecDepth 20000 in
theorem gX2_sortIn_X2_at : GoodIn wsX2_sortIn (wsV RX2 31 RX2 yX2_at wsX2_at) := goodIn_app (goodIn_of _ (by decide +kernel)) ggX2_sortIn_X2_at
set_option maxRecDepth 20000 in
theorem ggX2_sortIn_X2_put : GoodIn wsX2_sortIn wsX2_put := goodIn_r _ [19, 7, 12, 13, 14, 5, 15, 1, 20, 21] (by decide +kernel) (by decide +kernel)
set_option maxRecDepth 20000 in
theorem gX2_sortIn_X2_put : GoodIn wsX2_sortIn (wsV RX2 35 RX2 yX2_put wsX2_put) := goodIn_app (goodIn_of _ (by decide +kernel)) ggX2_sortIn_X2_put
theorem dX2_sortIn_0 : decode cX2_sortIn 0 = .ok (.aload_n 0, 1) := by decide +kernel
theorem dX2_sortIn_1 : decode cX2_sortIn 1 = .ok (.lload_n 1, 1) := by decide +kernel
theorem dX2_sortIn_2 : decode cX2_sortIn 2 = .ok (.invokevirtual 27, 3) := by decide +kernel
theorem dX2_sortIn_5 : decode cX2_sortIn 5 = .ok (.ifCond .ne 30, 3) := by decide +kernel
theorem dX2_sortIn_8 : decode cX2_sortIn 8 = .ok (.lload_n 1, 1) := by decide +kernel
theorem dX2_sortIn_9 : decode cX2_sortIn 9 = .ok (.aload_n 0, 1) := by decide +kernel
theorem dX2_sortIn_10 : decode cX2_sortIn 10 = .ok (.aload_n 0, 1) := by decide +kernel
theorem dX2_sortIn_11 : decode cX2_sortIn 11 = .ok (.getfield 7, 3) := by decide +kernel
theorem dX2_sortIn_14 : decode cX2_sortIn 14 = .ok (.iconst 1, 1) := by decide +kernel
theorem dX2_sortIn_15 : decode cX2_sortIn 15 = .ok (.isub, 1) := by decide +kernel
theorem dX2_sortIn_16 : decode cX2_sortIn 16 = .ok (.invokevirtual 31, 3) := by decide +kernel
theorem dX2_sortIn_19 : decode cX2_sortIn 19 = .ok (.lcmp, 1) := by decide +kernel
theorem dX2_sortIn_20 : decode cX2_sortIn 20 = .ok (.ifCond .lt 4, 3) := by decide +kernel
theorem dX2_sortIn_23 : decode cX2_sortIn 23 = .ok (.return_, 1) := by decide +kernel
theorem dX2_sortIn_24 : decode cX2_sortIn 24 = .ok (.aload_n 0, 1) := by decide +kernel
theorem dX2_sortIn_25 : decode cX2_sortIn 25 = .ok (.aload_n 0, 1) := by decide +kernel
theorem dX2_sortIn_26 : decode cX2_sortIn 26 = .ok (.getfield 7, 3) := by decide +kernel
theorem dX2_sortIn_29 : decode cX2_sortIn 29 = .ok (.iconst 1, 1) := by decide +kernel
theorem dX2_sortIn_30 : decode cX2_sortIn 30 = .ok (.isub, 1) := by decide +kernel
theorem dX2_sortIn_31 : decode cX2_sortIn 31 = .ok (.lload_n 1, 1) := by decide +kernel
theorem dX2_sortIn_32 : decode cX2_sortIn 32 = .ok (.invokevirtual 35, 3) := by decide +kernel
theorem dX2_sortIn_35 : decode cX2_sortIn 35 = .ok (.aload_n 0, 1) := by decide +kernel
theorem dX2_sortIn_36 : decode cX2_sortIn 36 = .ok (.getfield 7, 3) := by decide +kernel
theorem dX2_sortIn_39 : decode cX2_sortIn 39 = .ok (.iconst 1, 1) := by decide +kernel
theorem dX2_sortIn_40 : decode cX2_sortIn 40 = .ok (.isub, 1) := by decide +kernel
theorem dX2_sortIn_41 : decode cX2_sortIn 41 = .ok (.istore_n 3, 1) := by decide +kernel
theorem dX2_sortIn_42 : decode cX2_sortIn 42 = .ok (.iload_n 3, 1) := by decide +kernel
theorem dX2_sortIn_43 : decode cX2_sortIn 43 = .ok (.ifCond .le 41, 3) := by decide +kernel
theorem dX2_sortIn_46 : decode cX2_sortIn 46 = .ok (.aload_n 0, 1) := by decide +kernel
theorem dX2_sortIn_47 : decode cX2_sortIn 47 = .ok (.iload_n 3, 1) := by decide +kernel
theorem dX2_sortIn_48 : decode cX2_sortIn 48 = .ok (.iconst 1, 1) := by decide +kernel
theorem dX2_sortIn_49 : decode cX2_sortIn 49 = .ok (.isub, 1) := by decide +kernel
theorem dX2_sortIn_50 : decode cX2_sortIn 50 = .ok (.invokevirtual 31, 3) := by decide +kernel
theorem dX2_sortIn_53 : decode cX2_sortIn 53 = .ok (.lload_n 1, 1) := by decide +kernel
theorem dX2_sortIn_54 : decode cX2_sortIn 54 = .ok (.lcmp, 1) := by decide +kernel
theorem dX2_sortIn_55 : decode cX2_sortIn 55 = .ok (.ifCond .le 29, 3) := by decide +kernel
theorem dX2_sortIn_58 : decode cX2_sortIn 58 = .ok (.aload_n 0, 1) := by decide +kernel
theorem dX2_sortIn_59 : decode cX2_sortIn 59 = .ok (.iload_n 3, 1) := by decide +kernel
theorem dX2_sortIn_60 : decode cX2_sortIn 60 = .ok (.aload_n 0, 1) := by decide +kernel
theorem dX2_sortIn_61 : decode cX2_sortIn 61 = .ok (.iload_n 3, 1) := by decide +kernel
theorem dX2_sortIn_62 : decode cX2_sortIn 62 = .ok (.iconst 1, 1) := by decide +kernel
theorem dX2_sortIn_63 : decode cX2_sortIn 63 = .ok (.isub, 1) := by decide +kernel
theorem dX2_sortIn_64 : decode cX2_sortIn 64 = .ok (.invokevirtual 31, 3) := by decide +kernel
theorem dX2_sortIn_67 : decode cX2_sortIn 67 = .ok (.invokevirtual 35, 3) := by decide +kernel
theorem dX2_sortIn_70 : decode cX2_sortIn 70 = .ok (.aload_n 0, 1) := by decide +kernel
theorem dX2_sortIn_71 : decode cX2_sortIn 71 = .ok (.iload_n 3, 1) := by decide +kernel
theorem dX2_sortIn_72 : decode cX2_sortIn 72 = .ok (.iconst 1, 1) := by decide +kernel
theorem dX2_sortIn_73 : decode cX2_sortIn 73 = .ok (.isub, 1) := by decide +kernel
theorem dX2_sortIn_74 : decode cX2_sortIn 74 = .ok (.lload_n 1, 1) := by decide +kernel
theorem dX2_sortIn_75 : decode cX2_sortIn 75 = .ok (.invokevirtual 35, 3) := by decide +kernel
theorem dX2_sortIn_78 : decode cX2_sortIn 78 = .ok (.iinc 3 (-1), 3) := by decide +kernel
theorem dX2_sortIn_81 : decode cX2_sortIn 81 = .ok (.goto (-39), 3) := by decide +kernel
theorem dX2_sortIn_84 : decode cX2_sortIn 84 = .ok (.return_, 1) := by decide +kernel
theorem dX3_init_0 : decode cX3_init 0 = .ok (.aload_n 0, 1) := by decide +kernel
theorem dX3_init_1 : decode cX3_init 1 = .ok (.invokespecial 1, 3) := by decide +kernel
theorem dX3_init_4 : decode cX3_init 4 = .ok (.aload_n 0, 1) := by decide +kernel
theorem dX3_init_5 : decode cX3_init 5 = .ok (.bipush 24, 2) := by decide +kernel
theorem dX3_init_7 : decode cX3_init 7 = .ok (.newarray .long, 2) := by decide +kernel
theorem dX3_init_9 : decode cX3_init 9 = .ok (.putfield 9, 3) := by decide +kernel
theorem dX3_init_12 : decode cX3_init 12 = .ok (.return_, 1) := by decide +kernel
theorem dX3_begin_0 : decode cX3_begin 0 = .ok (.iconst 0, 1) := by decide +kernel
theorem dX3_begin_1 : decode cX3_begin 1 = .ok (.istore_n 1, 1) := by decide +kernel
theorem dX3_begin_2 : decode cX3_begin 2 = .ok (.iload_n 1, 1) := by decide +kernel
theorem dX3_begin_3 : decode cX3_begin 3 = .ok (.bipush 24, 2) := by decide +kernel
theorem dX3_begin_5 : decode cX3_begin 5 = .ok (.if_icmp .ge 24, 3) := by decide +kernel
theorem dX3_begin_8 : decode cX3_begin 8 = .ok (.aload_n 0, 1) := by decide +kernel
theorem dX3_begin_9 : decode cX3_begin 9 = .ok (.getfield 9, 3) := by decide +kernel
theorem dX3_begin_12 : decode cX3_begin 12 = .ok (.iload_n 1, 1) := by decide +kernel
theorem dX3_begin_13 : decode cX3_begin 13 = .ok (.iload_n 1, 1) := by decide +kernel
theorem dX3_begin_14 : decode cX3_begin 14 = .ok (.ifCond .ne 7, 3) := by decide +kernel
theorem dX3_begin_17 : decode cX3_begin 17 = .ok (.lconst 1, 1) := by decide +kernel
theorem dX3_begin_18 : decode cX3_begin 18 = .ok (.goto 4, 3) := by decide +kernel
theorem dX3_begin_21 : decode cX3_begin 21 = .ok (.lconst 0, 1) := by decide +kernel
theorem dX3_begin_22 : decode cX3_begin 22 = .ok (.lastore, 1) := by decide +kernel
theorem dX3_begin_23 : decode cX3_begin 23 = .ok (.iinc 1 1, 3) := by decide +kernel
theorem dX3_begin_26 : decode cX3_begin 26 = .ok (.goto (-24), 3) := by decide +kernel
theorem dX3_begin_29 : decode cX3_begin 29 = .ok (.return_, 1) := by decide +kernel
theorem dX3_multiply_0 : decode cX3_multiply 0 = .ok (.lconst 0, 1) := by decide +kernel
theorem dX3_multiply_1 : decode cX3_multiply 1 = .ok (.lstore_n 3, 1) := by decide +kernel
theorem dX3_multiply_2 : decode cX3_multiply 2 = .ok (.iconst 0, 1) := by decide +kernel
theorem dX3_multiply_3 : decode cX3_multiply 3 = .ok (.istore 5, 2) := by decide +kernel
theorem dX3_multiply_5 : decode cX3_multiply 5 = .ok (.iload 5, 2) := by decide +kernel
theorem dX3_multiply_7 : decode cX3_multiply 7 = .ok (.bipush 24, 2) := by decide +kernel
theorem dX3_multiply_9 : decode cX3_multiply 9 = .ok (.if_icmp .ge 42, 3) := by decide +kernel
theorem dX3_multiply_12 : decode cX3_multiply 12 = .ok (.aload_n 0, 1) := by decide +kernel
theorem dX3_multiply_13 : decode cX3_multiply 13 = .ok (.getfield 9, 3) := by decide +kernel
theorem dX3_multiply_16 : decode cX3_multiply 16 = .ok (.iload 5, 2) := by decide +kernel
theorem dX3_multiply_18 : decode cX3_multiply 18 = .ok (.laload, 1) := by decide +kernel
theorem dX3_multiply_19 : decode cX3_multiply 19 = .ok (.lload_n 1, 1) := by decide +kernel
theorem dX3_multiply_20 : decode cX3_multiply 20 = .ok (.lmul, 1) := by decide +kernel
theorem dX3_multiply_21 : decode cX3_multiply 21 = .ok (.lload_n 3, 1) := by decide +kernel
theorem dX3_multiply_22 : decode cX3_multiply 22 = .ok (.ladd, 1) := by decide +kernel
theorem dX3_multiply_23 : decode cX3_multiply 23 = .ok (.lstore 6, 2) := by decide +kernel
theorem dX3_multiply_25 : decode cX3_multiply 25 = .ok (.aload_n 0, 1) := by decide +kernel
theorem dX3_multiply_26 : decode cX3_multiply 26 = .ok (.getfield 9, 3) := by decide +kernel
theorem dX3_multiply_29 : decode cX3_multiply 29 = .ok (.iload 5, 2) := by decide +kernel
theorem dX3_multiply_31 : decode cX3_multiply 31 = .ok (.lload 6, 2) := by decide +kernel
theorem dX3_multiply_33 : decode cX3_multiply 33 = .ok (.ldc2_w 13, 3) := by decide +kernel
theorem dX3_multiply_36 : decode cX3_multiply 36 = .ok (.lrem, 1) := by decide +kernel
theorem dX3_multiply_37 : decode cX3_multiply 37 = .ok (.lastore, 1) := by decide +kernel
theorem dX3_multiply_38 : decode cX3_multiply 38 = .ok (.lload 6, 2) := by decide +kernel
theorem dX3_multiply_40 : decode cX3_multiply 40 = .ok (.ldc2_w 13, 3) := by decide +kernel
theorem dX3_multiply_43 : decode cX3_multiply 43 = .ok (.ldiv, 1) := by decide +kernel
theorem dX3_multiply_44 : decode cX3_multiply 44 = .ok (.lstore_n 3, 1) := by decide +kernel
theorem dX3_multiply_45 : decode cX3_multiply 45 = .ok (.iinc 5 1, 3) := by decide +kernel
theorem dX3_multiply_48 : decode cX3_multiply 48 = .ok (.goto (-43), 3) := by decide +kernel
theorem dX3_multiply_51 : decode cX3_multiply 51 = .ok (.return_, 1) := by decide +kernel
theorem dX3_against_0 : decode cX3_against 0 = .ok (.bipush 23, 2) := by decide +kernel
theorem dX3_against_2 : decode cX3_against 2 = .ok (.istore_n 2, 1) := by decide +kernel
theorem dX3_against_3 : decode cX3_against 3 = .ok (.iload_n 2, 1) := by decide +kernel
theorem dX3_against_4 : decode cX3_against 4 = .ok (.ifCond .lt 47, 3) := by decide +kernel
theorem dX3_against_7 : decode cX3_against 7 = .ok (.aload_n 0, 1) := by decide +kernel
theorem dX3_against_8 : decode cX3_against 8 = .ok (.getfield 9, 3) := by decide +kernel
theorem dX3_against_11 : decode cX3_against 11 = .ok (.iload_n 2, 1) := by decide +kernel
theorem dX3_against_12 : decode cX3_against 12 = .ok (.laload, 1) := by decide +kernel
theorem dX3_against_13 : decode cX3_against 13 = .ok (.aload_n 1, 1) := by decide +kernel
theorem dX3_against_14 : decode cX3_against 14 = .ok (.getfield 9, 3) := by decide +kernel
theorem dX3_against_17 : decode cX3_against 17 = .ok (.iload_n 2, 1) := by decide +kernel
theorem dX3_against_18 : decode cX3_against 18 = .ok (.laload, 1) := by decide +kernel
theorem dX3_against_19 : decode cX3_against 19 = .ok (.lcmp, 1) := by decide +kernel
theorem dX3_against_20 : decode cX3_against 20 = .ok (.ifCond .eq 25, 3) := by decide +kernel
theorem dX3_against_23 : decode cX3_against 23 = .ok (.aload_n 0, 1) := by decide +kernel
theorem dX3_against_24 : decode cX3_against 24 = .ok (.getfield 9, 3) := by decide +kernel
theorem dX3_against_27 : decode cX3_against 27 = .ok (.iload_n 2, 1) := by decide +kernel
theorem dX3_against_28 : decode cX3_against 28 = .ok (.laload, 1) := by decide +kernel
theorem dX3_against_29 : decode cX3_against 29 = .ok (.aload_n 1, 1) := by decide +kernel
theorem dX3_against_30 : decode cX3_against 30 = .ok (.getfield 9, 3) := by decide +kernel
theorem dX3_against_33 : decode cX3_against 33 = .ok (.iload_n 2, 1) := by decide +kernel
theorem dX3_against_34 : decode cX3_against 34 = .ok (.laload, 1) := by decide +kernel
theorem dX3_against_35 : decode cX3_against 35 = .ok (.lcmp, 1) := by decide +kernel
theorem dX3_against_36 : decode cX3_against 36 = .ok (.ifCond .le 7, 3) := by decide +kernel
theorem dX3_against_39 : decode cX3_against 39 = .ok (.iconst 1, 1) := by decide +kernel
theorem dX3_against_40 : decode cX3_against 40 = .ok (.goto 4, 3) := by decide +kernel
theorem dX3_against_43 : decode cX3_against 43 = .ok (.iconst (-1), 1) := by decide +kernel
theorem dX3_against_44 : decode cX3_against 44 = .ok (.ireturn, 1) := by decide +kernel
theorem dX3_against_45 : decode cX3_against 45 = .ok (.iinc 2 (-1), 3) := by decide +kernel
theorem dX3_against_48 : decode cX3_against 48 = .ok (.goto (-45), 3) := by decide +kernel
theorem dX3_against_51 : decode cX3_against 51 = .ok (.iconst 0, 1) := by decide +kernel
theorem dX3_against_52 : decode cX3_against 52 = .ok (.ireturn, 1) := by decide +kernel
theorem dX4_init_0 : decode cX4_init 0 = .ok (.aload_n 0, 1) := by decide +kernel
theorem dX4_init_1 : decode cX4_init 1 = .ok (.invokespecial 3, 3) := by decide +kernel
theorem dX4_init_4 : decode cX4_init 4 = .ok (.aload_n 0, 1) := by decide +kernel
theorem dX4_init_5 : decode cX4_init 5 = .ok (.bipush 41, 2) := by decide +kernel
theorem dX4_init_7 : decode cX4_init 7 = .ok (.newarray .long, 2) := by decide +kernel
theorem dX4_init_9 : decode cX4_init 9 = .ok (.putfield 9, 3) := by decide +kernel
theorem dX4_init_12 : decode cX4_init 12 = .ok (.aload_n 0, 1) := by decide +kernel
theorem dX4_init_13 : decode cX4_init 13 = .ok (.bipush 41, 2) := by decide +kernel
theorem dX4_init_15 : decode cX4_init 15 = .ok (.newarray .long, 2) := by decide +kernel
theorem dX4_init_17 : decode cX4_init 17 = .ok (.putfield 15, 3) := by decide +kernel
theorem dX4_init_20 : decode cX4_init 20 = .ok (.aload_n 0, 1) := by decide +kernel
theorem dX4_init_21 : decode cX4_init 21 = .ok (.bipush 41, 2) := by decide +kernel
theorem dX4_init_23 : decode cX4_init 23 = .ok (.newarray .long, 2) := by decide +kernel
theorem dX4_init_25 : decode cX4_init 25 = .ok (.putfield 18, 3) := by decide +kernel
theorem dX4_init_28 : decode cX4_init 28 = .ok (.aload_n 0, 1) := by decide +kernel
theorem dX4_init_29 : decode cX4_init 29 = .ok (.getfield 9, 3) := by decide +kernel
theorem dX4_init_32 : decode cX4_init 32 = .ok (.iconst 0, 1) := by decide +kernel
theorem dX4_init_33 : decode cX4_init 33 = .ok (.lconst 1, 1) := by decide +kernel
theorem dX4_init_34 : decode cX4_init 34 = .ok (.lastore, 1) := by decide +kernel
theorem dX4_init_35 : decode cX4_init 35 = .ok (.aload_n 0, 1) := by decide +kernel
theorem dX4_init_36 : decode cX4_init 36 = .ok (.getfield 18, 3) := by decide +kernel
theorem dX4_init_39 : decode cX4_init 39 = .ok (.iconst 0, 1) := by decide +kernel
theorem dX4_init_40 : decode cX4_init 40 = .ok (.lconst 1, 1) := by decide +kernel
theorem dX4_init_41 : decode cX4_init 41 = .ok (.lastore, 1) := by decide +kernel
theorem dX4_init_42 : decode cX4_init 42 = .ok (.return_, 1) := by decide +kernel
theorem dX4_has_0 : decode cX4_has 0 = .ok (.iload_n 0, 1) := by decide +kernel
theorem dX4_has_1 : decode cX4_has 1 = .ok (.ifCond .lt 13, 3) := by decide +kernel
theorem dX4_has_4 : decode cX4_has 4 = .ok (.iload_n 0, 1) := by decide +kernel
theorem dX4_has_5 : decode cX4_has 5 = .ok (.bipush 40, 2) := by decide +kernel
theorem dX4_has_7 : decode cX4_has 7 = .ok (.if_icmp .gt 7, 3) := by decide +kernel
theorem dX4_has_10 : decode cX4_has 10 = .ok (.iconst 1, 1) := by decide +kernel
theorem dX4_has_11 : decode cX4_has 11 = .ok (.goto 4, 3) := by decide +kernel
theorem dX4_has_14 : decode cX4_has 14 = .ok (.iconst 0, 1) := by decide +kernel
theorem dX4_has_15 : decode cX4_has 15 = .ok (.ireturn, 1) := by decide +kernel
set_option maxRecDepth 20000 in
theorem ggX4_factor_X4_has : GoodIn wsX4_factor wsX4_has := goodIn_r _ [5] (by decide +kernel) (by decide +kernel)
set_option maxRecDepth 20000 in
theorem gX4_factor_X4_has : GoodIn wsX4_factor (va_wsS RX4 21 yX4_has wsX4_has) := goodIn_app (goodIn_of _ (by decide +kernel)) ggX4_factor_X4_has
theorem dX4_factor_0 : decode cX4_factor 0 = .ok (.iload_n 1, 1) := by decide +kernel
theorem dX4_factor_1 : decode cX4_factor 1 = .ok (.invokestatic 21, 3) := by decide +kernel
theorem dX4_factor_4 : decode cX4_factor 4 = .ok (.ifCond .eq 12, 3) := by decide +kernel
theorem dX4_factor_7 : decode cX4_factor 7 = .ok (.aload_n 0, 1) := by decide +kernel
theorem dX4_factor_8 : decode cX4_factor 8 = .ok (.getfield 9, 3) := by decide +kernel
theorem dX4_factor_11 : decode cX4_factor 11 = .ok (.iload_n 1, 1) := by decide +kernel
theorem dX4_factor_12 : decode cX4_factor 12 = .ok (.laload, 1) := by decide +kernel
theorem dX4_factor_13 : decode cX4_factor 13 = .ok (.goto 4, 3) := by decide +kernel
theorem dX4_factor_16 : decode cX4_factor 16 = .ok (.lconst 0, 1) := by decide +kernel
theorem dX4_factor_17 : decode cX4_factor 17 = .ok (.lreturn, 1) := by decide +kernel
set_option maxRecDepth 20000 in
theorem ggX4_addend_X4_has : GoodIn wsX4_addend wsX4_has := goodIn_r _ [5] (by decide +kernel) (by decide +kernel)
set_option maxRecDepth 20000 in
theorem gX4_addend_X4_has : GoodIn wsX4_addend (va_wsS RX4 21 yX4_has wsX4_has) := goodIn_app (goodIn_of _ (by decide +kernel)) ggX4_addend_X4_has
theorem dX4_addend_0 : decode cX4_addend 0 = .ok (.iload_n 1, 1) := by decide +kernel
theorem dX4_addend_1 : decode cX4_addend 1 = .ok (.invokestatic 21, 3) := by decide +kernel
theorem dX4_addend_4 : decode cX4_addend 4 = .ok (.ifCond .eq 12, 3) := by decide +kernel
theorem dX4_addend_7 : decode cX4_addend 7 = .ok (.aload_n 0, 1) := by decide +kernel
theorem dX4_addend_8 : decode cX4_addend 8 = .ok (.getfield 15, 3) := by decide +kernel
theorem dX4_addend_11 : decode cX4_addend 11 = .ok (.iload_n 1, 1) := by decide +kernel
theorem dX4_addend_12 : decode cX4_addend 12 = .ok (.laload, 1) := by decide +kernel
theorem dX4_addend_13 : decode cX4_addend 13 = .ok (.goto 4, 3) := by decide +kernel
theorem dX4_addend_16 : decode cX4_addend 16 = .ok (.lconst 0, 1) := by decide +kernel
theorem dX4_addend_17 : decode cX4_addend 17 = .ok (.lreturn, 1) := by decide +kernel
set_option maxRecDepth 20000 in
theorem ggX4_divisor_X4_has : GoodIn wsX4_divisor wsX4_has := goodIn_r _ [5] (by decide +kernel) (by decide +kernel)
set_option maxRecDepth 20000 in
theorem gX4_divisor_X4_has : GoodIn wsX4_divisor (va_wsS RX4 21 yX4_has wsX4_has) := goodIn_app (goodIn_of _ (by decide +kernel)) ggX4_divisor_X4_has
theorem dX4_divisor_0 : decode cX4_divisor 0 = .ok (.iload_n 1, 1) := by decide +kernel
theorem dX4_divisor_1 : decode cX4_divisor 1 = .ok (.invokestatic 21, 3) := by decide +kernel
theorem dX4_divisor_4 : decode cX4_divisor 4 = .ok (.ifCond .eq 12, 3) := by decide +kernel
theorem dX4_divisor_7 : decode cX4_divisor 7 = .ok (.aload_n 0, 1) := by decide +kernel
theorem dX4_divisor_8 : decode cX4_divisor 8 = .ok (.getfield 18, 3) := by decide +kernel
theorem dX4_divisor_11 : decode cX4_divisor 11 = .ok (.iload_n 1, 1) := by decide +kernel
theorem dX4_divisor_12 : decode cX4_divisor 12 = .ok (.laload, 1) := by decide +kernel
theorem dX4_divisor_13 : decode cX4_divisor 13 = .ok (.goto 4, 3) := by decide +kernel
theorem dX4_divisor_16 : decode cX4_divisor 16 = .ok (.lconst 1, 1) := by decide +kernel
theorem dX4_divisor_17 : decode cX4_divisor 17 = .ok (.lreturn, 1) := by decide +kernel
set_option maxRecDepth 20000 in
theorem ggX4_extend_X4_has : GoodIn wsX4_extend wsX4_has := goodIn_r _ [7] (by decide +kernel) (by decide +kernel)
set_option maxRecDepth 20000 in
theorem gX4_extend_X4_has : GoodIn wsX4_extend (va_wsS RX4 21 yX4_has wsX4_has) := goodIn_app (goodIn_of _ (by decide +kernel)) ggX4_extend_X4_has
set_option maxRecDepth 20000 in
theorem ggX4_extend_X5_a : GoodIn wsX4_extend wsX5_a := goodIn_r _ [12, 13, 14, 15, 16, 11, 17, 18, 51, 52, 53, 54] (by decide +kernel) (by decide +kernel)
set_option maxRecDepth 20000 in
theorem gX4_extend_X5_a : GoodIn wsX4_extend (wsV RX4 25 RX5 yX5_a wsX5_a) := goodIn_app (goodIn_of _ (by decide +kernel)) ggX4_extend_X5_a
set_option maxRecDepth 20000 in
theorem ggX4_extend_X5_b : GoodIn wsX4_extend wsX5_b := goodIn_r _ [22, 23, 14, 15, 16, 11, 17, 18, 51, 52, 53, 54] (by decide +kernel) (by decide +kernel)
set_option maxRecDepth 20000 in
theorem gX4_extend_X5_b : GoodIn wsX4_extend (wsV RX4 31 RX5 yX5_b wsX5_b) := goodIn_app (goodIn_of _ (by decide +kernel)) ggX4_extend_X5_b
set_option maxRecDepth 20000 in
theorem ggX4_extend_X5_d : GoodIn wsX4_extend wsX5_d := goodIn_r _ [27, 28, 14, 15, 16, 11, 17, 18, 51, 52, 53, 54] (by decide +kernel) (by decide +kernel)
set_option maxRecDepth 20000 in
theorem gX4_extend_X5_d : GoodIn wsX4_extend (wsV RX4 34 RX5 yX5_d wsX5_d) := goodIn_app (goodIn_of _ (by decide +kernel)) ggX4_extend_X5_d
set_option maxRecDepth 20000 in
theorem ggX4_extend_X4_fits : GoodIn wsX4_extend wsX4_fits := goodIn_r _ [32, 1, 2, 3, 4, 5, 6, 7, 33, 34, 35, 36, 37, 48, 49, 50] (by decide +kernel) (by decide +kernel)
set_option maxRecDepth 20000 in
theorem gX4_extend_X4_fits : GoodIn wsX4_extend (wsV RX4 37 RX4 yX4_fits wsX4_fits) := goodIn_app (goodIn_of _ (by decide +kernel)) ggX4_extend_X4_fits
set_option maxRecDepth 20000 in
theorem ggX4_extend_X4_reduce : GoodIn wsX4_extend wsX4_reduce := goodIn_ca (goodIn_r _ [41, 1, 3, 2, 4, 5, 6, 7, 42, 34, 43, 44, 45, 46, 47, 48, 49, 50] (by decide +kernel) (by decide +kernel)) (goodIn_sub (fun _ h => List.mem_cons_of_mem _ (List.mem_append_right _ h)) (by decide +kernel))
set_option maxRecDepth 20000 in
theorem gX4_extend_X4_reduce : GoodIn wsX4_extend (wsV RX4 40 RX4 yX4_reduce wsX4_reduce) := goodIn_app (goodIn_of _ (by decide +kernel)) ggX4_extend_X4_reduce
theorem dX4_extend_0 : decode cX4_extend 0 = .ok (.iload_n 1, 1) := by decide +kernel
theorem dX4_extend_1 : decode cX4_extend 1 = .ok (.invokestatic 21, 3) := by decide +kernel
theorem dX4_extend_4 : decode cX4_extend 4 = .ok (.ifCond .eq 12, 3) := by decide +kernel
theorem dX4_extend_7 : decode cX4_extend 7 = .ok (.iload_n 1, 1) := by decide +kernel
theorem dX4_extend_8 : decode cX4_extend 8 = .ok (.iconst 1, 1) := by decide +kernel
theorem dX4_extend_9 : decode cX4_extend 9 = .ok (.iadd, 1) := by decide +kernel
theorem dX4_extend_10 : decode cX4_extend 10 = .ok (.invokestatic 21, 3) := by decide +kernel
theorem dX4_extend_13 : decode cX4_extend 13 = .ok (.ifCond .ne 5, 3) := by decide +kernel
theorem dX4_extend_16 : decode cX4_extend 16 = .ok (.iconst 0, 1) := by decide +kernel
theorem dX4_extend_17 : decode cX4_extend 17 = .ok (.ireturn, 1) := by decide +kernel
theorem dX4_extend_18 : decode cX4_extend 18 = .ok (.aload_n 0, 1) := by decide +kernel
theorem dX4_extend_19 : decode cX4_extend 19 = .ok (.getfield 9, 3) := by decide +kernel
theorem dX4_extend_22 : decode cX4_extend 22 = .ok (.iload_n 1, 1) := by decide +kernel
theorem dX4_extend_23 : decode cX4_extend 23 = .ok (.iconst 1, 1) := by decide +kernel
theorem dX4_extend_24 : decode cX4_extend 24 = .ok (.iadd, 1) := by decide +kernel
theorem dX4_extend_25 : decode cX4_extend 25 = .ok (.aload_n 2, 1) := by decide +kernel
theorem dX4_extend_26 : decode cX4_extend 26 = .ok (.iload_n 3, 1) := by decide +kernel
theorem dX4_extend_27 : decode cX4_extend 27 = .ok (.invokevirtual 25, 3) := by decide +kernel
theorem dX4_extend_30 : decode cX4_extend 30 = .ok (.aload_n 0, 1) := by decide +kernel
theorem dX4_extend_31 : decode cX4_extend 31 = .ok (.getfield 9, 3) := by decide +kernel
theorem dX4_extend_34 : decode cX4_extend 34 = .ok (.iload_n 1, 1) := by decide +kernel
theorem dX4_extend_35 : decode cX4_extend 35 = .ok (.laload, 1) := by decide +kernel
theorem dX4_extend_36 : decode cX4_extend 36 = .ok (.lmul, 1) := by decide +kernel
theorem dX4_extend_37 : decode cX4_extend 37 = .ok (.lastore, 1) := by decide +kernel
theorem dX4_extend_38 : decode cX4_extend 38 = .ok (.aload_n 0, 1) := by decide +kernel
theorem dX4_extend_39 : decode cX4_extend 39 = .ok (.getfield 15, 3) := by decide +kernel
theorem dX4_extend_42 : decode cX4_extend 42 = .ok (.iload_n 1, 1) := by decide +kernel
theorem dX4_extend_43 : decode cX4_extend 43 = .ok (.iconst 1, 1) := by decide +kernel
theorem dX4_extend_44 : decode cX4_extend 44 = .ok (.iadd, 1) := by decide +kernel
theorem dX4_extend_45 : decode cX4_extend 45 = .ok (.aload_n 2, 1) := by decide +kernel
theorem dX4_extend_46 : decode cX4_extend 46 = .ok (.iload_n 3, 1) := by decide +kernel
theorem dX4_extend_47 : decode cX4_extend 47 = .ok (.invokevirtual 25, 3) := by decide +kernel
theorem dX4_extend_50 : decode cX4_extend 50 = .ok (.aload_n 0, 1) := by decide +kernel
theorem dX4_extend_51 : decode cX4_extend 51 = .ok (.getfield 15, 3) := by decide +kernel
theorem dX4_extend_54 : decode cX4_extend 54 = .ok (.iload_n 1, 1) := by decide +kernel
theorem dX4_extend_55 : decode cX4_extend 55 = .ok (.laload, 1) := by decide +kernel
theorem dX4_extend_56 : decode cX4_extend 56 = .ok (.lmul, 1) := by decide +kernel
theorem dX4_extend_57 : decode cX4_extend 57 = .ok (.aload_n 2, 1) := by decide +kernel
theorem dX4_extend_58 : decode cX4_extend 58 = .ok (.iload_n 3, 1) := by decide +kernel
theorem dX4_extend_59 : decode cX4_extend 59 = .ok (.invokevirtual 31, 3) := by decide +kernel
theorem dX4_extend_62 : decode cX4_extend 62 = .ok (.aload_n 0, 1) := by decide +kernel
theorem dX4_extend_63 : decode cX4_extend 63 = .ok (.getfield 18, 3) := by decide +kernel
theorem dX4_extend_66 : decode cX4_extend 66 = .ok (.iload_n 1, 1) := by decide +kernel
theorem dX4_extend_67 : decode cX4_extend 67 = .ok (.laload, 1) := by decide +kernel
theorem dX4_extend_68 : decode cX4_extend 68 = .ok (.lmul, 1) := by decide +kernel
theorem dX4_extend_69 : decode cX4_extend 69 = .ok (.ladd, 1) := by decide +kernel
theorem dX4_extend_70 : decode cX4_extend 70 = .ok (.lastore, 1) := by decide +kernel
theorem dX4_extend_71 : decode cX4_extend 71 = .ok (.aload_n 0, 1) := by decide +kernel
theorem dX4_extend_72 : decode cX4_extend 72 = .ok (.getfield 18, 3) := by decide +kernel
theorem dX4_extend_75 : decode cX4_extend 75 = .ok (.iload_n 1, 1) := by decide +kernel
theorem dX4_extend_76 : decode cX4_extend 76 = .ok (.iconst 1, 1) := by decide +kernel
theorem dX4_extend_77 : decode cX4_extend 77 = .ok (.iadd, 1) := by decide +kernel
theorem dX4_extend_78 : decode cX4_extend 78 = .ok (.aload_n 2, 1) := by decide +kernel
theorem dX4_extend_79 : decode cX4_extend 79 = .ok (.iload_n 3, 1) := by decide +kernel
theorem dX4_extend_80 : decode cX4_extend 80 = .ok (.invokevirtual 34, 3) := by decide +kernel
theorem dX4_extend_83 : decode cX4_extend 83 = .ok (.aload_n 0, 1) := by decide +kernel
theorem dX4_extend_84 : decode cX4_extend 84 = .ok (.getfield 18, 3) := by decide +kernel
theorem dX4_extend_87 : decode cX4_extend 87 = .ok (.iload_n 1, 1) := by decide +kernel
theorem dX4_extend_88 : decode cX4_extend 88 = .ok (.laload, 1) := by decide +kernel
theorem dX4_extend_89 : decode cX4_extend 89 = .ok (.lmul, 1) := by decide +kernel
theorem dX4_extend_90 : decode cX4_extend 90 = .ok (.lastore, 1) := by decide +kernel
theorem dX4_extend_91 : decode cX4_extend 91 = .ok (.aload_n 0, 1) := by decide +kernel
theorem dX4_extend_92 : decode cX4_extend 92 = .ok (.iload_n 1, 1) := by decide +kernel
theorem dX4_extend_93 : decode cX4_extend 93 = .ok (.iconst 1, 1) := by decide +kernel
theorem dX4_extend_94 : decode cX4_extend 94 = .ok (.iadd, 1) := by decide +kernel
theorem dX4_extend_95 : decode cX4_extend 95 = .ok (.invokevirtual 37, 3) := by decide +kernel
theorem dX4_extend_98 : decode cX4_extend 98 = .ok (.ifCond .eq 5, 3) := by decide +kernel
theorem dX4_extend_101 : decode cX4_extend 101 = .ok (.iconst 1, 1) := by decide +kernel
theorem dX4_extend_102 : decode cX4_extend 102 = .ok (.ireturn, 1) := by decide +kernel
theorem dX4_extend_103 : decode cX4_extend 103 = .ok (.aload_n 0, 1) := by decide +kernel
theorem dX4_extend_104 : decode cX4_extend 104 = .ok (.iload_n 1, 1) := by decide +kernel
theorem dX4_extend_105 : decode cX4_extend 105 = .ok (.iconst 1, 1) := by decide +kernel
theorem dX4_extend_106 : decode cX4_extend 106 = .ok (.iadd, 1) := by decide +kernel
theorem dX4_extend_107 : decode cX4_extend 107 = .ok (.invokevirtual 40, 3) := by decide +kernel
theorem dX4_extend_110 : decode cX4_extend 110 = .ok (.aload_n 0, 1) := by decide +kernel
theorem dX4_extend_111 : decode cX4_extend 111 = .ok (.iload_n 1, 1) := by decide +kernel
theorem dX4_extend_112 : decode cX4_extend 112 = .ok (.iconst 1, 1) := by decide +kernel
theorem dX4_extend_113 : decode cX4_extend 113 = .ok (.iadd, 1) := by decide +kernel
theorem dX4_extend_114 : decode cX4_extend 114 = .ok (.invokevirtual 37, 3) := by decide +kernel
theorem dX4_extend_117 : decode cX4_extend 117 = .ok (.ireturn, 1) := by decide +kernel
set_option maxRecDepth 20000 in
theorem ggX4_fits_X4_has : GoodIn wsX4_fits wsX4_has := goodIn_r _ [7] (by decide +kernel) (by decide +kernel)
set_option maxRecDepth 20000 in
theorem gX4_fits_X4_has : GoodIn wsX4_fits (va_wsS RX4 21 yX4_has wsX4_has) := goodIn_app (goodIn_of _ (by decide +kernel)) ggX4_fits_X4_has
set_option maxRecDepth 20000 in
theorem ggX4_fits_X7_isNumber : GoodIn wsX4_fits wsX7_isNumber := goodIn_r _ [10, 11, 12] (by decide +kernel) (by decide +kernel)
set_option maxRecDepth 20000 in
theorem gX4_fits_X7_isNumber_n44 : GoodIn wsX4_fits (wsX7_isNumber) := ggX4_fits_X7_isNumber
theorem dX4_fits_0 : decode cX4_fits 0 = .ok (.iload_n 1, 1) := by decide +kernel
theorem dX4_fits_1 : decode cX4_fits 1 = .ok (.invokestatic 21, 3) := by decide +kernel
theorem dX4_fits_4 : decode cX4_fits 4 = .ok (.ifCond .eq 43, 3) := by decide +kernel
theorem dX4_fits_7 : decode cX4_fits 7 = .ok (.aload_n 0, 1) := by decide +kernel
theorem dX4_fits_8 : decode cX4_fits 8 = .ok (.getfield 9, 3) := by decide +kernel
theorem dX4_fits_11 : decode cX4_fits 11 = .ok (.iload_n 1, 1) := by decide +kernel
theorem dX4_fits_12 : decode cX4_fits 12 = .ok (.laload, 1) := by decide +kernel
theorem dX4_fits_13 : decode cX4_fits 13 = .ok (.invokestatic 44, 3) := by decide +kernel
theorem dX4_fits_16 : decode cX4_fits 16 = .ok (.ifCond .eq 31, 3) := by decide +kernel
theorem dX4_fits_19 : decode cX4_fits 19 = .ok (.aload_n 0, 1) := by decide +kernel
theorem dX4_fits_20 : decode cX4_fits 20 = .ok (.getfield 15, 3) := by decide +kernel
theorem dX4_fits_23 : decode cX4_fits 23 = .ok (.iload_n 1, 1) := by decide +kernel
theorem dX4_fits_24 : decode cX4_fits 24 = .ok (.laload, 1) := by decide +kernel
theorem dX4_fits_25 : decode cX4_fits 25 = .ok (.invokestatic 44, 3) := by decide +kernel
theorem dX4_fits_28 : decode cX4_fits 28 = .ok (.ifCond .eq 19, 3) := by decide +kernel
theorem dX4_fits_31 : decode cX4_fits 31 = .ok (.aload_n 0, 1) := by decide +kernel
theorem dX4_fits_32 : decode cX4_fits 32 = .ok (.getfield 18, 3) := by decide +kernel
theorem dX4_fits_35 : decode cX4_fits 35 = .ok (.iload_n 1, 1) := by decide +kernel
theorem dX4_fits_36 : decode cX4_fits 36 = .ok (.laload, 1) := by decide +kernel
theorem dX4_fits_37 : decode cX4_fits 37 = .ok (.invokestatic 44, 3) := by decide +kernel
theorem dX4_fits_40 : decode cX4_fits 40 = .ok (.ifCond .eq 7, 3) := by decide +kernel
theorem dX4_fits_43 : decode cX4_fits 43 = .ok (.iconst 1, 1) := by decide +kernel
theorem dX4_fits_44 : decode cX4_fits 44 = .ok (.goto 4, 3) := by decide +kernel
theorem dX4_fits_47 : decode cX4_fits 47 = .ok (.iconst 0, 1) := by decide +kernel
theorem dX4_fits_48 : decode cX4_fits 48 = .ok (.ireturn, 1) := by decide +kernel
set_option maxRecDepth 20000 in
theorem ggX4_reduce_X4_has : GoodIn wsX4_reduce wsX4_has := goodIn_r _ [7] (by decide +kernel) (by decide +kernel)
set_option maxRecDepth 20000 in
theorem gX4_reduce_X4_has : GoodIn wsX4_reduce (va_wsS RX4 21 yX4_has wsX4_has) := goodIn_app (goodIn_of _ (by decide +kernel)) ggX4_reduce_X4_has
set_option maxRecDepth 20000 in
theorem ggX4_reduce_X7_commonDivisor : GoodIn wsX4_reduce wsX7_commonDivisor := goodIn_ca (goodIn_r _ [10, 11, 12, 13, 14] (by decide +kernel) (by decide +kernel)) (goodIn_sub (fun _ h => List.mem_cons_of_mem _ (List.mem_append_right _ h)) (by decide +kernel))
set_option maxRecDepth 20000 in
theorem gX4_reduce_X7_commonDivisor_n48 : GoodIn wsX4_reduce (wsX7_commonDivisor) := ggX4_reduce_X7_commonDivisor
theorem dX4_reduce_0 : decode cX4_reduce 0 = .ok (.iload_n 1, 1) := by decide +kernel
theorem dX4_reduce_1 : decode cX4_reduce 1 = .ok (.invokestatic 21, 3) := by decide +kernel
theorem dX4_reduce_4 : decode cX4_reduce 4 = .ok (.ifCond .eq 58, 3) := by decide +kernel
theorem dX4_reduce_7 : decode cX4_reduce 7 = .ok (.aload_n 0, 1) := by decide +kernel
theorem dX4_reduce_8 : decode cX4_reduce 8 = .ok (.getfield 9, 3) := by decide +kernel
theorem dX4_reduce_11 : decode cX4_reduce 11 = .ok (.iload_n 1, 1) := by decide +kernel
theorem dX4_reduce_12 : decode cX4_reduce 12 = .ok (.laload, 1) := by decide +kernel
theorem dX4_reduce_13 : decode cX4_reduce 13 = .ok (.aload_n 0, 1) := by decide +kernel
theorem dX4_reduce_14 : decode cX4_reduce 14 = .ok (.getfield 18, 3) := by decide +kernel
theorem dX4_reduce_17 : decode cX4_reduce 17 = .ok (.iload_n 1, 1) := by decide +kernel
theorem dX4_reduce_18 : decode cX4_reduce 18 = .ok (.laload, 1) := by decide +kernel
theorem dX4_reduce_19 : decode cX4_reduce 19 = .ok (.invokestatic 48, 3) := by decide +kernel
theorem dX4_reduce_22 : decode cX4_reduce 22 = .ok (.aload_n 0, 1) := by decide +kernel
theorem dX4_reduce_23 : decode cX4_reduce 23 = .ok (.getfield 15, 3) := by decide +kernel
theorem dX4_reduce_26 : decode cX4_reduce 26 = .ok (.iload_n 1, 1) := by decide +kernel
theorem dX4_reduce_27 : decode cX4_reduce 27 = .ok (.laload, 1) := by decide +kernel
theorem dX4_reduce_28 : decode cX4_reduce 28 = .ok (.invokestatic 48, 3) := by decide +kernel
theorem dX4_reduce_31 : decode cX4_reduce 31 = .ok (.lstore_n 2, 1) := by decide +kernel
theorem dX4_reduce_32 : decode cX4_reduce 32 = .ok (.aload_n 0, 1) := by decide +kernel
theorem dX4_reduce_33 : decode cX4_reduce 33 = .ok (.getfield 9, 3) := by decide +kernel
theorem dX4_reduce_36 : decode cX4_reduce 36 = .ok (.iload_n 1, 1) := by decide +kernel
theorem dX4_reduce_37 : decode cX4_reduce 37 = .ok (.dup2, 1) := by decide +kernel
theorem dX4_reduce_38 : decode cX4_reduce 38 = .ok (.laload, 1) := by decide +kernel
theorem dX4_reduce_39 : decode cX4_reduce 39 = .ok (.lload_n 2, 1) := by decide +kernel
theorem dX4_reduce_40 : decode cX4_reduce 40 = .ok (.ldiv, 1) := by decide +kernel
theorem dX4_reduce_41 : decode cX4_reduce 41 = .ok (.lastore, 1) := by decide +kernel
theorem dX4_reduce_42 : decode cX4_reduce 42 = .ok (.aload_n 0, 1) := by decide +kernel
theorem dX4_reduce_43 : decode cX4_reduce 43 = .ok (.getfield 15, 3) := by decide +kernel
theorem dX4_reduce_46 : decode cX4_reduce 46 = .ok (.iload_n 1, 1) := by decide +kernel
theorem dX4_reduce_47 : decode cX4_reduce 47 = .ok (.dup2, 1) := by decide +kernel
theorem dX4_reduce_48 : decode cX4_reduce 48 = .ok (.laload, 1) := by decide +kernel
theorem dX4_reduce_49 : decode cX4_reduce 49 = .ok (.lload_n 2, 1) := by decide +kernel
theorem dX4_reduce_50 : decode cX4_reduce 50 = .ok (.ldiv, 1) := by decide +kernel
theorem dX4_reduce_51 : decode cX4_reduce 51 = .ok (.lastore, 1) := by decide +kernel
theorem dX4_reduce_52 : decode cX4_reduce 52 = .ok (.aload_n 0, 1) := by decide +kernel
theorem dX4_reduce_53 : decode cX4_reduce 53 = .ok (.getfield 18, 3) := by decide +kernel
theorem dX4_reduce_56 : decode cX4_reduce 56 = .ok (.iload_n 1, 1) := by decide +kernel
theorem dX4_reduce_57 : decode cX4_reduce 57 = .ok (.dup2, 1) := by decide +kernel
theorem dX4_reduce_58 : decode cX4_reduce 58 = .ok (.laload, 1) := by decide +kernel
theorem dX4_reduce_59 : decode cX4_reduce 59 = .ok (.lload_n 2, 1) := by decide +kernel
theorem dX4_reduce_60 : decode cX4_reduce 60 = .ok (.ldiv, 1) := by decide +kernel
theorem dX4_reduce_61 : decode cX4_reduce 61 = .ok (.lastore, 1) := by decide +kernel
theorem dX4_reduce_62 : decode cX4_reduce 62 = .ok (.return_, 1) := by decide +kernel
theorem dX5_init_0 : decode cX5_init 0 = .ok (.aload_n 0, 1) := by decide +kernel
theorem dX5_init_1 : decode cX5_init 1 = .ok (.invokespecial 3, 3) := by decide +kernel
theorem dX5_init_4 : decode cX5_init 4 = .ok (.aload_n 0, 1) := by decide +kernel
theorem dX5_init_5 : decode cX5_init 5 = .ok (.iconst 0, 1) := by decide +kernel
theorem dX5_init_6 : decode cX5_init 6 = .ok (.putfield 9, 3) := by decide +kernel
theorem dX5_init_9 : decode cX5_init 9 = .ok (.aload_n 0, 1) := by decide +kernel
theorem dX5_init_10 : decode cX5_init 10 = .ok (.bipush 64, 2) := by decide +kernel
theorem dX5_init_12 : decode cX5_init 12 = .ok (.newarray .long, 2) := by decide +kernel
theorem dX5_init_14 : decode cX5_init 14 = .ok (.putfield 15, 3) := by decide +kernel
theorem dX5_init_17 : decode cX5_init 17 = .ok (.aload_n 0, 1) := by decide +kernel
theorem dX5_init_18 : decode cX5_init 18 = .ok (.bipush 64, 2) := by decide +kernel
theorem dX5_init_20 : decode cX5_init 20 = .ok (.newarray .long, 2) := by decide +kernel
theorem dX5_init_22 : decode cX5_init 22 = .ok (.putfield 19, 3) := by decide +kernel
theorem dX5_init_25 : decode cX5_init 25 = .ok (.aload_n 0, 1) := by decide +kernel
theorem dX5_init_26 : decode cX5_init 26 = .ok (.bipush 64, 2) := by decide +kernel
theorem dX5_init_28 : decode cX5_init 28 = .ok (.newarray .long, 2) := by decide +kernel
theorem dX5_init_30 : decode cX5_init 30 = .ok (.putfield 22, 3) := by decide +kernel
theorem dX5_init_33 : decode cX5_init 33 = .ok (.return_, 1) := by decide +kernel
theorem dX5_measure_0 : decode cX5_measure 0 = .ok (.aload_n 0, 1) := by decide +kernel
theorem dX5_measure_1 : decode cX5_measure 1 = .ok (.getfield 9, 3) := by decide +kernel
theorem dX5_measure_4 : decode cX5_measure 4 = .ok (.ireturn, 1) := by decide +kernel
theorem dX5_has_0 : decode cX5_has 0 = .ok (.iload_n 1, 1) := by decide +kernel
theorem dX5_has_1 : decode cX5_has 1 = .ok (.ifCond .lt 21, 3) := by decide +kernel
theorem dX5_has_4 : decode cX5_has 4 = .ok (.iload_n 1, 1) := by decide +kernel
theorem dX5_has_5 : decode cX5_has 5 = .ok (.aload_n 0, 1) := by decide +kernel
theorem dX5_has_6 : decode cX5_has 6 = .ok (.getfield 9, 3) := by decide +kernel
theorem dX5_has_9 : decode cX5_has 9 = .ok (.if_icmp .ge 13, 3) := by decide +kernel
theorem dX5_has_12 : decode cX5_has 12 = .ok (.iload_n 1, 1) := by decide +kernel
theorem dX5_has_13 : decode cX5_has 13 = .ok (.bipush 64, 2) := by decide +kernel
theorem dX5_has_15 : decode cX5_has 15 = .ok (.if_icmp .ge 7, 3) := by decide +kernel
theorem dX5_has_18 : decode cX5_has 18 = .ok (.iconst 1, 1) := by decide +kernel
theorem dX5_has_19 : decode cX5_has 19 = .ok (.goto 4, 3) := by decide +kernel
theorem dX5_has_22 : decode cX5_has 22 = .ok (.iconst 0, 1) := by decide +kernel
theorem dX5_has_23 : decode cX5_has 23 = .ok (.ireturn, 1) := by decide +kernel
set_option maxRecDepth 20000 in
theorem ggX5_begin_J7_fill_d0a16 : GoodIn wsX5_begin wsJ7_fill_d0a16 := goodIn_r _ [8] (by decide +kernel) (by decide +kernel)
set_option maxRecDepth 20000 in
theorem gX5_begin_J7_fill_d0a16 : GoodIn wsX5_begin (va_wsS RX5 25 yJ7_fill_d0a16 wsJ7_fill_d0a16) := goodIn_app (goodIn_of _ (by decide +kernel)) ggX5_begin_J7_fill_d0a16
theorem dX5_begin_0 : decode cX5_begin 0 = .ok (.aload_n 0, 1) := by decide +kernel
theorem dX5_begin_1 : decode cX5_begin 1 = .ok (.iload_n 1, 1) := by decide +kernel
theorem dX5_begin_2 : decode cX5_begin 2 = .ok (.putfield 9, 3) := by decide +kernel
theorem dX5_begin_5 : decode cX5_begin 5 = .ok (.aload_n 0, 1) := by decide +kernel
theorem dX5_begin_6 : decode cX5_begin 6 = .ok (.getfield 15, 3) := by decide +kernel
theorem dX5_begin_9 : decode cX5_begin 9 = .ok (.lconst 1, 1) := by decide +kernel
theorem dX5_begin_10 : decode cX5_begin 10 = .ok (.invokestatic 25, 3) := by decide +kernel
theorem dX5_begin_13 : decode cX5_begin 13 = .ok (.aload_n 0, 1) := by decide +kernel
theorem dX5_begin_14 : decode cX5_begin 14 = .ok (.getfield 19, 3) := by decide +kernel
theorem dX5_begin_17 : decode cX5_begin 17 = .ok (.lconst 0, 1) := by decide +kernel
theorem dX5_begin_18 : decode cX5_begin 18 = .ok (.invokestatic 25, 3) := by decide +kernel
theorem dX5_begin_21 : decode cX5_begin 21 = .ok (.aload_n 0, 1) := by decide +kernel
theorem dX5_begin_22 : decode cX5_begin 22 = .ok (.getfield 22, 3) := by decide +kernel
theorem dX5_begin_25 : decode cX5_begin 25 = .ok (.lconst 1, 1) := by decide +kernel
theorem dX5_begin_26 : decode cX5_begin 26 = .ok (.invokestatic 25, 3) := by decide +kernel
theorem dX5_begin_29 : decode cX5_begin 29 = .ok (.return_, 1) := by decide +kernel
theorem dX5_drop_0 : decode cX5_drop 0 = .ok (.aload_n 0, 1) := by decide +kernel
theorem dX5_drop_1 : decode cX5_drop 1 = .ok (.iconst 0, 1) := by decide +kernel
theorem dX5_drop_2 : decode cX5_drop 2 = .ok (.putfield 9, 3) := by decide +kernel
theorem dX5_drop_5 : decode cX5_drop 5 = .ok (.return_, 1) := by decide +kernel
theorem dX5_become_0 : decode cX5_become 0 = .ok (.aload_n 0, 1) := by decide +kernel
theorem dX5_become_1 : decode cX5_become 1 = .ok (.aload_n 1, 1) := by decide +kernel
theorem dX5_become_2 : decode cX5_become 2 = .ok (.getfield 9, 3) := by decide +kernel
theorem dX5_become_5 : decode cX5_become 5 = .ok (.putfield 9, 3) := by decide +kernel
theorem dX5_become_8 : decode cX5_become 8 = .ok (.aload_n 1, 1) := by decide +kernel
theorem dX5_become_9 : decode cX5_become 9 = .ok (.getfield 15, 3) := by decide +kernel
theorem dX5_become_12 : decode cX5_become 12 = .ok (.iconst 0, 1) := by decide +kernel
theorem dX5_become_13 : decode cX5_become 13 = .ok (.aload_n 0, 1) := by decide +kernel
theorem dX5_become_14 : decode cX5_become 14 = .ok (.getfield 15, 3) := by decide +kernel
theorem dX5_become_17 : decode cX5_become 17 = .ok (.iconst 0, 1) := by decide +kernel
theorem dX5_become_18 : decode cX5_become 18 = .ok (.bipush 64, 2) := by decide +kernel
theorem dX5_become_20 : decode cX5_become 20 = .ok (.invokestatic 31, 3) := by decide +kernel
theorem dX5_become_23 : decode cX5_become 23 = .ok (.aload_n 1, 1) := by decide +kernel
theorem dX5_become_24 : decode cX5_become 24 = .ok (.getfield 19, 3) := by decide +kernel
theorem dX5_become_27 : decode cX5_become 27 = .ok (.iconst 0, 1) := by decide +kernel
theorem dX5_become_28 : decode cX5_become 28 = .ok (.aload_n 0, 1) := by decide +kernel
theorem dX5_become_29 : decode cX5_become 29 = .ok (.getfield 19, 3) := by decide +kernel
theorem dX5_become_32 : decode cX5_become 32 = .ok (.iconst 0, 1) := by decide +kernel
theorem dX5_become_33 : decode cX5_become 33 = .ok (.bipush 64, 2) := by decide +kernel
theorem dX5_become_35 : decode cX5_become 35 = .ok (.invokestatic 31, 3) := by decide +kernel
theorem dX5_become_38 : decode cX5_become 38 = .ok (.aload_n 1, 1) := by decide +kernel
theorem dX5_become_39 : decode cX5_become 39 = .ok (.getfield 22, 3) := by decide +kernel
theorem dX5_become_42 : decode cX5_become 42 = .ok (.iconst 0, 1) := by decide +kernel
theorem dX5_become_43 : decode cX5_become 43 = .ok (.aload_n 0, 1) := by decide +kernel
theorem dX5_become_44 : decode cX5_become 44 = .ok (.getfield 22, 3) := by decide +kernel
theorem dX5_become_47 : decode cX5_become 47 = .ok (.iconst 0, 1) := by decide +kernel
theorem dX5_become_48 : decode cX5_become 48 = .ok (.bipush 64, 2) := by decide +kernel
theorem dX5_become_50 : decode cX5_become 50 = .ok (.invokestatic 31, 3) := by decide +kernel
theorem dX5_become_53 : decode cX5_become 53 = .ok (.return_, 1) := by decide +kernel
set_option maxRecDepth 20000 in
theorem ggX5_read_X5_has : GoodIn wsX5_read wsX5_has := goodIn_r _ [8, 9, 10, 11, 12, 13] (by decide +kernel) (by decide +kernel)
set_option maxRecDepth 20000 in
theorem gX5_read_X5_has : GoodIn wsX5_read (wsV RX5 37 RX5 yX5_has wsX5_has) := goodIn_app (goodIn_of _ (by decide +kernel)) ggX5_read_X5_has
theorem dX5_read_0 : decode cX5_read 0 = .ok (.aload_n 0, 1) := by decide +kernel
theorem dX5_read_1 : decode cX5_read 1 = .ok (.iload_n 1, 1) := by decide +kernel
theorem dX5_read_2 : decode cX5_read 2 = .ok (.invokevirtual 37, 3) := by decide +kernel
theorem dX5_read_5 : decode cX5_read 5 = .ok (.ifCond .ne 5, 3) := by decide +kernel
theorem dX5_read_8 : decode cX5_read 8 = .ok (.lconst 0, 1) := by decide +kernel
theorem dX5_read_9 : decode cX5_read 9 = .ok (.lreturn, 1) := by decide +kernel
theorem dX5_read_10 : decode cX5_read 10 = .ok (.iload_n 2, 1) := by decide +kernel
theorem dX5_read_11 : decode cX5_read 11 = .ok (.ifCond .ne 12, 3) := by decide +kernel
theorem dX5_read_14 : decode cX5_read 14 = .ok (.aload_n 0, 1) := by decide +kernel
theorem dX5_read_15 : decode cX5_read 15 = .ok (.getfield 15, 3) := by decide +kernel
theorem dX5_read_18 : decode cX5_read 18 = .ok (.iload_n 1, 1) := by decide +kernel
theorem dX5_read_19 : decode cX5_read 19 = .ok (.laload, 1) := by decide +kernel
theorem dX5_read_20 : decode cX5_read 20 = .ok (.goto 23, 3) := by decide +kernel
theorem dX5_read_23 : decode cX5_read 23 = .ok (.iload_n 2, 1) := by decide +kernel
theorem dX5_read_24 : decode cX5_read 24 = .ok (.iconst 1, 1) := by decide +kernel
theorem dX5_read_25 : decode cX5_read 25 = .ok (.if_icmp .ne 12, 3) := by decide +kernel
theorem dX5_read_28 : decode cX5_read 28 = .ok (.aload_n 0, 1) := by decide +kernel
theorem dX5_read_29 : decode cX5_read 29 = .ok (.getfield 19, 3) := by decide +kernel
theorem dX5_read_32 : decode cX5_read 32 = .ok (.iload_n 1, 1) := by decide +kernel
theorem dX5_read_33 : decode cX5_read 33 = .ok (.laload, 1) := by decide +kernel
theorem dX5_read_34 : decode cX5_read 34 = .ok (.goto 9, 3) := by decide +kernel
theorem dX5_read_37 : decode cX5_read 37 = .ok (.aload_n 0, 1) := by decide +kernel
theorem dX5_read_38 : decode cX5_read 38 = .ok (.getfield 22, 3) := by decide +kernel
theorem dX5_read_41 : decode cX5_read 41 = .ok (.iload_n 1, 1) := by decide +kernel
theorem dX5_read_42 : decode cX5_read 42 = .ok (.laload, 1) := by decide +kernel
theorem dX5_read_43 : decode cX5_read 43 = .ok (.lreturn, 1) := by decide +kernel
set_option maxRecDepth 20000 in
theorem ggX5_write_X5_has : GoodIn wsX5_write wsX5_has := goodIn_r _ [8, 9, 10, 11, 12, 13] (by decide +kernel) (by decide +kernel)
set_option maxRecDepth 20000 in
theorem gX5_write_X5_has : GoodIn wsX5_write (wsV RX5 37 RX5 yX5_has wsX5_has) := goodIn_app (goodIn_of _ (by decide +kernel)) ggX5_write_X5_has
theorem dX5_write_0 : decode cX5_write 0 = .ok (.aload_n 0, 1) := by decide +kernel
theorem dX5_write_1 : decode cX5_write 1 = .ok (.iload_n 1, 1) := by decide +kernel
theorem dX5_write_2 : decode cX5_write 2 = .ok (.invokevirtual 37, 3) := by decide +kernel
theorem dX5_write_5 : decode cX5_write 5 = .ok (.ifCond .ne 4, 3) := by decide +kernel
theorem dX5_write_8 : decode cX5_write 8 = .ok (.return_, 1) := by decide +kernel
theorem dX5_write_9 : decode cX5_write 9 = .ok (.iload_n 2, 1) := by decide +kernel
theorem dX5_write_10 : decode cX5_write 10 = .ok (.ifCond .ne 13, 3) := by decide +kernel
theorem dX5_write_13 : decode cX5_write 13 = .ok (.aload_n 0, 1) := by decide +kernel
theorem dX5_write_14 : decode cX5_write 14 = .ok (.getfield 15, 3) := by decide +kernel
theorem dX5_write_17 : decode cX5_write 17 = .ok (.iload_n 1, 1) := by decide +kernel
theorem dX5_write_18 : decode cX5_write 18 = .ok (.lload_n 3, 1) := by decide +kernel
theorem dX5_write_19 : decode cX5_write 19 = .ok (.lastore, 1) := by decide +kernel
theorem dX5_write_20 : decode cX5_write 20 = .ok (.goto 25, 3) := by decide +kernel
theorem dX5_write_23 : decode cX5_write 23 = .ok (.iload_n 2, 1) := by decide +kernel
theorem dX5_write_24 : decode cX5_write 24 = .ok (.iconst 1, 1) := by decide +kernel
theorem dX5_write_25 : decode cX5_write 25 = .ok (.if_icmp .ne 13, 3) := by decide +kernel
theorem dX5_write_28 : decode cX5_write 28 = .ok (.aload_n 0, 1) := by decide +kernel
theorem dX5_write_29 : decode cX5_write 29 = .ok (.getfield 19, 3) := by decide +kernel
theorem dX5_write_32 : decode cX5_write 32 = .ok (.iload_n 1, 1) := by decide +kernel
theorem dX5_write_33 : decode cX5_write 33 = .ok (.lload_n 3, 1) := by decide +kernel
theorem dX5_write_34 : decode cX5_write 34 = .ok (.lastore, 1) := by decide +kernel
theorem dX5_write_35 : decode cX5_write 35 = .ok (.goto 10, 3) := by decide +kernel
theorem dX5_write_38 : decode cX5_write 38 = .ok (.aload_n 0, 1) := by decide +kernel
theorem dX5_write_39 : decode cX5_write 39 = .ok (.getfield 22, 3) := by decide +kernel
theorem dX5_write_42 : decode cX5_write 42 = .ok (.iload_n 1, 1) := by decide +kernel
theorem dX5_write_43 : decode cX5_write 43 = .ok (.lload_n 3, 1) := by decide +kernel
theorem dX5_write_44 : decode cX5_write 44 = .ok (.lastore, 1) := by decide +kernel
theorem dX5_write_45 : decode cX5_write 45 = .ok (.return_, 1) := by decide +kernel
set_option maxRecDepth 20000 in
theorem ggX5_a_X5_has : GoodIn wsX5_a wsX5_has := goodIn_r _ [6, 7, 8, 9, 10, 11] (by decide +kernel) (by decide +kernel)
set_option maxRecDepth 20000 in
theorem gX5_a_X5_has : GoodIn wsX5_a (wsV RX5 37 RX5 yX5_has wsX5_has) := goodIn_app (goodIn_of _ (by decide +kernel)) ggX5_a_X5_has
theorem dX5_a_0 : decode cX5_a 0 = .ok (.aload_n 0, 1) := by decide +kernel
theorem dX5_a_1 : decode cX5_a 1 = .ok (.iload_n 1, 1) := by decide +kernel
theorem dX5_a_2 : decode cX5_a 2 = .ok (.invokevirtual 37, 3) := by decide +kernel
theorem dX5_a_5 : decode cX5_a 5 = .ok (.ifCond .eq 12, 3) := by decide +kernel
theorem dX5_a_8 : decode cX5_a 8 = .ok (.aload_n 0, 1) := by decide +kernel
theorem dX5_a_9 : decode cX5_a 9 = .ok (.getfield 15, 3) := by decide +kernel
theorem dX5_a_12 : decode cX5_a 12 = .ok (.iload_n 1, 1) := by decide +kernel
theorem dX5_a_13 : decode cX5_a 13 = .ok (.laload, 1) := by decide +kernel
theorem dX5_a_14 : decode cX5_a 14 = .ok (.goto 4, 3) := by decide +kernel
theorem dX5_a_17 : decode cX5_a 17 = .ok (.lconst 0, 1) := by decide +kernel
theorem dX5_a_18 : decode cX5_a 18 = .ok (.lreturn, 1) := by decide +kernel
set_option maxRecDepth 20000 in
theorem ggX5_b_X5_has : GoodIn wsX5_b wsX5_has := goodIn_r _ [6, 7, 8, 9, 10, 11] (by decide +kernel) (by decide +kernel)
set_option maxRecDepth 20000 in
theorem gX5_b_X5_has : GoodIn wsX5_b (wsV RX5 37 RX5 yX5_has wsX5_has) := goodIn_app (goodIn_of _ (by decide +kernel)) ggX5_b_X5_has
theorem dX5_b_0 : decode cX5_b 0 = .ok (.aload_n 0, 1) := by decide +kernel
theorem dX5_b_1 : decode cX5_b 1 = .ok (.iload_n 1, 1) := by decide +kernel
theorem dX5_b_2 : decode cX5_b 2 = .ok (.invokevirtual 37, 3) := by decide +kernel
theorem dX5_b_5 : decode cX5_b 5 = .ok (.ifCond .eq 12, 3) := by decide +kernel
theorem dX5_b_8 : decode cX5_b 8 = .ok (.aload_n 0, 1) := by decide +kernel
theorem dX5_b_9 : decode cX5_b 9 = .ok (.getfield 19, 3) := by decide +kernel
theorem dX5_b_12 : decode cX5_b 12 = .ok (.iload_n 1, 1) := by decide +kernel
theorem dX5_b_13 : decode cX5_b 13 = .ok (.laload, 1) := by decide +kernel
theorem dX5_b_14 : decode cX5_b 14 = .ok (.goto 4, 3) := by decide +kernel
theorem dX5_b_17 : decode cX5_b 17 = .ok (.lconst 0, 1) := by decide +kernel
theorem dX5_b_18 : decode cX5_b 18 = .ok (.lreturn, 1) := by decide +kernel
set_option maxRecDepth 20000 in
theorem ggX5_d_X5_has : GoodIn wsX5_d wsX5_has := goodIn_r _ [6, 7, 8, 9, 10, 11] (by decide +kernel) (by decide +kernel)
set_option maxRecDepth 20000 in
theorem gX5_d_X5_has : GoodIn wsX5_d (wsV RX5 37 RX5 yX5_has wsX5_has) := goodIn_app (goodIn_of _ (by decide +kernel)) ggX5_d_X5_has
theorem dX5_d_0 : decode cX5_d 0 = .ok (.aload_n 0, 1) := by decide +kernel
theorem dX5_d_1 : decode cX5_d 1 = .ok (.iload_n 1, 1) := by decide +kernel
theorem dX5_d_2 : decode cX5_d 2 = .ok (.invokevirtual 37, 3) := by decide +kernel
theorem dX5_d_5 : decode cX5_d 5 = .ok (.ifCond .eq 23, 3) := by decide +kernel
theorem dX5_d_8 : decode cX5_d 8 = .ok (.aload_n 0, 1) := by decide +kernel
theorem dX5_d_9 : decode cX5_d 9 = .ok (.getfield 22, 3) := by decide +kernel
theorem dX5_d_12 : decode cX5_d 12 = .ok (.iload_n 1, 1) := by decide +kernel
theorem dX5_d_13 : decode cX5_d 13 = .ok (.laload, 1) := by decide +kernel
theorem dX5_d_14 : decode cX5_d 14 = .ok (.lconst 1, 1) := by decide +kernel
theorem dX5_d_15 : decode cX5_d 15 = .ok (.lcmp, 1) := by decide +kernel
theorem dX5_d_16 : decode cX5_d 16 = .ok (.ifCond .le 12, 3) := by decide +kernel
theorem dX5_d_19 : decode cX5_d 19 = .ok (.aload_n 0, 1) := by decide +kernel
theorem dX5_d_20 : decode cX5_d 20 = .ok (.getfield 22, 3) := by decide +kernel
theorem dX5_d_23 : decode cX5_d 23 = .ok (.iload_n 1, 1) := by decide +kernel
theorem dX5_d_24 : decode cX5_d 24 = .ok (.laload, 1) := by decide +kernel
theorem dX5_d_25 : decode cX5_d 25 = .ok (.goto 4, 3) := by decide +kernel
theorem dX5_d_28 : decode cX5_d 28 = .ok (.lconst 1, 1) := by decide +kernel
theorem dX5_d_29 : decode cX5_d 29 = .ok (.lreturn, 1) := by decide +kernel
set_option maxRecDepth 20000 in
theorem ggX5_firstUnsound_X5_isSound : GoodIn wsX5_firstUnsound wsX5_isSound := goodIn_ca (goodIn_r _ [6, 1, 7, 8, 9, 5, 10, 11, 12, 13, 14, 15, 16, 17, 18, 19, 20, 21, 22, 23, 24, 25, 26, 27, 28, 29, 30, 31, 32, 33, 34, 35, 36, 37, 38] (by decide +kernel) (by decide +kernel)) (goodIn_sub (fun _ h => List.mem_cons_of_mem _ (List.mem_append_right _ h)) (by decide +kernel))
set_option maxRecDepth 20000 in
theorem gX5_firstUnsound_X5_isSound : GoodIn wsX5_firstUnsound (wsV RX5 41 RX5 yX5_isSound wsX5_isSound) := goodIn_app (goodIn_of _ (by decide +kernel)) ggX5_firstUnsound_X5_isSound
theorem dX5_firstUnsound_0 : decode cX5_firstUnsound 0 = .ok (.iconst 0, 1) := by decide +kernel
theorem dX5_firstUnsound_1 : decode cX5_firstUnsound 1 = .ok (.istore_n 1, 1) := by decide +kernel
theorem dX5_firstUnsound_2 : decode cX5_firstUnsound 2 = .ok (.iload_n 1, 1) := by decide +kernel
theorem dX5_firstUnsound_3 : decode cX5_firstUnsound 3 = .ok (.aload_n 0, 1) := by decide +kernel
theorem dX5_firstUnsound_4 : decode cX5_firstUnsound 4 = .ok (.getfield 9, 3) := by decide +kernel
theorem dX5_firstUnsound_7 : decode cX5_firstUnsound 7 = .ok (.if_icmp .ge 19, 3) := by decide +kernel
theorem dX5_firstUnsound_10 : decode cX5_firstUnsound 10 = .ok (.aload_n 0, 1) := by decide +kernel
theorem dX5_firstUnsound_11 : decode cX5_firstUnsound 11 = .ok (.iload_n 1, 1) := by decide +kernel
theorem dX5_firstUnsound_12 : decode cX5_firstUnsound 12 = .ok (.invokevirtual 41, 3) := by decide +kernel
theorem dX5_firstUnsound_15 : decode cX5_firstUnsound 15 = .ok (.ifCond .ne 5, 3) := by decide +kernel
theorem dX5_firstUnsound_18 : decode cX5_firstUnsound 18 = .ok (.iload_n 1, 1) := by decide +kernel
theorem dX5_firstUnsound_19 : decode cX5_firstUnsound 19 = .ok (.ireturn, 1) := by decide +kernel
theorem dX5_firstUnsound_20 : decode cX5_firstUnsound 20 = .ok (.iinc 1 1, 3) := by decide +kernel
theorem dX5_firstUnsound_23 : decode cX5_firstUnsound 23 = .ok (.goto (-21), 3) := by decide +kernel
theorem dX5_firstUnsound_26 : decode cX5_firstUnsound 26 = .ok (.iconst (-1), 1) := by decide +kernel
theorem dX5_firstUnsound_27 : decode cX5_firstUnsound 27 = .ok (.ireturn, 1) := by decide +kernel
set_option maxRecDepth 20000 in
theorem ggX5_isSound_X5_read : GoodIn wsX5_isSound wsX5_read := goodIn_r _ [6, 7, 8, 9, 10, 11, 12, 5, 13, 1, 31, 32, 33, 34] (by decide +kernel) (by decide +kernel)
set_option maxRecDepth 20000 in
theorem gX5_isSound_X5_read : GoodIn wsX5_isSound (wsV RX5 44 RX5 yX5_read wsX5_read) := goodIn_app (goodIn_of _ (by decide +kernel)) ggX5_isSound_X5_read
set_option maxRecDepth 20000 in
theorem ggX5_isSound_X5_isPart : GoodIn wsX5_isSound wsX5_isPart := goodIn_r _ [16, 17, 18] (by decide +kernel) (by decide +kernel)
set_option maxRecDepth 20000 in
theorem gX5_isSound_X5_isPart : GoodIn wsX5_isSound (va_wsS RX5 48 yX5_isPart wsX5_isPart) := goodIn_app (goodIn_of _ (by decide +kernel)) ggX5_isSound_X5_isPart
set_option maxRecDepth 20000 in
theorem ggX5_isSound_X5_a : GoodIn wsX5_isSound wsX5_a := goodIn_r _ [22, 7, 10, 11, 12, 5, 13, 1, 31, 32, 33, 34] (by decide +kernel) (by decide +kernel)
set_option maxRecDepth 20000 in
theorem gX5_isSound_X5_a : GoodIn wsX5_isSound (wsV RX5 52 RX5 yX5_a wsX5_a) := goodIn_app (goodIn_of _ (by decide +kernel)) ggX5_isSound_X5_a
set_option maxRecDepth 20000 in
theorem ggX5_isSound_X5_b : GoodIn wsX5_isSound wsX5_b := goodIn_r _ [26, 8, 10, 11, 12, 5, 13, 1, 31, 32, 33, 34] (by decide +kernel) (by decide +kernel)
set_option maxRecDepth 20000 in
theorem gX5_isSound_X5_b : GoodIn wsX5_isSound (wsV RX5 56 RX5 yX5_b wsX5_b) := goodIn_app (goodIn_of _ (by decide +kernel)) ggX5_isSound_X5_b
set_option maxRecDepth 20000 in
theorem ggX5_isSound_X5_d : GoodIn wsX5_isSound wsX5_d := goodIn_r _ [30, 9, 10, 11, 12, 5, 13, 1, 31, 32, 33, 34] (by decide +kernel) (by decide +kernel)
set_option maxRecDepth 20000 in
theorem gX5_isSound_X5_d : GoodIn wsX5_isSound (wsV RX5 59 RX5 yX5_d wsX5_d) := goodIn_app (goodIn_of _ (by decide +kernel)) ggX5_isSound_X5_d
theorem dX5_isSound_0 : decode cX5_isSound 0 = .ok (.aload_n 0, 1) := by decide +kernel
theorem dX5_isSound_1 : decode cX5_isSound 1 = .ok (.iload_n 1, 1) := by decide +kernel
theorem dX5_isSound_2 : decode cX5_isSound 2 = .ok (.iconst 0, 1) := by decide +kernel
theorem dX5_isSound_3 : decode cX5_isSound 3 = .ok (.invokevirtual 44, 3) := by decide +kernel
theorem dX5_isSound_6 : decode cX5_isSound 6 = .ok (.invokestatic 48, 3) := by decide +kernel
theorem dX5_isSound_9 : decode cX5_isSound 9 = .ok (.ifCond .eq 89, 3) := by decide +kernel
theorem dX5_isSound_12 : decode cX5_isSound 12 = .ok (.aload_n 0, 1) := by decide +kernel
theorem dX5_isSound_13 : decode cX5_isSound 13 = .ok (.iload_n 1, 1) := by decide +kernel
theorem dX5_isSound_14 : decode cX5_isSound 14 = .ok (.iconst 1, 1) := by decide +kernel
theorem dX5_isSound_15 : decode cX5_isSound 15 = .ok (.invokevirtual 44, 3) := by decide +kernel
theorem dX5_isSound_18 : decode cX5_isSound 18 = .ok (.invokestatic 48, 3) := by decide +kernel
theorem dX5_isSound_21 : decode cX5_isSound 21 = .ok (.ifCond .eq 77, 3) := by decide +kernel
theorem dX5_isSound_24 : decode cX5_isSound 24 = .ok (.aload_n 0, 1) := by decide +kernel
theorem dX5_isSound_25 : decode cX5_isSound 25 = .ok (.iload_n 1, 1) := by decide +kernel
theorem dX5_isSound_26 : decode cX5_isSound 26 = .ok (.iconst 2, 1) := by decide +kernel
theorem dX5_isSound_27 : decode cX5_isSound 27 = .ok (.invokevirtual 44, 3) := by decide +kernel
theorem dX5_isSound_30 : decode cX5_isSound 30 = .ok (.invokestatic 48, 3) := by decide +kernel
theorem dX5_isSound_33 : decode cX5_isSound 33 = .ok (.ifCond .eq 65, 3) := by decide +kernel
theorem dX5_isSound_36 : decode cX5_isSound 36 = .ok (.aload_n 0, 1) := by decide +kernel
theorem dX5_isSound_37 : decode cX5_isSound 37 = .ok (.iload_n 1, 1) := by decide +kernel
theorem dX5_isSound_38 : decode cX5_isSound 38 = .ok (.iconst 2, 1) := by decide +kernel
theorem dX5_isSound_39 : decode cX5_isSound 39 = .ok (.invokevirtual 44, 3) := by decide +kernel
theorem dX5_isSound_42 : decode cX5_isSound 42 = .ok (.lconst 1, 1) := by decide +kernel
theorem dX5_isSound_43 : decode cX5_isSound 43 = .ok (.lcmp, 1) := by decide +kernel
theorem dX5_isSound_44 : decode cX5_isSound 44 = .ok (.ifCond .lt 54, 3) := by decide +kernel
theorem dX5_isSound_47 : decode cX5_isSound 47 = .ok (.aload_n 0, 1) := by decide +kernel
theorem dX5_isSound_48 : decode cX5_isSound 48 = .ok (.iload_n 1, 1) := by decide +kernel
theorem dX5_isSound_49 : decode cX5_isSound 49 = .ok (.invokevirtual 52, 3) := by decide +kernel
theorem dX5_isSound_52 : decode cX5_isSound 52 = .ok (.iload_n 1, 1) := by decide +kernel
theorem dX5_isSound_53 : decode cX5_isSound 53 = .ok (.i2l, 1) := by decide +kernel
theorem dX5_isSound_54 : decode cX5_isSound 54 = .ok (.lmul, 1) := by decide +kernel
theorem dX5_isSound_55 : decode cX5_isSound 55 = .ok (.aload_n 0, 1) := by decide +kernel
theorem dX5_isSound_56 : decode cX5_isSound 56 = .ok (.iload_n 1, 1) := by decide +kernel
theorem dX5_isSound_57 : decode cX5_isSound 57 = .ok (.invokevirtual 56, 3) := by decide +kernel
theorem dX5_isSound_60 : decode cX5_isSound 60 = .ok (.ladd, 1) := by decide +kernel
theorem dX5_isSound_61 : decode cX5_isSound 61 = .ok (.aload_n 0, 1) := by decide +kernel
theorem dX5_isSound_62 : decode cX5_isSound 62 = .ok (.iload_n 1, 1) := by decide +kernel
theorem dX5_isSound_63 : decode cX5_isSound 63 = .ok (.invokevirtual 59, 3) := by decide +kernel
theorem dX5_isSound_66 : decode cX5_isSound 66 = .ok (.lrem, 1) := by decide +kernel
theorem dX5_isSound_67 : decode cX5_isSound 67 = .ok (.lconst 0, 1) := by decide +kernel
theorem dX5_isSound_68 : decode cX5_isSound 68 = .ok (.lcmp, 1) := by decide +kernel
theorem dX5_isSound_69 : decode cX5_isSound 69 = .ok (.ifCond .ne 29, 3) := by decide +kernel
theorem dX5_isSound_72 : decode cX5_isSound 72 = .ok (.aload_n 0, 1) := by decide +kernel
theorem dX5_isSound_73 : decode cX5_isSound 73 = .ok (.iload_n 1, 1) := by decide +kernel
theorem dX5_isSound_74 : decode cX5_isSound 74 = .ok (.invokevirtual 52, 3) := by decide +kernel
theorem dX5_isSound_77 : decode cX5_isSound 77 = .ok (.aload_n 0, 1) := by decide +kernel
theorem dX5_isSound_78 : decode cX5_isSound 78 = .ok (.getfield 9, 3) := by decide +kernel
theorem dX5_isSound_81 : decode cX5_isSound 81 = .ok (.i2l, 1) := by decide +kernel
theorem dX5_isSound_82 : decode cX5_isSound 82 = .ok (.lmul, 1) := by decide +kernel
theorem dX5_isSound_83 : decode cX5_isSound 83 = .ok (.aload_n 0, 1) := by decide +kernel
theorem dX5_isSound_84 : decode cX5_isSound 84 = .ok (.iload_n 1, 1) := by decide +kernel
theorem dX5_isSound_85 : decode cX5_isSound 85 = .ok (.invokevirtual 59, 3) := by decide +kernel
theorem dX5_isSound_88 : decode cX5_isSound 88 = .ok (.lrem, 1) := by decide +kernel
theorem dX5_isSound_89 : decode cX5_isSound 89 = .ok (.lconst 0, 1) := by decide +kernel
theorem dX5_isSound_90 : decode cX5_isSound 90 = .ok (.lcmp, 1) := by decide +kernel
theorem dX5_isSound_91 : decode cX5_isSound 91 = .ok (.ifCond .ne 7, 3) := by decide +kernel
theorem dX5_isSound_94 : decode cX5_isSound 94 = .ok (.iconst 1, 1) := by decide +kernel
theorem dX5_isSound_95 : decode cX5_isSound 95 = .ok (.goto 4, 3) := by decide +kernel
theorem dX5_isSound_98 : decode cX5_isSound 98 = .ok (.iconst 0, 1) := by decide +kernel
theorem dX5_isSound_99 : decode cX5_isSound 99 = .ok (.ireturn, 1) := by decide +kernel
theorem dX5_isPart_0 : decode cX5_isPart 0 = .ok (.lload_n 0, 1) := by decide +kernel
theorem dX5_isPart_1 : decode cX5_isPart 1 = .ok (.ldc2_w 62, 3) := by decide +kernel
theorem dX5_isPart_4 : decode cX5_isPart 4 = .ok (.lcmp, 1) := by decide +kernel
theorem dX5_isPart_5 : decode cX5_isPart 5 = .ok (.ifCond .lt 15, 3) := by decide +kernel
theorem dX5_isPart_8 : decode cX5_isPart 8 = .ok (.lload_n 0, 1) := by decide +kernel
theorem dX5_isPart_9 : decode cX5_isPart 9 = .ok (.ldc2_w 64, 3) := by decide +kernel
theorem dX5_isPart_12 : decode cX5_isPart 12 = .ok (.lcmp, 1) := by decide +kernel
theorem dX5_isPart_13 : decode cX5_isPart 13 = .ok (.ifCond .gt 7, 3) := by decide +kernel
theorem dX5_isPart_16 : decode cX5_isPart 16 = .ok (.iconst 1, 1) := by decide +kernel
theorem dX5_isPart_17 : decode cX5_isPart 17 = .ok (.goto 4, 3) := by decide +kernel
theorem dX5_isPart_20 : decode cX5_isPart 20 = .ok (.iconst 0, 1) := by decide +kernel
theorem dX5_isPart_21 : decode cX5_isPart 21 = .ok (.ireturn, 1) := by decide +kernel
set_option maxRecDepth 20000 in
theorem ggX5_restOf_J9_floorMod_f86c9 : GoodIn wsX5_restOf wsJ9_floorMod_f86c9 := goodIn_r _ [5] (by decide +kernel) (by decide +kernel)
set_option maxRecDepth 20000 in
theorem gX5_restOf_J9_floorMod_f86c9 : GoodIn wsX5_restOf (va_wsS RX5 66 yJ9_floorMod_f86c9 wsJ9_floorMod_f86c9) := goodIn_app (goodIn_of _ (by decide +kernel)) ggX5_restOf_J9_floorMod_f86c9
theorem dX5_restOf_0 : decode cX5_restOf 0 = .ok (.aload_n 0, 1) := by decide +kernel
theorem dX5_restOf_1 : decode cX5_restOf 1 = .ok (.getfield 9, 3) := by decide +kernel
theorem dX5_restOf_4 : decode cX5_restOf 4 = .ok (.iconst 1, 1) := by decide +kernel
theorem dX5_restOf_5 : decode cX5_restOf 5 = .ok (.if_icmp .ge 7, 3) := by decide +kernel
theorem dX5_restOf_8 : decode cX5_restOf 8 = .ok (.iconst 0, 1) := by decide +kernel
theorem dX5_restOf_9 : decode cX5_restOf 9 = .ok (.goto 13, 3) := by decide +kernel
theorem dX5_restOf_12 : decode cX5_restOf 12 = .ok (.lload_n 1, 1) := by decide +kernel
theorem dX5_restOf_13 : decode cX5_restOf 13 = .ok (.aload_n 0, 1) := by decide +kernel
theorem dX5_restOf_14 : decode cX5_restOf 14 = .ok (.getfield 9, 3) := by decide +kernel
theorem dX5_restOf_17 : decode cX5_restOf 17 = .ok (.i2l, 1) := by decide +kernel
theorem dX5_restOf_18 : decode cX5_restOf 18 = .ok (.invokestatic 66, 3) := by decide +kernel
theorem dX5_restOf_21 : decode cX5_restOf 21 = .ok (.l2i, 1) := by decide +kernel
theorem dX5_restOf_22 : decode cX5_restOf 22 = .ok (.ireturn, 1) := by decide +kernel
set_option maxRecDepth 20000 in
theorem ggX5_after_X5_restOf : GoodIn wsX5_after wsX5_restOf := goodIn_r _ [6, 7, 8, 9, 10, 11, 36, 37, 38, 39] (by decide +kernel) (by decide +kernel)
set_option maxRecDepth 20000 in
theorem gX5_after_X5_restOf : GoodIn wsX5_after (wsV RX5 72 RX5 yX5_restOf wsX5_restOf) := goodIn_app (goodIn_of _ (by decide +kernel)) ggX5_after_X5_restOf
set_option maxRecDepth 20000 in
theorem ggX5_after_X5_a : GoodIn wsX5_after wsX5_a := goodIn_r _ [15, 16, 17, 18, 19, 5, 20, 7, 36, 37, 38, 39] (by decide +kernel) (by decide +kernel)
set_option maxRecDepth 20000 in
theorem gX5_after_X5_a : GoodIn wsX5_after (wsV RX5 52 RX5 yX5_a wsX5_a) := goodIn_app (goodIn_of _ (by decide +kernel)) ggX5_after_X5_a
set_option maxRecDepth 20000 in
theorem ggX5_after_X5_b : GoodIn wsX5_after wsX5_b := goodIn_r _ [24, 25, 17, 18, 19, 5, 20, 7, 36, 37, 38, 39] (by decide +kernel) (by decide +kernel)
set_option maxRecDepth 20000 in
theorem gX5_after_X5_b : GoodIn wsX5_after (wsV RX5 56 RX5 yX5_b wsX5_b) := goodIn_app (goodIn_of _ (by decide +kernel)) ggX5_after_X5_b
set_option maxRecDepth 20000 in
theorem ggX5_after_X5_d : GoodIn wsX5_after wsX5_d := goodIn_r _ [29, 30, 17, 18, 19, 5, 20, 7, 36, 37, 38, 39] (by decide +kernel) (by decide +kernel)
set_option maxRecDepth 20000 in
theorem gX5_after_X5_d : GoodIn wsX5_after (wsV RX5 59 RX5 yX5_d wsX5_d) := goodIn_app (goodIn_of _ (by decide +kernel)) ggX5_after_X5_d
set_option maxRecDepth 20000 in
theorem ggX5_after_X7_isNumber : GoodIn wsX5_after wsX7_isNumber := goodIn_r _ [33, 34, 35] (by decide +kernel) (by decide +kernel)
set_option maxRecDepth 20000 in
theorem gX5_after_X7_isNumber_n76 : GoodIn wsX5_after (wsX7_isNumber) := ggX5_after_X7_isNumber
theorem dX5_after_0 : decode cX5_after 0 = .ok (.aload_n 0, 1) := by decide +kernel
theorem dX5_after_1 : decode cX5_after 1 = .ok (.lload_n 1, 1) := by decide +kernel
theorem dX5_after_2 : decode cX5_after 2 = .ok (.invokevirtual 72, 3) := by decide +kernel
theorem dX5_after_5 : decode cX5_after 5 = .ok (.istore_n 3, 1) := by decide +kernel
theorem dX5_after_6 : decode cX5_after 6 = .ok (.aload_n 0, 1) := by decide +kernel
theorem dX5_after_7 : decode cX5_after 7 = .ok (.iload_n 3, 1) := by decide +kernel
theorem dX5_after_8 : decode cX5_after 8 = .ok (.invokevirtual 52, 3) := by decide +kernel
theorem dX5_after_11 : decode cX5_after 11 = .ok (.lload_n 1, 1) := by decide +kernel
theorem dX5_after_12 : decode cX5_after 12 = .ok (.lmul, 1) := by decide +kernel
theorem dX5_after_13 : decode cX5_after 13 = .ok (.aload_n 0, 1) := by decide +kernel
theorem dX5_after_14 : decode cX5_after 14 = .ok (.iload_n 3, 1) := by decide +kernel
theorem dX5_after_15 : decode cX5_after 15 = .ok (.invokevirtual 56, 3) := by decide +kernel
theorem dX5_after_18 : decode cX5_after 18 = .ok (.ladd, 1) := by decide +kernel
theorem dX5_after_19 : decode cX5_after 19 = .ok (.aload_n 0, 1) := by decide +kernel
theorem dX5_after_20 : decode cX5_after 20 = .ok (.iload_n 3, 1) := by decide +kernel
theorem dX5_after_21 : decode cX5_after 21 = .ok (.invokevirtual 59, 3) := by decide +kernel
theorem dX5_after_24 : decode cX5_after 24 = .ok (.ldiv, 1) := by decide +kernel
theorem dX5_after_25 : decode cX5_after 25 = .ok (.lstore 4, 2) := by decide +kernel
theorem dX5_after_27 : decode cX5_after 27 = .ok (.lload 4, 2) := by decide +kernel
theorem dX5_after_29 : decode cX5_after 29 = .ok (.invokestatic 76, 3) := by decide +kernel
theorem dX5_after_32 : decode cX5_after 32 = .ok (.ifCond .eq 8, 3) := by decide +kernel
theorem dX5_after_35 : decode cX5_after 35 = .ok (.lload 4, 2) := by decide +kernel
theorem dX5_after_37 : decode cX5_after 37 = .ok (.goto 6, 3) := by decide +kernel
theorem dX5_after_40 : decode cX5_after 40 = .ok (.ldc2_w 79, 3) := by decide +kernel
theorem dX5_after_43 : decode cX5_after 43 = .ok (.lreturn, 1) := by decide +kernel
set_option maxRecDepth 20000 in
theorem ggX5_before_X5_a : GoodIn wsX5_before wsX5_a := goodIn_r _ [6, 7, 8, 9, 10, 5, 11, 12, 36, 37, 38, 39] (by decide +kernel) (by decide +kernel)
set_option maxRecDepth 20000 in
theorem gX5_before_X5_a : GoodIn wsX5_before (wsV RX5 52 RX5 yX5_a wsX5_a) := goodIn_app (goodIn_of _ (by decide +kernel)) ggX5_before_X5_a
set_option maxRecDepth 20000 in
theorem ggX5_before_X5_d : GoodIn wsX5_before wsX5_d := goodIn_r _ [16, 17, 8, 9, 10, 5, 11, 12, 36, 37, 38, 39] (by decide +kernel) (by decide +kernel)
set_option maxRecDepth 20000 in
theorem gX5_before_X5_d : GoodIn wsX5_before (wsV RX5 59 RX5 yX5_d wsX5_d) := goodIn_app (goodIn_of _ (by decide +kernel)) ggX5_before_X5_d
set_option maxRecDepth 20000 in
theorem ggX5_before_X5_b : GoodIn wsX5_before wsX5_b := goodIn_r _ [21, 22, 8, 9, 10, 5, 11, 12, 36, 37, 38, 39] (by decide +kernel) (by decide +kernel)
set_option maxRecDepth 20000 in
theorem gX5_before_X5_b : GoodIn wsX5_before (wsV RX5 56 RX5 yX5_b wsX5_b) := goodIn_app (goodIn_of _ (by decide +kernel)) ggX5_before_X5_b
set_option maxRecDepth 20000 in
theorem ggX5_before_X7_isNumber : GoodIn wsX5_before wsX7_isNumber := goodIn_r _ [25, 26, 27] (by decide +kernel) (by decide +kernel)
set_option maxRecDepth 20000 in
theorem gX5_before_X7_isNumber_n76 : GoodIn wsX5_before (wsX7_isNumber) := ggX5_before_X7_isNumber
set_option maxRecDepth 20000 in
theorem ggX5_before_X5_restOf : GoodIn wsX5_before wsX5_restOf := goodIn_r _ [31, 12, 32, 33, 34, 35, 36, 37, 38, 39] (by decide +kernel) (by decide +kernel)
set_option maxRecDepth 20000 in
theorem gX5_before_X5_restOf : GoodIn wsX5_before (wsV RX5 72 RX5 yX5_restOf wsX5_restOf) := goodIn_app (goodIn_of _ (by decide +kernel)) ggX5_before_X5_restOf
theorem dX5_before_0 : decode cX5_before 0 = .ok (.aload_n 0, 1) := by decide +kernel
theorem dX5_before_1 : decode cX5_before 1 = .ok (.iload_n 3, 1) := by decide +kernel
theorem dX5_before_2 : decode cX5_before 2 = .ok (.invokevirtual 52, 3) := by decide +kernel
theorem dX5_before_5 : decode cX5_before 5 = .ok (.lstore 4, 2) := by decide +kernel
theorem dX5_before_7 : decode cX5_before 7 = .ok (.lload 4, 2) := by decide +kernel
theorem dX5_before_9 : decode cX5_before 9 = .ok (.lconst 0, 1) := by decide +kernel
theorem dX5_before_10 : decode cX5_before 10 = .ok (.lcmp, 1) := by decide +kernel
theorem dX5_before_11 : decode cX5_before 11 = .ok (.ifCond .ne 7, 3) := by decide +kernel
theorem dX5_before_14 : decode cX5_before 14 = .ok (.ldc2_w 79, 3) := by decide +kernel
theorem dX5_before_17 : decode cX5_before 17 = .ok (.lreturn, 1) := by decide +kernel
theorem dX5_before_18 : decode cX5_before 18 = .ok (.aload_n 0, 1) := by decide +kernel
theorem dX5_before_19 : decode cX5_before 19 = .ok (.iload_n 3, 1) := by decide +kernel
theorem dX5_before_20 : decode cX5_before 20 = .ok (.invokevirtual 59, 3) := by decide +kernel
theorem dX5_before_23 : decode cX5_before 23 = .ok (.lload_n 1, 1) := by decide +kernel
theorem dX5_before_24 : decode cX5_before 24 = .ok (.lmul, 1) := by decide +kernel
theorem dX5_before_25 : decode cX5_before 25 = .ok (.aload_n 0, 1) := by decide +kernel
theorem dX5_before_26 : decode cX5_before 26 = .ok (.iload_n 3, 1) := by decide +kernel
theorem dX5_before_27 : decode cX5_before 27 = .ok (.invokevirtual 56, 3) := by decide +kernel
theorem dX5_before_30 : decode cX5_before 30 = .ok (.lsub, 1) := by decide +kernel
theorem dX5_before_31 : decode cX5_before 31 = .ok (.lstore 6, 2) := by decide +kernel
theorem dX5_before_33 : decode cX5_before 33 = .ok (.lload 6, 2) := by decide +kernel
theorem dX5_before_35 : decode cX5_before 35 = .ok (.lload 4, 2) := by decide +kernel
theorem dX5_before_37 : decode cX5_before 37 = .ok (.lrem, 1) := by decide +kernel
theorem dX5_before_38 : decode cX5_before 38 = .ok (.lconst 0, 1) := by decide +kernel
theorem dX5_before_39 : decode cX5_before 39 = .ok (.lcmp, 1) := by decide +kernel
theorem dX5_before_40 : decode cX5_before 40 = .ok (.ifCond .eq 7, 3) := by decide +kernel
theorem dX5_before_43 : decode cX5_before 43 = .ok (.ldc2_w 79, 3) := by decide +kernel
theorem dX5_before_46 : decode cX5_before 46 = .ok (.lreturn, 1) := by decide +kernel
theorem dX5_before_47 : decode cX5_before 47 = .ok (.lload 6, 2) := by decide +kernel
theorem dX5_before_49 : decode cX5_before 49 = .ok (.lload 4, 2) := by decide +kernel
theorem dX5_before_51 : decode cX5_before 51 = .ok (.ldiv, 1) := by decide +kernel
theorem dX5_before_52 : decode cX5_before 52 = .ok (.lstore 8, 2) := by decide +kernel
theorem dX5_before_54 : decode cX5_before 54 = .ok (.lload 8, 2) := by decide +kernel
theorem dX5_before_56 : decode cX5_before 56 = .ok (.invokestatic 76, 3) := by decide +kernel
theorem dX5_before_59 : decode cX5_before 59 = .ok (.ifCond .eq 18, 3) := by decide +kernel
theorem dX5_before_62 : decode cX5_before 62 = .ok (.aload_n 0, 1) := by decide +kernel
theorem dX5_before_63 : decode cX5_before 63 = .ok (.lload 8, 2) := by decide +kernel
theorem dX5_before_65 : decode cX5_before 65 = .ok (.invokevirtual 72, 3) := by decide +kernel
theorem dX5_before_68 : decode cX5_before 68 = .ok (.iload_n 3, 1) := by decide +kernel
theorem dX5_before_69 : decode cX5_before 69 = .ok (.if_icmp .ne 8, 3) := by decide +kernel
theorem dX5_before_72 : decode cX5_before 72 = .ok (.lload 8, 2) := by decide +kernel
theorem dX5_before_74 : decode cX5_before 74 = .ok (.goto 6, 3) := by decide +kernel
theorem dX5_before_77 : decode cX5_before 77 = .ok (.ldc2_w 79, 3) := by decide +kernel
theorem dX5_before_80 : decode cX5_before 80 = .ok (.lreturn, 1) := by decide +kernel
set_option maxRecDepth 20000 in
theorem ggX5_hasNoShare_X5_a : GoodIn wsX5_hasNoShare wsX5_a := goodIn_r _ [6, 7, 8, 9, 10, 5, 11, 1, 12, 13, 14, 15] (by decide +kernel) (by decide +kernel)
set_option maxRecDepth 20000 in
theorem gX5_hasNoShare_X5_a : GoodIn wsX5_hasNoShare (wsV RX5 52 RX5 yX5_a wsX5_a) := goodIn_app (goodIn_of _ (by decide +kernel)) ggX5_hasNoShare_X5_a
theorem dX5_hasNoShare_0 : decode cX5_hasNoShare 0 = .ok (.iconst 0, 1) := by decide +kernel
theorem dX5_hasNoShare_1 : decode cX5_hasNoShare 1 = .ok (.istore_n 1, 1) := by decide +kernel
theorem dX5_hasNoShare_2 : decode cX5_hasNoShare 2 = .ok (.iload_n 1, 1) := by decide +kernel
theorem dX5_hasNoShare_3 : decode cX5_hasNoShare 3 = .ok (.aload_n 0, 1) := by decide +kernel
theorem dX5_hasNoShare_4 : decode cX5_hasNoShare 4 = .ok (.getfield 9, 3) := by decide +kernel
theorem dX5_hasNoShare_7 : decode cX5_hasNoShare 7 = .ok (.if_icmp .ge 21, 3) := by decide +kernel
theorem dX5_hasNoShare_10 : decode cX5_hasNoShare 10 = .ok (.aload_n 0, 1) := by decide +kernel
theorem dX5_hasNoShare_11 : decode cX5_hasNoShare 11 = .ok (.iload_n 1, 1) := by decide +kernel
theorem dX5_hasNoShare_12 : decode cX5_hasNoShare 12 = .ok (.invokevirtual 52, 3) := by decide +kernel
theorem dX5_hasNoShare_15 : decode cX5_hasNoShare 15 = .ok (.lconst 0, 1) := by decide +kernel
theorem dX5_hasNoShare_16 : decode cX5_hasNoShare 16 = .ok (.lcmp, 1) := by decide +kernel
theorem dX5_hasNoShare_17 : decode cX5_hasNoShare 17 = .ok (.ifCond .ne 5, 3) := by decide +kernel
theorem dX5_hasNoShare_20 : decode cX5_hasNoShare 20 = .ok (.iconst 1, 1) := by decide +kernel
theorem dX5_hasNoShare_21 : decode cX5_hasNoShare 21 = .ok (.ireturn, 1) := by decide +kernel
theorem dX5_hasNoShare_22 : decode cX5_hasNoShare 22 = .ok (.iinc 1 1, 3) := by decide +kernel
theorem dX5_hasNoShare_25 : decode cX5_hasNoShare 25 = .ok (.goto (-23), 3) := by decide +kernel
theorem dX5_hasNoShare_28 : decode cX5_hasNoShare 28 = .ok (.iconst 0, 1) := by decide +kernel
theorem dX5_hasNoShare_29 : decode cX5_hasNoShare 29 = .ok (.ireturn, 1) := by decide +kernel
set_option maxRecDepth 20000 in
theorem ggX5_first_X5_a : GoodIn wsX5_first wsX5_a := goodIn_r _ [5, 6, 7, 8, 9, 4, 10, 11, 22, 23, 24, 25] (by decide +kernel) (by decide +kernel)
set_option maxRecDepth 20000 in
theorem gX5_first_X5_a : GoodIn wsX5_first (wsV RX5 52 RX5 yX5_a wsX5_a) := goodIn_app (goodIn_of _ (by decide +kernel)) ggX5_first_X5_a
set_option maxRecDepth 20000 in
theorem ggX5_first_X5_b : GoodIn wsX5_first wsX5_b := goodIn_r _ [15, 16, 7, 8, 9, 4, 10, 11, 22, 23, 24, 25] (by decide +kernel) (by decide +kernel)
set_option maxRecDepth 20000 in
theorem gX5_first_X5_b : GoodIn wsX5_first (wsV RX5 56 RX5 yX5_b wsX5_b) := goodIn_app (goodIn_of _ (by decide +kernel)) ggX5_first_X5_b
set_option maxRecDepth 20000 in
theorem ggX5_first_X5_d : GoodIn wsX5_first wsX5_d := goodIn_r _ [20, 21, 7, 8, 9, 4, 10, 11, 22, 23, 24, 25] (by decide +kernel) (by decide +kernel)
set_option maxRecDepth 20000 in
theorem gX5_first_X5_d : GoodIn wsX5_first (wsV RX5 59 RX5 yX5_d wsX5_d) := goodIn_app (goodIn_of _ (by decide +kernel)) ggX5_first_X5_d
theorem dX5_first_0 : decode cX5_first 0 = .ok (.aload_n 0, 1) := by decide +kernel
theorem dX5_first_1 : decode cX5_first 1 = .ok (.iload_n 1, 1) := by decide +kernel
theorem dX5_first_2 : decode cX5_first 2 = .ok (.invokevirtual 52, 3) := by decide +kernel
theorem dX5_first_5 : decode cX5_first 5 = .ok (.iload_n 1, 1) := by decide +kernel
theorem dX5_first_6 : decode cX5_first 6 = .ok (.i2l, 1) := by decide +kernel
theorem dX5_first_7 : decode cX5_first 7 = .ok (.lmul, 1) := by decide +kernel
theorem dX5_first_8 : decode cX5_first 8 = .ok (.aload_n 0, 1) := by decide +kernel
theorem dX5_first_9 : decode cX5_first 9 = .ok (.iload_n 1, 1) := by decide +kernel
theorem dX5_first_10 : decode cX5_first 10 = .ok (.invokevirtual 56, 3) := by decide +kernel
theorem dX5_first_13 : decode cX5_first 13 = .ok (.ladd, 1) := by decide +kernel
theorem dX5_first_14 : decode cX5_first 14 = .ok (.aload_n 0, 1) := by decide +kernel
theorem dX5_first_15 : decode cX5_first 15 = .ok (.iload_n 1, 1) := by decide +kernel
theorem dX5_first_16 : decode cX5_first 16 = .ok (.invokevirtual 59, 3) := by decide +kernel
theorem dX5_first_19 : decode cX5_first 19 = .ok (.ldiv, 1) := by decide +kernel
theorem dX5_first_20 : decode cX5_first 20 = .ok (.lreturn, 1) := by decide +kernel
set_option maxRecDepth 20000 in
theorem ggX5_stride_X5_a : GoodIn wsX5_stride wsX5_a := goodIn_r _ [10, 11, 12, 13, 14, 9, 15, 1, 21, 22, 23, 24] (by decide +kernel) (by decide +kernel)
set_option maxRecDepth 20000 in
theorem gX5_stride_X5_a : GoodIn wsX5_stride (wsV RX5 52 RX5 yX5_a wsX5_a) := goodIn_app (goodIn_of _ (by decide +kernel)) ggX5_stride_X5_a
set_option maxRecDepth 20000 in
theorem ggX5_stride_X5_d : GoodIn wsX5_stride wsX5_d := goodIn_r _ [19, 20, 12, 13, 14, 9, 15, 1, 21, 22, 23, 24] (by decide +kernel) (by decide +kernel)
set_option maxRecDepth 20000 in
theorem gX5_stride_X5_d : GoodIn wsX5_stride (wsV RX5 59 RX5 yX5_d wsX5_d) := goodIn_app (goodIn_of _ (by decide +kernel)) ggX5_stride_X5_d
theorem dX5_stride_0 : decode cX5_stride 0 = .ok (.aload_n 0, 1) := by decide +kernel
theorem dX5_stride_1 : decode cX5_stride 1 = .ok (.iload_n 1, 1) := by decide +kernel
theorem dX5_stride_2 : decode cX5_stride 2 = .ok (.invokevirtual 52, 3) := by decide +kernel
theorem dX5_stride_5 : decode cX5_stride 5 = .ok (.aload_n 0, 1) := by decide +kernel
theorem dX5_stride_6 : decode cX5_stride 6 = .ok (.getfield 9, 3) := by decide +kernel
theorem dX5_stride_9 : decode cX5_stride 9 = .ok (.i2l, 1) := by decide +kernel
theorem dX5_stride_10 : decode cX5_stride 10 = .ok (.lmul, 1) := by decide +kernel
theorem dX5_stride_11 : decode cX5_stride 11 = .ok (.aload_n 0, 1) := by decide +kernel
theorem dX5_stride_12 : decode cX5_stride 12 = .ok (.iload_n 1, 1) := by decide +kernel
theorem dX5_stride_13 : decode cX5_stride 13 = .ok (.invokevirtual 59, 3) := by decide +kernel
theorem dX5_stride_16 : decode cX5_stride 16 = .ok (.ldiv, 1) := by decide +kernel
theorem dX5_stride_17 : decode cX5_stride 17 = .ok (.invokestatic 81, 3) := by decide +kernel
theorem dX5_stride_20 : decode cX5_stride 20 = .ok (.lreturn, 1) := by decide +kernel
set_option maxRecDepth 20000 in
theorem ggX5_commonStride_X5_stride : GoodIn wsX5_commonStride wsX5_stride := goodIn_ca (goodIn_r _ [12, 1, 13, 14, 6, 15, 16, 17, 18, 11, 19, 20, 21, 22, 23, 24, 25, 26, 27, 28, 29, 34, 35, 36, 37] (by decide +kernel) (by decide +kernel)) (goodIn_sub (fun _ h => List.mem_cons_of_mem _ (List.mem_append_right _ h)) (by decide +kernel))
set_option maxRecDepth 20000 in
theorem gX5_commonStride_X5_stride : GoodIn wsX5_commonStride (wsV RX5 87 RX5 yX5_stride wsX5_stride) := goodIn_app (goodIn_of _ (by decide +kernel)) ggX5_commonStride_X5_stride
set_option maxRecDepth 20000 in
theorem ggX5_commonStride_X7_commonDivisor : GoodIn wsX5_commonStride wsX7_commonDivisor := goodIn_ca (goodIn_r _ [32, 33, 14, 6, 15] (by decide +kernel) (by decide +kernel)) (goodIn_sub (fun _ h => List.mem_cons_of_mem _ (List.mem_append_right _ h)) (by decide +kernel))
set_option maxRecDepth 20000 in
theorem gX5_commonStride_X7_commonDivisor_n90 : GoodIn wsX5_commonStride (wsX7_commonDivisor) := ggX5_commonStride_X7_commonDivisor
theorem dX5_commonStride_0 : decode cX5_commonStride 0 = .ok (.lconst 1, 1) := by decide +kernel
theorem dX5_commonStride_1 : decode cX5_commonStride 1 = .ok (.lstore_n 1, 1) := by decide +kernel
theorem dX5_commonStride_2 : decode cX5_commonStride 2 = .ok (.iconst 0, 1) := by decide +kernel
theorem dX5_commonStride_3 : decode cX5_commonStride 3 = .ok (.istore_n 3, 1) := by decide +kernel
theorem dX5_commonStride_4 : decode cX5_commonStride 4 = .ok (.iload_n 3, 1) := by decide +kernel
theorem dX5_commonStride_5 : decode cX5_commonStride 5 = .ok (.aload_n 0, 1) := by decide +kernel
theorem dX5_commonStride_6 : decode cX5_commonStride 6 = .ok (.getfield 9, 3) := by decide +kernel
theorem dX5_commonStride_9 : decode cX5_commonStride 9 = .ok (.if_icmp .ge 43, 3) := by decide +kernel
theorem dX5_commonStride_12 : decode cX5_commonStride 12 = .ok (.lload_n 1, 1) := by decide +kernel
theorem dX5_commonStride_13 : decode cX5_commonStride 13 = .ok (.ldc2_w 85, 3) := by decide +kernel
theorem dX5_commonStride_16 : decode cX5_commonStride 16 = .ok (.lcmp, 1) := by decide +kernel
theorem dX5_commonStride_17 : decode cX5_commonStride 17 = .ok (.ifCond .gt 35, 3) := by decide +kernel
theorem dX5_commonStride_20 : decode cX5_commonStride 20 = .ok (.aload_n 0, 1) := by decide +kernel
theorem dX5_commonStride_21 : decode cX5_commonStride 21 = .ok (.iload_n 3, 1) := by decide +kernel
theorem dX5_commonStride_22 : decode cX5_commonStride 22 = .ok (.invokevirtual 87, 3) := by decide +kernel
theorem dX5_commonStride_25 : decode cX5_commonStride 25 = .ok (.lstore 4, 2) := by decide +kernel
theorem dX5_commonStride_27 : decode cX5_commonStride 27 = .ok (.lload 4, 2) := by decide +kernel
theorem dX5_commonStride_29 : decode cX5_commonStride 29 = .ok (.lconst 0, 1) := by decide +kernel
theorem dX5_commonStride_30 : decode cX5_commonStride 30 = .ok (.lcmp, 1) := by decide +kernel
theorem dX5_commonStride_31 : decode cX5_commonStride 31 = .ok (.ifCond .le 15, 3) := by decide +kernel
theorem dX5_commonStride_34 : decode cX5_commonStride 34 = .ok (.lload_n 1, 1) := by decide +kernel
theorem dX5_commonStride_35 : decode cX5_commonStride 35 = .ok (.lload_n 1, 1) := by decide +kernel
theorem dX5_commonStride_36 : decode cX5_commonStride 36 = .ok (.lload 4, 2) := by decide +kernel
theorem dX5_commonStride_38 : decode cX5_commonStride 38 = .ok (.invokestatic 90, 3) := by decide +kernel
theorem dX5_commonStride_41 : decode cX5_commonStride 41 = .ok (.ldiv, 1) := by decide +kernel
theorem dX5_commonStride_42 : decode cX5_commonStride 42 = .ok (.lload 4, 2) := by decide +kernel
theorem dX5_commonStride_44 : decode cX5_commonStride 44 = .ok (.lmul, 1) := by decide +kernel
theorem dX5_commonStride_45 : decode cX5_commonStride 45 = .ok (.lstore_n 1, 1) := by decide +kernel
theorem dX5_commonStride_46 : decode cX5_commonStride 46 = .ok (.iinc 3 1, 3) := by decide +kernel
theorem dX5_commonStride_49 : decode cX5_commonStride 49 = .ok (.goto (-45), 3) := by decide +kernel
theorem dX5_commonStride_52 : decode cX5_commonStride 52 = .ok (.lload_n 1, 1) := by decide +kernel
theorem dX5_commonStride_53 : decode cX5_commonStride 53 = .ok (.ldc2_w 93, 3) := by decide +kernel
theorem dX5_commonStride_56 : decode cX5_commonStride 56 = .ok (.invokestatic 95, 3) := by decide +kernel
theorem dX5_commonStride_59 : decode cX5_commonStride 59 = .ok (.l2i, 1) := by decide +kernel
theorem dX5_commonStride_60 : decode cX5_commonStride 60 = .ok (.ireturn, 1) := by decide +kernel
set_option maxRecDepth 20000 in
theorem ggX5_fillsOnce_X5_stride : GoodIn wsX5_fillsOnce wsX5_stride := goodIn_ca (goodIn_r _ [10, 1, 11, 12, 4, 13, 14, 15, 16, 9, 17, 18, 19, 20, 21, 22, 23, 24, 25, 26, 27, 41, 42, 43, 44] (by decide +kernel) (by decide +kernel)) (goodIn_sub (fun _ h => List.mem_cons_of_mem _ (List.mem_append_right _ h)) (by decide +kernel))
set_option maxRecDepth 20000 in
theorem gX5_fillsOnce_X5_stride : GoodIn wsX5_fillsOnce (wsV RX5 87 RX5 yX5_stride wsX5_stride) := goodIn_app (goodIn_of _ (by decide +kernel)) ggX5_fillsOnce_X5_stride
set_option maxRecDepth 20000 in
theorem ggX5_fillsOnce_X5_first : GoodIn wsX5_fillsOnce wsX5_first := goodIn_ca (goodIn_r _ [31, 14, 15, 16, 9, 17, 18, 19, 20, 21, 22, 1, 32, 33, 34, 35, 36, 23, 24, 25, 26, 27, 41, 42, 43, 44] (by decide +kernel) (by decide +kernel)) (goodIn_sub (fun _ h => List.mem_cons_of_mem _ (List.mem_append_right _ h)) (by decide +kernel))
set_option maxRecDepth 20000 in
theorem gX5_fillsOnce_X5_first : GoodIn wsX5_fillsOnce (wsV RX5 101 RX5 yX5_first wsX5_first) := goodIn_app (goodIn_of _ (by decide +kernel)) ggX5_fillsOnce_X5_first
set_option maxRecDepth 20000 in
theorem ggX5_fillsOnce_X7_commonDivisor : GoodIn wsX5_fillsOnce wsX7_commonDivisor := goodIn_ca (goodIn_r _ [39, 40, 12, 4, 13] (by decide +kernel) (by decide +kernel)) (goodIn_sub (fun _ h => List.mem_cons_of_mem _ (List.mem_append_right _ h)) (by decide +kernel))
set_option maxRecDepth 20000 in
theorem gX5_fillsOnce_X7_commonDivisor_n90 : GoodIn wsX5_fillsOnce (wsX7_commonDivisor) := ggX5_fillsOnce_X7_commonDivisor
theorem dX5_fillsOnce_0 : decode cX5_fillsOnce 0 = .ok (.lconst 0, 1) := by decide +kernel
theorem dX5_fillsOnce_1 : decode cX5_fillsOnce 1 = .ok (.lstore_n 2, 1) := by decide +kernel
theorem dX5_fillsOnce_2 : decode cX5_fillsOnce 2 = .ok (.iconst 0, 1) := by decide +kernel
theorem dX5_fillsOnce_3 : decode cX5_fillsOnce 3 = .ok (.istore 4, 2) := by decide +kernel
theorem dX5_fillsOnce_5 : decode cX5_fillsOnce 5 = .ok (.iload 4, 2) := by decide +kernel
theorem dX5_fillsOnce_7 : decode cX5_fillsOnce 7 = .ok (.aload_n 0, 1) := by decide +kernel
theorem dX5_fillsOnce_8 : decode cX5_fillsOnce 8 = .ok (.getfield 9, 3) := by decide +kernel
theorem dX5_fillsOnce_11 : decode cX5_fillsOnce 11 = .ok (.if_icmp .ge 77, 3) := by decide +kernel
theorem dX5_fillsOnce_14 : decode cX5_fillsOnce 14 = .ok (.lload_n 2, 1) := by decide +kernel
theorem dX5_fillsOnce_15 : decode cX5_fillsOnce 15 = .ok (.iload_n 1, 1) := by decide +kernel
theorem dX5_fillsOnce_16 : decode cX5_fillsOnce 16 = .ok (.i2l, 1) := by decide +kernel
theorem dX5_fillsOnce_17 : decode cX5_fillsOnce 17 = .ok (.aload_n 0, 1) := by decide +kernel
theorem dX5_fillsOnce_18 : decode cX5_fillsOnce 18 = .ok (.iload 4, 2) := by decide +kernel
theorem dX5_fillsOnce_20 : decode cX5_fillsOnce 20 = .ok (.invokevirtual 87, 3) := by decide +kernel
theorem dX5_fillsOnce_23 : decode cX5_fillsOnce 23 = .ok (.lconst 1, 1) := by decide +kernel
theorem dX5_fillsOnce_24 : decode cX5_fillsOnce 24 = .ok (.invokestatic 98, 3) := by decide +kernel
theorem dX5_fillsOnce_27 : decode cX5_fillsOnce 27 = .ok (.ldiv, 1) := by decide +kernel
theorem dX5_fillsOnce_28 : decode cX5_fillsOnce 28 = .ok (.ladd, 1) := by decide +kernel
theorem dX5_fillsOnce_29 : decode cX5_fillsOnce 29 = .ok (.lstore_n 2, 1) := by decide +kernel
theorem dX5_fillsOnce_30 : decode cX5_fillsOnce 30 = .ok (.iconst 0, 1) := by decide +kernel
theorem dX5_fillsOnce_31 : decode cX5_fillsOnce 31 = .ok (.istore 5, 2) := by decide +kernel
theorem dX5_fillsOnce_33 : decode cX5_fillsOnce 33 = .ok (.iload 5, 2) := by decide +kernel
theorem dX5_fillsOnce_35 : decode cX5_fillsOnce 35 = .ok (.iload 4, 2) := by decide +kernel
theorem dX5_fillsOnce_37 : decode cX5_fillsOnce 37 = .ok (.if_icmp .ge 45, 3) := by decide +kernel
theorem dX5_fillsOnce_40 : decode cX5_fillsOnce 40 = .ok (.aload_n 0, 1) := by decide +kernel
theorem dX5_fillsOnce_41 : decode cX5_fillsOnce 41 = .ok (.iload 4, 2) := by decide +kernel
theorem dX5_fillsOnce_43 : decode cX5_fillsOnce 43 = .ok (.invokevirtual 101, 3) := by decide +kernel
theorem dX5_fillsOnce_46 : decode cX5_fillsOnce 46 = .ok (.aload_n 0, 1) := by decide +kernel
theorem dX5_fillsOnce_47 : decode cX5_fillsOnce 47 = .ok (.iload 5, 2) := by decide +kernel
theorem dX5_fillsOnce_49 : decode cX5_fillsOnce 49 = .ok (.invokevirtual 101, 3) := by decide +kernel
theorem dX5_fillsOnce_52 : decode cX5_fillsOnce 52 = .ok (.lsub, 1) := by decide +kernel
theorem dX5_fillsOnce_53 : decode cX5_fillsOnce 53 = .ok (.aload_n 0, 1) := by decide +kernel
theorem dX5_fillsOnce_54 : decode cX5_fillsOnce 54 = .ok (.iload 4, 2) := by decide +kernel
theorem dX5_fillsOnce_56 : decode cX5_fillsOnce 56 = .ok (.invokevirtual 87, 3) := by decide +kernel
theorem dX5_fillsOnce_59 : decode cX5_fillsOnce 59 = .ok (.aload_n 0, 1) := by decide +kernel
theorem dX5_fillsOnce_60 : decode cX5_fillsOnce 60 = .ok (.iload 5, 2) := by decide +kernel
theorem dX5_fillsOnce_62 : decode cX5_fillsOnce 62 = .ok (.invokevirtual 87, 3) := by decide +kernel
theorem dX5_fillsOnce_65 : decode cX5_fillsOnce 65 = .ok (.invokestatic 90, 3) := by decide +kernel
theorem dX5_fillsOnce_68 : decode cX5_fillsOnce 68 = .ok (.lrem, 1) := by decide +kernel
theorem dX5_fillsOnce_69 : decode cX5_fillsOnce 69 = .ok (.lconst 0, 1) := by decide +kernel
theorem dX5_fillsOnce_70 : decode cX5_fillsOnce 70 = .ok (.lcmp, 1) := by decide +kernel
theorem dX5_fillsOnce_71 : decode cX5_fillsOnce 71 = .ok (.ifCond .ne 5, 3) := by decide +kernel
theorem dX5_fillsOnce_74 : decode cX5_fillsOnce 74 = .ok (.iconst 0, 1) := by decide +kernel
theorem dX5_fillsOnce_75 : decode cX5_fillsOnce 75 = .ok (.ireturn, 1) := by decide +kernel
theorem dX5_fillsOnce_76 : decode cX5_fillsOnce 76 = .ok (.iinc 5 1, 3) := by decide +kernel
theorem dX5_fillsOnce_79 : decode cX5_fillsOnce 79 = .ok (.goto (-46), 3) := by decide +kernel
theorem dX5_fillsOnce_82 : decode cX5_fillsOnce 82 = .ok (.iinc 4 1, 3) := by decide +kernel
theorem dX5_fillsOnce_85 : decode cX5_fillsOnce 85 = .ok (.goto (-80), 3) := by decide +kernel
theorem dX5_fillsOnce_88 : decode cX5_fillsOnce 88 = .ok (.lload_n 2, 1) := by decide +kernel
theorem dX5_fillsOnce_89 : decode cX5_fillsOnce 89 = .ok (.iload_n 1, 1) := by decide +kernel
theorem dX5_fillsOnce_90 : decode cX5_fillsOnce 90 = .ok (.i2l, 1) := by decide +kernel
theorem dX5_fillsOnce_91 : decode cX5_fillsOnce 91 = .ok (.lcmp, 1) := by decide +kernel
theorem dX5_fillsOnce_92 : decode cX5_fillsOnce 92 = .ok (.ifCond .ne 7, 3) := by decide +kernel
theorem dX5_fillsOnce_95 : decode cX5_fillsOnce 95 = .ok (.iconst 1, 1) := by decide +kernel
theorem dX5_fillsOnce_96 : decode cX5_fillsOnce 96 = .ok (.goto 4, 3) := by decide +kernel
theorem dX5_fillsOnce_99 : decode cX5_fillsOnce 99 = .ok (.iconst 0, 1) := by decide +kernel
theorem dX5_fillsOnce_100 : decode cX5_fillsOnce 100 = .ok (.ireturn, 1) := by decide +kernel
set_option maxRecDepth 20000 in
theorem ggX5_restThatComesTo_X5_first : GoodIn wsX5_restThatComesTo wsX5_first := goodIn_ca (goodIn_r _ [10, 11, 12, 13, 9, 14, 15, 16, 17, 18, 19, 1, 20, 21, 22, 23, 24, 25, 26, 27, 28, 29, 37, 38, 39, 40] (by decide +kernel) (by decide +kernel)) (goodIn_sub (fun _ h => List.mem_cons_of_mem _ (List.mem_append_right _ h)) (by decide +kernel))
set_option maxRecDepth 20000 in
theorem gX5_restThatComesTo_X5_first : GoodIn wsX5_restThatComesTo (wsV RX5 101 RX5 yX5_first wsX5_first) := goodIn_app (goodIn_of _ (by decide +kernel)) ggX5_restThatComesTo_X5_first
set_option maxRecDepth 20000 in
theorem ggX5_restThatComesTo_X5_stride : GoodIn wsX5_restThatComesTo wsX5_stride := goodIn_ca (goodIn_r _ [33, 1, 34, 35, 4, 36, 11, 12, 13, 9, 14, 15, 16, 17, 18, 19, 25, 26, 27, 28, 29, 37, 38, 39, 40] (by decide +kernel) (by decide +kernel)) (goodIn_sub (fun _ h => List.mem_cons_of_mem _ (List.mem_append_right _ h)) (by decide +kernel))
set_option maxRecDepth 20000 in
theorem gX5_restThatComesTo_X5_stride : GoodIn wsX5_restThatComesTo (wsV RX5 87 RX5 yX5_stride wsX5_stride) := goodIn_app (goodIn_of _ (by decide +kernel)) ggX5_restThatComesTo_X5_stride
theorem dX5_restThatComesTo_0 : decode cX5_restThatComesTo 0 = .ok (.iconst 0, 1) := by decide +kernel
theorem dX5_restThatComesTo_1 : decode cX5_restThatComesTo 1 = .ok (.istore_n 3, 1) := by decide +kernel
theorem dX5_restThatComesTo_2 : decode cX5_restThatComesTo 2 = .ok (.iload_n 3, 1) := by decide +kernel
theorem dX5_restThatComesTo_3 : decode cX5_restThatComesTo 3 = .ok (.aload_n 0, 1) := by decide +kernel
theorem dX5_restThatComesTo_4 : decode cX5_restThatComesTo 4 = .ok (.getfield 9, 3) := by decide +kernel
theorem dX5_restThatComesTo_7 : decode cX5_restThatComesTo 7 = .ok (.if_icmp .ge 33, 3) := by decide +kernel
theorem dX5_restThatComesTo_10 : decode cX5_restThatComesTo 10 = .ok (.lload_n 1, 1) := by decide +kernel
theorem dX5_restThatComesTo_11 : decode cX5_restThatComesTo 11 = .ok (.aload_n 0, 1) := by decide +kernel
theorem dX5_restThatComesTo_12 : decode cX5_restThatComesTo 12 = .ok (.iload_n 3, 1) := by decide +kernel
theorem dX5_restThatComesTo_13 : decode cX5_restThatComesTo 13 = .ok (.invokevirtual 101, 3) := by decide +kernel
theorem dX5_restThatComesTo_16 : decode cX5_restThatComesTo 16 = .ok (.lsub, 1) := by decide +kernel
theorem dX5_restThatComesTo_17 : decode cX5_restThatComesTo 17 = .ok (.aload_n 0, 1) := by decide +kernel
theorem dX5_restThatComesTo_18 : decode cX5_restThatComesTo 18 = .ok (.iload_n 3, 1) := by decide +kernel
theorem dX5_restThatComesTo_19 : decode cX5_restThatComesTo 19 = .ok (.invokevirtual 87, 3) := by decide +kernel
theorem dX5_restThatComesTo_22 : decode cX5_restThatComesTo 22 = .ok (.lconst 1, 1) := by decide +kernel
theorem dX5_restThatComesTo_23 : decode cX5_restThatComesTo 23 = .ok (.invokestatic 98, 3) := by decide +kernel
theorem dX5_restThatComesTo_26 : decode cX5_restThatComesTo 26 = .ok (.lrem, 1) := by decide +kernel
theorem dX5_restThatComesTo_27 : decode cX5_restThatComesTo 27 = .ok (.lconst 0, 1) := by decide +kernel
theorem dX5_restThatComesTo_28 : decode cX5_restThatComesTo 28 = .ok (.lcmp, 1) := by decide +kernel
theorem dX5_restThatComesTo_29 : decode cX5_restThatComesTo 29 = .ok (.ifCond .ne 5, 3) := by decide +kernel
theorem dX5_restThatComesTo_32 : decode cX5_restThatComesTo 32 = .ok (.iload_n 3, 1) := by decide +kernel
theorem dX5_restThatComesTo_33 : decode cX5_restThatComesTo 33 = .ok (.ireturn, 1) := by decide +kernel
theorem dX5_restThatComesTo_34 : decode cX5_restThatComesTo 34 = .ok (.iinc 3 1, 3) := by decide +kernel
theorem dX5_restThatComesTo_37 : decode cX5_restThatComesTo 37 = .ok (.goto (-35), 3) := by decide +kernel
theorem dX5_restThatComesTo_40 : decode cX5_restThatComesTo 40 = .ok (.iconst 0, 1) := by decide +kernel
theorem dX5_restThatComesTo_41 : decode cX5_restThatComesTo 41 = .ok (.ireturn, 1) := by decide +kernel
set_option maxRecDepth 20000 in
theorem ggX6_init_X2_init : GoodIn wsX6_init wsX2_init := goodIn_r _ [11, 12, 2, 3, 13, 14, 15, 16, 17, 18, 19, 22, 23] (by decide +kernel) (by decide +kernel)
set_option maxRecDepth 20000 in
theorem gX6_init_X2_init : GoodIn wsX6_init (wsX2_init) := ggX6_init_X2_init
theorem dX6_init_0 : decode cX6_init 0 = .ok (.aload_n 0, 1) := by decide +kernel
theorem dX6_init_1 : decode cX6_init 1 = .ok (.invokespecial 3, 3) := by decide +kernel
theorem dX6_init_4 : decode cX6_init 4 = .ok (.aload_n 0, 1) := by decide +kernel
theorem dX6_init_5 : decode cX6_init 5 = .ok (.iconst (-1), 1) := by decide +kernel
theorem dX6_init_6 : decode cX6_init 6 = .ok (.putfield 11, 3) := by decide +kernel
theorem dX6_init_9 : decode cX6_init 9 = .ok (.aload_n 0, 1) := by decide +kernel
theorem dX6_init_10 : decode cX6_init 10 = .ok (.new 15, 3) := by decide +kernel
theorem dX6_init_13 : decode cX6_init 13 = .ok (.dup, 1) := by decide +kernel
theorem dX6_init_14 : decode cX6_init 14 = .ok (.bipush 64, 2) := by decide +kernel
theorem dX6_init_16 : decode cX6_init 16 = .ok (.invokespecial 17, 3) := by decide +kernel
theorem dX6_init_19 : decode cX6_init 19 = .ok (.putfield 20, 3) := by decide +kernel
theorem dX6_init_22 : decode cX6_init 22 = .ok (.return_, 1) := by decide +kernel
set_option maxRecDepth 20000 in
theorem ggX6_begin_X2_zeros : GoodIn wsX6_begin wsX2_zeros := goodIn_r _ [7, 8, 9, 10, 11, 6, 12, 13, 16, 17] (by decide +kernel) (by decide +kernel)
set_option maxRecDepth 20000 in
theorem gX6_begin_X2_zeros : GoodIn wsX6_begin (wsV RX6 24 RX2 yX2_zeros wsX2_zeros) := goodIn_app (goodIn_of _ (by decide +kernel)) ggX6_begin_X2_zeros
theorem dX6_begin_0 : decode cX6_begin 0 = .ok (.iload_n 1, 1) := by decide +kernel
theorem dX6_begin_1 : decode cX6_begin 1 = .ok (.ifCond .lt 22, 3) := by decide +kernel
theorem dX6_begin_4 : decode cX6_begin 4 = .ok (.iload_n 1, 1) := by decide +kernel
theorem dX6_begin_5 : decode cX6_begin 5 = .ok (.iconst 2, 1) := by decide +kernel
theorem dX6_begin_6 : decode cX6_begin 6 = .ok (.if_icmp .gt 17, 3) := by decide +kernel
theorem dX6_begin_9 : decode cX6_begin 9 = .ok (.iload_n 2, 1) := by decide +kernel
theorem dX6_begin_10 : decode cX6_begin 10 = .ok (.ifCond .lt 13, 3) := by decide +kernel
theorem dX6_begin_13 : decode cX6_begin 13 = .ok (.iload_n 2, 1) := by decide +kernel
theorem dX6_begin_14 : decode cX6_begin 14 = .ok (.bipush 64, 2) := by decide +kernel
theorem dX6_begin_16 : decode cX6_begin 16 = .ok (.if_icmp .gt 7, 3) := by decide +kernel
theorem dX6_begin_19 : decode cX6_begin 19 = .ok (.iconst 1, 1) := by decide +kernel
theorem dX6_begin_20 : decode cX6_begin 20 = .ok (.goto 4, 3) := by decide +kernel
theorem dX6_begin_23 : decode cX6_begin 23 = .ok (.iconst 0, 1) := by decide +kernel
theorem dX6_begin_24 : decode cX6_begin 24 = .ok (.istore_n 3, 1) := by decide +kernel
theorem dX6_begin_25 : decode cX6_begin 25 = .ok (.iload_n 3, 1) := by decide +kernel
theorem dX6_begin_26 : decode cX6_begin 26 = .ok (.ifCond .ne 10, 3) := by decide +kernel
theorem dX6_begin_29 : decode cX6_begin 29 = .ok (.iload_n 1, 1) := by decide +kernel
theorem dX6_begin_30 : decode cX6_begin 30 = .ok (.iconst 3, 1) := by decide +kernel
theorem dX6_begin_31 : decode cX6_begin 31 = .ok (.if_icmp .eq 5, 3) := by decide +kernel
theorem dX6_begin_34 : decode cX6_begin 34 = .ok (.iconst 0, 1) := by decide +kernel
theorem dX6_begin_35 : decode cX6_begin 35 = .ok (.ireturn, 1) := by decide +kernel
theorem dX6_begin_36 : decode cX6_begin 36 = .ok (.aload_n 0, 1) := by decide +kernel
theorem dX6_begin_37 : decode cX6_begin 37 = .ok (.iload_n 1, 1) := by decide +kernel
theorem dX6_begin_38 : decode cX6_begin 38 = .ok (.putfield 11, 3) := by decide +kernel
theorem dX6_begin_41 : decode cX6_begin 41 = .ok (.aload_n 0, 1) := by decide +kernel
theorem dX6_begin_42 : decode cX6_begin 42 = .ok (.getfield 20, 3) := by decide +kernel
theorem dX6_begin_45 : decode cX6_begin 45 = .ok (.iload_n 3, 1) := by decide +kernel
theorem dX6_begin_46 : decode cX6_begin 46 = .ok (.ifCond .eq 7, 3) := by decide +kernel
theorem dX6_begin_49 : decode cX6_begin 49 = .ok (.iload_n 2, 1) := by decide +kernel
theorem dX6_begin_50 : decode cX6_begin 50 = .ok (.goto 4, 3) := by decide +kernel
theorem dX6_begin_53 : decode cX6_begin 53 = .ok (.iconst 0, 1) := by decide +kernel
theorem dX6_begin_54 : decode cX6_begin 54 = .ok (.invokevirtual 24, 3) := by decide +kernel
theorem dX6_begin_57 : decode cX6_begin 57 = .ok (.iconst 1, 1) := by decide +kernel
theorem dX6_begin_58 : decode cX6_begin 58 = .ok (.ireturn, 1) := by decide +kernel
theorem dX6_isThere_0 : decode cX6_isThere 0 = .ok (.aload_n 0, 1) := by decide +kernel
theorem dX6_isThere_1 : decode cX6_isThere 1 = .ok (.getfield 11, 3) := by decide +kernel
theorem dX6_isThere_4 : decode cX6_isThere 4 = .ok (.iconst (-1), 1) := by decide +kernel
theorem dX6_isThere_5 : decode cX6_isThere 5 = .ok (.if_icmp .eq 7, 3) := by decide +kernel
theorem dX6_isThere_8 : decode cX6_isThere 8 = .ok (.iconst 1, 1) := by decide +kernel
theorem dX6_isThere_9 : decode cX6_isThere 9 = .ok (.goto 4, 3) := by decide +kernel
theorem dX6_isThere_12 : decode cX6_isThere 12 = .ok (.iconst 0, 1) := by decide +kernel
theorem dX6_isThere_13 : decode cX6_isThere 13 = .ok (.ireturn, 1) := by decide +kernel
set_option maxRecDepth 20000 in
theorem ggX6_entries_X2_size : GoodIn wsX6_entries wsX2_size := goodIn_r _ [6, 7, 10, 11] (by decide +kernel) (by decide +kernel)
set_option maxRecDepth 20000 in
theorem gX6_entries_X2_size : GoodIn wsX6_entries (wsV RX6 27 RX2 yX2_size wsX2_size) := goodIn_app (goodIn_of _ (by decide +kernel)) ggX6_entries_X2_size
theorem dX6_entries_0 : decode cX6_entries 0 = .ok (.aload_n 0, 1) := by decide +kernel
theorem dX6_entries_1 : decode cX6_entries 1 = .ok (.getfield 20, 3) := by decide +kernel
theorem dX6_entries_4 : decode cX6_entries 4 = .ok (.invokevirtual 27, 3) := by decide +kernel
theorem dX6_entries_7 : decode cX6_entries 7 = .ok (.ireturn, 1) := by decide +kernel
set_option maxRecDepth 20000 in
theorem ggX6_read_X2_at : GoodIn wsX6_read wsX2_at := goodIn_r _ [6, 7, 8, 9, 10, 5, 11, 12, 15, 16] (by decide +kernel) (by decide +kernel)
set_option maxRecDepth 20000 in
theorem gX6_read_X2_at : GoodIn wsX6_read (wsV RX6 31 RX2 yX2_at wsX2_at) := goodIn_app (goodIn_of _ (by decide +kernel)) ggX6_read_X2_at
theorem dX6_read_0 : decode cX6_read 0 = .ok (.aload_n 0, 1) := by decide +kernel
theorem dX6_read_1 : decode cX6_read 1 = .ok (.getfield 20, 3) := by decide +kernel
theorem dX6_read_4 : decode cX6_read 4 = .ok (.iload_n 1, 1) := by decide +kernel
theorem dX6_read_5 : decode cX6_read 5 = .ok (.invokevirtual 31, 3) := by decide +kernel
theorem dX6_read_8 : decode cX6_read 8 = .ok (.lreturn, 1) := by decide +kernel
set_option maxRecDepth 20000 in
theorem ggX6_write_X2_has : GoodIn wsX6_write wsX2_has := goodIn_r _ [7, 8, 9, 17, 18] (by decide +kernel) (by decide +kernel)
set_option maxRecDepth 20000 in
theorem gX6_write_X2_has : GoodIn wsX6_write (wsV RX6 35 RX2 yX2_has wsX2_has) := goodIn_app (goodIn_of _ (by decide +kernel)) ggX6_write_X2_has
set_option maxRecDepth 20000 in
theorem ggX6_write_X2_put : GoodIn wsX6_write wsX2_put := goodIn_r _ [13, 9, 14, 4, 5, 6, 7, 8, 17, 18] (by decide +kernel) (by decide +kernel)
set_option maxRecDepth 20000 in
theorem gX6_write_X2_put : GoodIn wsX6_write (wsV RX6 39 RX2 yX2_put wsX2_put) := goodIn_app (goodIn_of _ (by decide +kernel)) ggX6_write_X2_put
theorem dX6_write_0 : decode cX6_write 0 = .ok (.aload_n 0, 1) := by decide +kernel
theorem dX6_write_1 : decode cX6_write 1 = .ok (.getfield 20, 3) := by decide +kernel
theorem dX6_write_4 : decode cX6_write 4 = .ok (.iload_n 1, 1) := by decide +kernel
theorem dX6_write_5 : decode cX6_write 5 = .ok (.invokevirtual 35, 3) := by decide +kernel
theorem dX6_write_8 : decode cX6_write 8 = .ok (.ifCond .ne 5, 3) := by decide +kernel
theorem dX6_write_11 : decode cX6_write 11 = .ok (.iconst 0, 1) := by decide +kernel
theorem dX6_write_12 : decode cX6_write 12 = .ok (.ireturn, 1) := by decide +kernel
theorem dX6_write_13 : decode cX6_write 13 = .ok (.aload_n 0, 1) := by decide +kernel
theorem dX6_write_14 : decode cX6_write 14 = .ok (.getfield 11, 3) := by decide +kernel
theorem dX6_write_17 : decode cX6_write 17 = .ok (.ifCond .ne 18, 3) := by decide +kernel
theorem dX6_write_20 : decode cX6_write 20 = .ok (.aload_n 0, 1) := by decide +kernel
theorem dX6_write_21 : decode cX6_write 21 = .ok (.getfield 20, 3) := by decide +kernel
theorem dX6_write_24 : decode cX6_write 24 = .ok (.iload_n 1, 1) := by decide +kernel
theorem dX6_write_25 : decode cX6_write 25 = .ok (.lload_n 2, 1) := by decide +kernel
theorem dX6_write_26 : decode cX6_write 26 = .ok (.l2i, 1) := by decide +kernel
theorem dX6_write_27 : decode cX6_write 27 = .ok (.i2b, 1) := by decide +kernel
theorem dX6_write_28 : decode cX6_write 28 = .ok (.i2l, 1) := by decide +kernel
theorem dX6_write_29 : decode cX6_write 29 = .ok (.invokevirtual 39, 3) := by decide +kernel
theorem dX6_write_32 : decode cX6_write 32 = .ok (.goto 34, 3) := by decide +kernel
theorem dX6_write_35 : decode cX6_write 35 = .ok (.aload_n 0, 1) := by decide +kernel
theorem dX6_write_36 : decode cX6_write 36 = .ok (.getfield 11, 3) := by decide +kernel
theorem dX6_write_39 : decode cX6_write 39 = .ok (.iconst 1, 1) := by decide +kernel
theorem dX6_write_40 : decode cX6_write 40 = .ok (.if_icmp .ne 17, 3) := by decide +kernel
theorem dX6_write_43 : decode cX6_write 43 = .ok (.aload_n 0, 1) := by decide +kernel
theorem dX6_write_44 : decode cX6_write 44 = .ok (.getfield 20, 3) := by decide +kernel
theorem dX6_write_47 : decode cX6_write 47 = .ok (.iload_n 1, 1) := by decide +kernel
theorem dX6_write_48 : decode cX6_write 48 = .ok (.lload_n 2, 1) := by decide +kernel
theorem dX6_write_49 : decode cX6_write 49 = .ok (.l2i, 1) := by decide +kernel
theorem dX6_write_50 : decode cX6_write 50 = .ok (.i2l, 1) := by decide +kernel
theorem dX6_write_51 : decode cX6_write 51 = .ok (.invokevirtual 39, 3) := by decide +kernel
theorem dX6_write_54 : decode cX6_write 54 = .ok (.goto 12, 3) := by decide +kernel
theorem dX6_write_57 : decode cX6_write 57 = .ok (.aload_n 0, 1) := by decide +kernel
theorem dX6_write_58 : decode cX6_write 58 = .ok (.getfield 20, 3) := by decide +kernel
theorem dX6_write_61 : decode cX6_write 61 = .ok (.iload_n 1, 1) := by decide +kernel
theorem dX6_write_62 : decode cX6_write 62 = .ok (.lload_n 2, 1) := by decide +kernel
theorem dX6_write_63 : decode cX6_write 63 = .ok (.invokevirtual 39, 3) := by decide +kernel
theorem dX6_write_66 : decode cX6_write 66 = .ok (.iconst 1, 1) := by decide +kernel
theorem dX6_write_67 : decode cX6_write 67 = .ok (.ireturn, 1) := by decide +kernel
set_option maxRecDepth 20000 in
theorem ggX6_drop_X2_empty : GoodIn wsX6_drop wsX2_empty := goodIn_r _ [7, 8, 11, 12] (by decide +kernel) (by decide +kernel)
set_option maxRecDepth 20000 in
theorem gX6_drop_X2_empty : GoodIn wsX6_drop (wsV RX6 43 RX2 yX2_empty wsX2_empty) := goodIn_app (goodIn_of _ (by decide +kernel)) ggX6_drop_X2_empty
theorem dX6_drop_0 : decode cX6_drop 0 = .ok (.aload_n 0, 1) := by decide +kernel
theorem dX6_drop_1 : decode cX6_drop 1 = .ok (.iconst (-1), 1) := by decide +kernel
theorem dX6_drop_2 : decode cX6_drop 2 = .ok (.putfield 11, 3) := by decide +kernel
theorem dX6_drop_5 : decode cX6_drop 5 = .ok (.aload_n 0, 1) := by decide +kernel
theorem dX6_drop_6 : decode cX6_drop 6 = .ok (.getfield 20, 3) := by decide +kernel
theorem dX6_drop_9 : decode cX6_drop 9 = .ok (.invokevirtual 43, 3) := by decide +kernel
theorem dX6_drop_12 : decode cX6_drop 12 = .ok (.return_, 1) := by decide +kernel
set_option maxRecDepth 20000 in
theorem ggX7_init_X5_init : GoodIn wsX7_init wsX5_init := goodIn_r _ [41, 42, 2, 3, 43, 44, 45, 46, 47, 108, 109, 110, 111] (by decide +kernel) (by decide +kernel)
set_option maxRecDepth 20000 in
theorem gX7_init_X5_init_n15 : GoodIn wsX7_init (wsX5_init) := ggX7_init_X5_init
set_option maxRecDepth 20000 in
theorem ggX7_init_X0_init : GoodIn wsX7_init wsX0_init := goodIn_r _ [49, 50, 2, 3, 51, 44, 52, 53, 112, 113, 114] (by decide +kernel) (by decide +kernel)
set_option maxRecDepth 20000 in
theorem gX7_init_X0_init_n28 : GoodIn wsX7_init (wsX0_init) := ggX7_init_X0_init
set_option maxRecDepth 20000 in
theorem ggX7_init_X6_init : GoodIn wsX7_init wsX6_init := goodIn_r _ [55, 56, 2, 3, 57, 58, 20, 21, 59, 60, 61, 62, 63, 64, 65, 66, 67, 68, 44, 69, 115, 116, 117, 118] (by decide +kernel) (by decide +kernel)
set_option maxRecDepth 20000 in
theorem gX7_init_X6_init_n35 : GoodIn wsX7_init (wsX6_init) := ggX7_init_X6_init
set_option maxRecDepth 20000 in
theorem ggX7_init_X2_init : GoodIn wsX7_init wsX2_init := goodIn_r _ [62, 63, 2, 3, 64, 65, 66, 67, 68, 44, 69, 117, 118] (by decide +kernel) (by decide +kernel)
set_option maxRecDepth 20000 in
theorem gX7_init_X2_init : GoodIn wsX7_init (wsX2_init) := ggX7_init_X2_init
set_option maxRecDepth 20000 in
theorem ggX7_init_X4_init : GoodIn wsX7_init wsX4_init := goodIn_r _ [73, 74, 2, 3, 44, 75, 76, 77, 119, 120, 121] (by decide +kernel) (by decide +kernel)
set_option maxRecDepth 20000 in
theorem gX7_init_X4_init : GoodIn wsX7_init (wsX4_init) := ggX7_init_X4_init
set_option maxRecDepth 20000 in
theorem ggX7_init_X3_init : GoodIn wsX7_init wsX3_init := goodIn_r _ [79, 80, 2, 3, 44, 81, 122] (by decide +kernel) (by decide +kernel)
set_option maxRecDepth 20000 in
theorem gX7_init_X3_init_n70 : GoodIn wsX7_init (wsX3_init) := ggX7_init_X3_init
set_option maxRecDepth 20000 in
theorem ggX7_init_X1_init : GoodIn wsX7_init wsX1_init := goodIn_r _ [83, 84, 2, 3, 85, 20, 21, 86, 87, 88, 89, 90, 91, 92, 61, 62, 63, 64, 65, 66, 67, 68, 44, 69, 117, 118, 123, 124, 125, 126, 127, 128] (by decide +kernel) (by decide +kernel)
set_option maxRecDepth 20000 in
theorem gX7_init_X1_init_n80 : GoodIn wsX7_init (wsX1_init) := ggX7_init_X1_init
theorem dX7_init_0 : decode cX7_init 0 = .ok (.aload_n 0, 1) := by decide +kernel
theorem dX7_init_1 : decode cX7_init 1 = .ok (.invokespecial 1, 3) := by decide +kernel
theorem dX7_init_4 : decode cX7_init 4 = .ok (.aload_n 0, 1) := by decide +kernel
theorem dX7_init_5 : decode cX7_init 5 = .ok (.iconst 0, 1) := by decide +kernel
theorem dX7_init_6 : decode cX7_init 6 = .ok (.putfield 9, 3) := by decide +kernel
theorem dX7_init_9 : decode cX7_init 9 = .ok (.aload_n 0, 1) := by decide +kernel
theorem dX7_init_10 : decode cX7_init 10 = .ok (.new 13, 3) := by decide +kernel
theorem dX7_init_13 : decode cX7_init 13 = .ok (.dup, 1) := by decide +kernel
theorem dX7_init_14 : decode cX7_init 14 = .ok (.invokespecial 15, 3) := by decide +kernel
theorem dX7_init_17 : decode cX7_init 17 = .ok (.putfield 16, 3) := by decide +kernel
theorem dX7_init_20 : decode cX7_init 20 = .ok (.aload_n 0, 1) := by decide +kernel
theorem dX7_init_21 : decode cX7_init 21 = .ok (.new 13, 3) := by decide +kernel
theorem dX7_init_24 : decode cX7_init 24 = .ok (.dup, 1) := by decide +kernel
theorem dX7_init_25 : decode cX7_init 25 = .ok (.invokespecial 15, 3) := by decide +kernel
theorem dX7_init_28 : decode cX7_init 28 = .ok (.putfield 20, 3) := by decide +kernel
theorem dX7_init_31 : decode cX7_init 31 = .ok (.aload_n 0, 1) := by decide +kernel
theorem dX7_init_32 : decode cX7_init 32 = .ok (.new 13, 3) := by decide +kernel
theorem dX7_init_35 : decode cX7_init 35 = .ok (.dup, 1) := by decide +kernel
theorem dX7_init_36 : decode cX7_init 36 = .ok (.invokespecial 15, 3) := by decide +kernel
theorem dX7_init_39 : decode cX7_init 39 = .ok (.putfield 23, 3) := by decide +kernel
theorem dX7_init_42 : decode cX7_init 42 = .ok (.aload_n 0, 1) := by decide +kernel
theorem dX7_init_43 : decode cX7_init 43 = .ok (.new 26, 3) := by decide +kernel
theorem dX7_init_46 : decode cX7_init 46 = .ok (.dup, 1) := by decide +kernel
theorem dX7_init_47 : decode cX7_init 47 = .ok (.invokespecial 28, 3) := by decide +kernel
theorem dX7_init_50 : decode cX7_init 50 = .ok (.putfield 29, 3) := by decide +kernel
theorem dX7_init_53 : decode cX7_init 53 = .ok (.aload_n 0, 1) := by decide +kernel
theorem dX7_init_54 : decode cX7_init 54 = .ok (.new 33, 3) := by decide +kernel
theorem dX7_init_57 : decode cX7_init 57 = .ok (.dup, 1) := by decide +kernel
theorem dX7_init_58 : decode cX7_init 58 = .ok (.invokespecial 35, 3) := by decide +kernel
theorem dX7_init_61 : decode cX7_init 61 = .ok (.putfield 36, 3) := by decide +kernel
theorem dX7_init_64 : decode cX7_init 64 = .ok (.aload_n 0, 1) := by decide +kernel
theorem dX7_init_65 : decode cX7_init 65 = .ok (.new 40, 3) := by decide +kernel
theorem dX7_init_68 : decode cX7_init 68 = .ok (.dup, 1) := by decide +kernel
theorem dX7_init_69 : decode cX7_init 69 = .ok (.sipush 1000, 3) := by decide +kernel
theorem dX7_init_72 : decode cX7_init 72 = .ok (.invokespecial 42, 3) := by decide +kernel
theorem dX7_init_75 : decode cX7_init 75 = .ok (.putfield 45, 3) := by decide +kernel
theorem dX7_init_78 : decode cX7_init 78 = .ok (.aload_n 0, 1) := by decide +kernel
theorem dX7_init_79 : decode cX7_init 79 = .ok (.new 40, 3) := by decide +kernel
theorem dX7_init_82 : decode cX7_init 82 = .ok (.dup, 1) := by decide +kernel
theorem dX7_init_83 : decode cX7_init 83 = .ok (.sipush 1000, 3) := by decide +kernel
theorem dX7_init_86 : decode cX7_init 86 = .ok (.invokespecial 42, 3) := by decide +kernel
theorem dX7_init_89 : decode cX7_init 89 = .ok (.putfield 49, 3) := by decide +kernel
theorem dX7_init_92 : decode cX7_init 92 = .ok (.aload_n 0, 1) := by decide +kernel
theorem dX7_init_93 : decode cX7_init 93 = .ok (.new 40, 3) := by decide +kernel
theorem dX7_init_96 : decode cX7_init 96 = .ok (.dup, 1) := by decide +kernel
theorem dX7_init_97 : decode cX7_init 97 = .ok (.sipush 1000, 3) := by decide +kernel
theorem dX7_init_100 : decode cX7_init 100 = .ok (.invokespecial 42, 3) := by decide +kernel
theorem dX7_init_103 : decode cX7_init 103 = .ok (.putfield 52, 3) := by decide +kernel
theorem dX7_init_106 : decode cX7_init 106 = .ok (.aload_n 0, 1) := by decide +kernel
theorem dX7_init_107 : decode cX7_init 107 = .ok (.new 40, 3) := by decide +kernel
theorem dX7_init_110 : decode cX7_init 110 = .ok (.dup, 1) := by decide +kernel
theorem dX7_init_111 : decode cX7_init 111 = .ok (.bipush 40, 2) := by decide +kernel
theorem dX7_init_113 : decode cX7_init 113 = .ok (.invokespecial 42, 3) := by decide +kernel
theorem dX7_init_116 : decode cX7_init 116 = .ok (.putfield 55, 3) := by decide +kernel
theorem dX7_init_119 : decode cX7_init 119 = .ok (.aload_n 0, 1) := by decide +kernel
theorem dX7_init_120 : decode cX7_init 120 = .ok (.new 40, 3) := by decide +kernel
theorem dX7_init_123 : decode cX7_init 123 = .ok (.dup, 1) := by decide +kernel
theorem dX7_init_124 : decode cX7_init 124 = .ok (.bipush 12, 2) := by decide +kernel
theorem dX7_init_126 : decode cX7_init 126 = .ok (.invokespecial 42, 3) := by decide +kernel
theorem dX7_init_129 : decode cX7_init 129 = .ok (.putfield 58, 3) := by decide +kernel
theorem dX7_init_132 : decode cX7_init 132 = .ok (.aload_n 0, 1) := by decide +kernel
theorem dX7_init_133 : decode cX7_init 133 = .ok (.new 61, 3) := by decide +kernel
theorem dX7_init_136 : decode cX7_init 136 = .ok (.dup, 1) := by decide +kernel
theorem dX7_init_137 : decode cX7_init 137 = .ok (.invokespecial 63, 3) := by decide +kernel
theorem dX7_init_140 : decode cX7_init 140 = .ok (.putfield 64, 3) := by decide +kernel
theorem dX7_init_143 : decode cX7_init 143 = .ok (.aload_n 0, 1) := by decide +kernel
theorem dX7_init_144 : decode cX7_init 144 = .ok (.new 68, 3) := by decide +kernel
theorem dX7_init_147 : decode cX7_init 147 = .ok (.dup, 1) := by decide +kernel
theorem dX7_init_148 : decode cX7_init 148 = .ok (.invokespecial 70, 3) := by decide +kernel
theorem dX7_init_151 : decode cX7_init 151 = .ok (.putfield 71, 3) := by decide +kernel
theorem dX7_init_154 : decode cX7_init 154 = .ok (.aload_n 0, 1) := by decide +kernel
theorem dX7_init_155 : decode cX7_init 155 = .ok (.new 68, 3) := by decide +kernel
theorem dX7_init_158 : decode cX7_init 158 = .ok (.dup, 1) := by decide +kernel
theorem dX7_init_159 : decode cX7_init 159 = .ok (.invokespecial 70, 3) := by decide +kernel
theorem dX7_init_162 : decode cX7_init 162 = .ok (.putfield 75, 3) := by decide +kernel
theorem dX7_init_165 : decode cX7_init 165 = .ok (.aload_n 0, 1) := by decide +kernel
theorem dX7_init_166 : decode cX7_init 166 = .ok (.new 78, 3) := by decide +kernel
theorem dX7_init_169 : decode cX7_init 169 = .ok (.dup, 1) := by decide +kernel
theorem dX7_init_170 : decode cX7_init 170 = .ok (.invokespecial 80, 3) := by decide +kernel
theorem dX7_init_173 : decode cX7_init 173 = .ok (.putfield 81, 3) := by decide +kernel
theorem dX7_init_176 : decode cX7_init 176 = .ok (.return_, 1) := by decide +kernel
set_option maxRecDepth 20000 in
theorem ggX7_draft_X5_begin : GoodIn wsX7_draft wsX5_begin := goodIn_r _ [6, 7, 8, 9, 10, 11, 12, 13, 14, 30, 31, 32, 33] (by decide +kernel) (by decide +kernel)
set_option maxRecDepth 20000 in
theorem gX7_draft_X5_begin : GoodIn wsX7_draft (wsV RX7 85 RX5 yX5_begin wsX5_begin) := goodIn_app (goodIn_of _ (by decide +kernel)) ggX7_draft_X5_begin
theorem dX7_draft_0 : decode cX7_draft 0 = .ok (.iload_n 1, 1) := by decide +kernel
theorem dX7_draft_1 : decode cX7_draft 1 = .ok (.iconst 2, 1) := by decide +kernel
theorem dX7_draft_2 : decode cX7_draft 2 = .ok (.if_icmp .lt 9, 3) := by decide +kernel
theorem dX7_draft_5 : decode cX7_draft 5 = .ok (.iload_n 1, 1) := by decide +kernel
theorem dX7_draft_6 : decode cX7_draft 6 = .ok (.bipush 64, 2) := by decide +kernel
theorem dX7_draft_8 : decode cX7_draft 8 = .ok (.if_icmp .le 5, 3) := by decide +kernel
theorem dX7_draft_11 : decode cX7_draft 11 = .ok (.iconst 0, 1) := by decide +kernel
theorem dX7_draft_12 : decode cX7_draft 12 = .ok (.ireturn, 1) := by decide +kernel
theorem dX7_draft_13 : decode cX7_draft 13 = .ok (.aload_n 0, 1) := by decide +kernel
theorem dX7_draft_14 : decode cX7_draft 14 = .ok (.getfield 20, 3) := by decide +kernel
theorem dX7_draft_17 : decode cX7_draft 17 = .ok (.iload_n 1, 1) := by decide +kernel
theorem dX7_draft_18 : decode cX7_draft 18 = .ok (.invokevirtual 85, 3) := by decide +kernel
theorem dX7_draft_21 : decode cX7_draft 21 = .ok (.iconst 1, 1) := by decide +kernel
theorem dX7_draft_22 : decode cX7_draft 22 = .ok (.ireturn, 1) := by decide +kernel
set_option maxRecDepth 20000 in
theorem ggX7_sheet_X6_begin : GoodIn wsX7_sheet wsX6_begin := goodIn_r _ [6, 7, 8, 9, 10, 11, 12, 13, 14, 15, 16, 17, 18, 19, 35, 36, 37, 38] (by decide +kernel) (by decide +kernel)
set_option maxRecDepth 20000 in
theorem gX7_sheet_X6_begin : GoodIn wsX7_sheet (wsV RX7 88 RX6 yX6_begin wsX6_begin) := goodIn_app (goodIn_of _ (by decide +kernel)) ggX7_sheet_X6_begin
theorem dX7_sheet_0 : decode cX7_sheet 0 = .ok (.aload_n 0, 1) := by decide +kernel
theorem dX7_sheet_1 : decode cX7_sheet 1 = .ok (.getfield 36, 3) := by decide +kernel
theorem dX7_sheet_4 : decode cX7_sheet 4 = .ok (.iload_n 1, 1) := by decide +kernel
theorem dX7_sheet_5 : decode cX7_sheet 5 = .ok (.iload_n 2, 1) := by decide +kernel
theorem dX7_sheet_6 : decode cX7_sheet 6 = .ok (.invokevirtual 88, 3) := by decide +kernel
theorem dX7_sheet_9 : decode cX7_sheet 9 = .ok (.ireturn, 1) := by decide +kernel
set_option maxRecDepth 20000 in
theorem ggX7_entry_X6_write : GoodIn wsX7_entry wsX6_write := goodIn_r _ [6, 7, 8, 9, 10, 11, 12, 13, 14, 15, 16, 17, 18, 19, 20, 36, 37, 38, 39] (by decide +kernel) (by decide +kernel)
set_option maxRecDepth 20000 in
theorem gX7_entry_X6_write : GoodIn wsX7_entry (wsV RX7 91 RX6 yX6_write wsX6_write) := goodIn_app (goodIn_of _ (by decide +kernel)) ggX7_entry_X6_write
theorem dX7_entry_0 : decode cX7_entry 0 = .ok (.aload_n 0, 1) := by decide +kernel
theorem dX7_entry_1 : decode cX7_entry 1 = .ok (.getfield 36, 3) := by decide +kernel
theorem dX7_entry_4 : decode cX7_entry 4 = .ok (.iload_n 1, 1) := by decide +kernel
theorem dX7_entry_5 : decode cX7_entry 5 = .ok (.lload_n 2, 1) := by decide +kernel
theorem dX7_entry_6 : decode cX7_entry 6 = .ok (.invokevirtual 91, 3) := by decide +kernel
theorem dX7_entry_9 : decode cX7_entry 9 = .ok (.ireturn, 1) := by decide +kernel
set_option maxRecDepth 20000 in
theorem ggX7_lay_X6_isThere : GoodIn wsX7_lay wsX6_isThere := goodIn_r _ [11, 12, 77, 78] (by decide +kernel) (by decide +kernel)
set_option maxRecDepth 20000 in
theorem gX7_lay_X6_isThere : GoodIn wsX7_lay (wsV RX7 95 RX6 yX6_isThere wsX6_isThere) := goodIn_app (goodIn_of _ (by decide +kernel)) ggX7_lay_X6_isThere
set_option maxRecDepth 20000 in
theorem ggX7_lay_X5_measure : GoodIn wsX7_lay wsX5_measure := goodIn_r _ [17, 18, 79, 80, 81, 82] (by decide +kernel) (by decide +kernel)
set_option maxRecDepth 20000 in
theorem gX7_lay_X5_measure : GoodIn wsX7_lay (wsV RX7 99 RX5 yX5_measure wsX5_measure) := goodIn_app (goodIn_of _ (by decide +kernel)) ggX7_lay_X5_measure
set_option maxRecDepth 20000 in
theorem ggX7_lay_X6_entries : GoodIn wsX7_lay wsX6_entries := goodIn_r _ [22, 23, 24, 25, 26, 27, 28, 29, 77, 78, 83, 84] (by decide +kernel) (by decide +kernel)
set_option maxRecDepth 20000 in
theorem gX7_lay_X6_entries : GoodIn wsX7_lay (wsV RX7 103 RX6 yX6_entries wsX6_entries) := goodIn_app (goodIn_of _ (by decide +kernel)) ggX7_lay_X6_entries
set_option maxRecDepth 20000 in
theorem ggX7_lay_X6_read : GoodIn wsX7_lay wsX6_read := goodIn_r _ [33, 23, 34, 35, 36, 27, 37, 38, 39, 40, 41, 42, 29, 77, 78, 83, 84] (by decide +kernel) (by decide +kernel)
set_option maxRecDepth 20000 in
theorem gX7_lay_X6_read : GoodIn wsX7_lay (wsV RX7 112 RX6 yX6_read wsX6_read) := goodIn_app (goodIn_of _ (by decide +kernel)) ggX7_lay_X6_read
set_option maxRecDepth 20000 in
theorem ggX7_lay_X5_write : GoodIn wsX7_lay wsX5_write := goodIn_r _ [46, 47, 48, 49, 50, 51, 52, 16, 53, 18, 79, 80, 81, 82] (by decide +kernel) (by decide +kernel)
set_option maxRecDepth 20000 in
theorem gX7_lay_X5_write : GoodIn wsX7_lay (wsV RX7 116 RX5 yX5_write wsX5_write) := goodIn_app (goodIn_of _ (by decide +kernel)) ggX7_lay_X5_write
set_option maxRecDepth 20000 in
theorem ggX7_lay_X6_drop : GoodIn wsX7_lay wsX6_drop := goodIn_r _ [57, 12, 23, 58, 59, 60, 27, 61, 29, 77, 78, 83, 84] (by decide +kernel) (by decide +kernel)
set_option maxRecDepth 20000 in
theorem gX7_lay_X6_drop : GoodIn wsX7_lay (wsV RX7 119 RX6 yX6_drop wsX6_drop) := goodIn_app (goodIn_of _ (by decide +kernel)) ggX7_lay_X6_drop
theorem dX7_lay_0 : decode cX7_lay 0 = .ok (.aload_n 0, 1) := by decide +kernel
theorem dX7_lay_1 : decode cX7_lay 1 = .ok (.getfield 36, 3) := by decide +kernel
theorem dX7_lay_4 : decode cX7_lay 4 = .ok (.invokevirtual 95, 3) := by decide +kernel
theorem dX7_lay_7 : decode cX7_lay 7 = .ok (.ifCond .eq 22, 3) := by decide +kernel
theorem dX7_lay_10 : decode cX7_lay 10 = .ok (.aload_n 0, 1) := by decide +kernel
theorem dX7_lay_11 : decode cX7_lay 11 = .ok (.getfield 20, 3) := by decide +kernel
theorem dX7_lay_14 : decode cX7_lay 14 = .ok (.invokevirtual 99, 3) := by decide +kernel
theorem dX7_lay_17 : decode cX7_lay 17 = .ok (.ifCond .eq 12, 3) := by decide +kernel
theorem dX7_lay_20 : decode cX7_lay 20 = .ok (.iload_n 1, 1) := by decide +kernel
theorem dX7_lay_21 : decode cX7_lay 21 = .ok (.ifCond .lt 8, 3) := by decide +kernel
theorem dX7_lay_24 : decode cX7_lay 24 = .ok (.iload_n 1, 1) := by decide +kernel
theorem dX7_lay_25 : decode cX7_lay 25 = .ok (.iconst 2, 1) := by decide +kernel
theorem dX7_lay_26 : decode cX7_lay 26 = .ok (.if_icmp .le 5, 3) := by decide +kernel
theorem dX7_lay_29 : decode cX7_lay 29 = .ok (.iconst (-1), 1) := by decide +kernel
theorem dX7_lay_30 : decode cX7_lay 30 = .ok (.ireturn, 1) := by decide +kernel
theorem dX7_lay_31 : decode cX7_lay 31 = .ok (.aload_n 0, 1) := by decide +kernel
theorem dX7_lay_32 : decode cX7_lay 32 = .ok (.getfield 36, 3) := by decide +kernel
theorem dX7_lay_35 : decode cX7_lay 35 = .ok (.invokevirtual 103, 3) := by decide +kernel
theorem dX7_lay_38 : decode cX7_lay 38 = .ok (.aload_n 0, 1) := by decide +kernel
theorem dX7_lay_39 : decode cX7_lay 39 = .ok (.getfield 20, 3) := by decide +kernel
theorem dX7_lay_42 : decode cX7_lay 42 = .ok (.invokevirtual 99, 3) := by decide +kernel
theorem dX7_lay_45 : decode cX7_lay 45 = .ok (.invokestatic 106, 3) := by decide +kernel
theorem dX7_lay_48 : decode cX7_lay 48 = .ok (.istore_n 2, 1) := by decide +kernel
theorem dX7_lay_49 : decode cX7_lay 49 = .ok (.iconst 0, 1) := by decide +kernel
theorem dX7_lay_50 : decode cX7_lay 50 = .ok (.istore_n 3, 1) := by decide +kernel
theorem dX7_lay_51 : decode cX7_lay 51 = .ok (.iload_n 3, 1) := by decide +kernel
theorem dX7_lay_52 : decode cX7_lay 52 = .ok (.iload_n 2, 1) := by decide +kernel
theorem dX7_lay_53 : decode cX7_lay 53 = .ok (.if_icmp .ge 26, 3) := by decide +kernel
theorem dX7_lay_56 : decode cX7_lay 56 = .ok (.aload_n 0, 1) := by decide +kernel
theorem dX7_lay_57 : decode cX7_lay 57 = .ok (.getfield 20, 3) := by decide +kernel
theorem dX7_lay_60 : decode cX7_lay 60 = .ok (.iload_n 3, 1) := by decide +kernel
theorem dX7_lay_61 : decode cX7_lay 61 = .ok (.iload_n 1, 1) := by decide +kernel
theorem dX7_lay_62 : decode cX7_lay 62 = .ok (.aload_n 0, 1) := by decide +kernel
theorem dX7_lay_63 : decode cX7_lay 63 = .ok (.getfield 36, 3) := by decide +kernel
theorem dX7_lay_66 : decode cX7_lay 66 = .ok (.iload_n 3, 1) := by decide +kernel
theorem dX7_lay_67 : decode cX7_lay 67 = .ok (.invokevirtual 112, 3) := by decide +kernel
theorem dX7_lay_70 : decode cX7_lay 70 = .ok (.invokevirtual 116, 3) := by decide +kernel
theorem dX7_lay_73 : decode cX7_lay 73 = .ok (.iinc 3 1, 3) := by decide +kernel
theorem dX7_lay_76 : decode cX7_lay 76 = .ok (.goto (-25), 3) := by decide +kernel
theorem dX7_lay_79 : decode cX7_lay 79 = .ok (.aload_n 0, 1) := by decide +kernel
theorem dX7_lay_80 : decode cX7_lay 80 = .ok (.getfield 36, 3) := by decide +kernel
theorem dX7_lay_83 : decode cX7_lay 83 = .ok (.invokevirtual 119, 3) := by decide +kernel
theorem dX7_lay_86 : decode cX7_lay 86 = .ok (.iload_n 2, 1) := by decide +kernel
theorem dX7_lay_87 : decode cX7_lay 87 = .ok (.ireturn, 1) := by decide +kernel
set_option maxRecDepth 20000 in
theorem ggX7_seal_X5_measure : GoodIn wsX7_seal wsX5_measure := goodIn_r _ [10, 11, 75, 76, 77, 78] (by decide +kernel) (by decide +kernel)
set_option maxRecDepth 20000 in
theorem gX7_seal_X5_measure : GoodIn wsX7_seal (wsV RX7 99 RX5 yX5_measure wsX5_measure) := goodIn_app (goodIn_of _ (by decide +kernel)) ggX7_seal_X5_measure
set_option maxRecDepth 20000 in
theorem ggX7_seal_X5_firstUnsound : GoodIn wsX7_seal wsX5_firstUnsound := goodIn_ca (goodIn_r _ [15, 11, 16, 17, 18, 9, 19, 20, 21, 22, 23, 24, 25, 26, 27, 28, 29, 30, 31, 32, 33, 34, 35, 36, 37, 38, 39, 40, 41, 42, 43, 44, 45, 46, 47, 75, 76, 77, 78] (by decide +kernel) (by decide +kernel)) (goodIn_sub (fun _ h => List.mem_cons_of_mem _ (List.mem_append_right _ h)) (by decide +kernel))
set_option maxRecDepth 20000 in
theorem gX7_seal_X5_firstUnsound : GoodIn wsX7_seal (wsV RX7 129 RX5 yX5_firstUnsound wsX5_firstUnsound) := goodIn_app (goodIn_of _ (by decide +kernel)) ggX7_seal_X5_firstUnsound
set_option maxRecDepth 20000 in
theorem ggX7_seal_X5_become : GoodIn wsX7_seal wsX5_become := goodIn_r _ [51, 11, 24, 52, 53, 54, 55, 25, 26, 75, 76, 77, 78] (by decide +kernel) (by decide +kernel)
set_option maxRecDepth 20000 in
theorem gX7_seal_X5_become : GoodIn wsX7_seal (wsV RX7 132 RX5 yX5_become wsX5_become) := goodIn_app (goodIn_of _ (by decide +kernel)) ggX7_seal_X5_become
set_option maxRecDepth 20000 in
theorem ggX7_seal_X5_drop : GoodIn wsX7_seal wsX5_drop := goodIn_r _ [59, 11, 75, 76, 77, 78] (by decide +kernel) (by decide +kernel)
set_option maxRecDepth 20000 in
theorem gX7_seal_X5_drop : GoodIn wsX7_seal (wsV RX7 136 RX5 yX5_drop wsX5_drop) := goodIn_app (goodIn_of _ (by decide +kernel)) ggX7_seal_X5_drop
theorem dX7_seal_0 : decode cX7_seal 0 = .ok (.aload_n 0, 1) := by decide +kernel
theorem dX7_seal_1 : decode cX7_seal 1 = .ok (.getfield 20, 3) := by decide +kernel
theorem dX7_seal_4 : decode cX7_seal 4 = .ok (.invokevirtual 99, 3) := by decide +kernel
theorem dX7_seal_7 : decode cX7_seal 7 = .ok (.ifCond .ne 13, 3) := by decide +kernel
theorem dX7_seal_10 : decode cX7_seal 10 = .ok (.new 122, 3) := by decide +kernel
theorem dX7_seal_13 : decode cX7_seal 13 = .ok (.dup, 1) := by decide +kernel
theorem dX7_seal_14 : decode cX7_seal 14 = .ok (.ldc 124, 2) := by decide +kernel
theorem dX7_seal_16 : decode cX7_seal 16 = .ok (.invokespecial 126, 3) := by decide +kernel
theorem dX7_seal_19 : decode cX7_seal 19 = .ok (.athrow, 1) := by decide +kernel
theorem dX7_seal_20 : decode cX7_seal 20 = .ok (.aload_n 0, 1) := by decide +kernel
theorem dX7_seal_21 : decode cX7_seal 21 = .ok (.getfield 20, 3) := by decide +kernel
theorem dX7_seal_24 : decode cX7_seal 24 = .ok (.invokevirtual 129, 3) := by decide +kernel
theorem dX7_seal_27 : decode cX7_seal 27 = .ok (.istore_n 1, 1) := by decide +kernel
theorem dX7_seal_28 : decode cX7_seal 28 = .ok (.iload_n 1, 1) := by decide +kernel
theorem dX7_seal_29 : decode cX7_seal 29 = .ok (.ifCond .lt 7, 3) := by decide +kernel
theorem dX7_seal_32 : decode cX7_seal 32 = .ok (.iconst (-1), 1) := by decide +kernel
theorem dX7_seal_33 : decode cX7_seal 33 = .ok (.iload_n 1, 1) := by decide +kernel
theorem dX7_seal_34 : decode cX7_seal 34 = .ok (.isub, 1) := by decide +kernel
theorem dX7_seal_35 : decode cX7_seal 35 = .ok (.ireturn, 1) := by decide +kernel
theorem dX7_seal_36 : decode cX7_seal 36 = .ok (.aload_n 0, 1) := by decide +kernel
theorem dX7_seal_37 : decode cX7_seal 37 = .ok (.getfield 16, 3) := by decide +kernel
theorem dX7_seal_40 : decode cX7_seal 40 = .ok (.aload_n 0, 1) := by decide +kernel
theorem dX7_seal_41 : decode cX7_seal 41 = .ok (.getfield 20, 3) := by decide +kernel
theorem dX7_seal_44 : decode cX7_seal 44 = .ok (.invokevirtual 132, 3) := by decide +kernel
theorem dX7_seal_47 : decode cX7_seal 47 = .ok (.aload_n 0, 1) := by decide +kernel
theorem dX7_seal_48 : decode cX7_seal 48 = .ok (.getfield 20, 3) := by decide +kernel
theorem dX7_seal_51 : decode cX7_seal 51 = .ok (.invokevirtual 136, 3) := by decide +kernel
theorem dX7_seal_54 : decode cX7_seal 54 = .ok (.aload_n 0, 1) := by decide +kernel
theorem dX7_seal_55 : decode cX7_seal 55 = .ok (.iconst 1, 1) := by decide +kernel
theorem dX7_seal_56 : decode cX7_seal 56 = .ok (.putfield 9, 3) := by decide +kernel
theorem dX7_seal_59 : decode cX7_seal 59 = .ok (.iconst 0, 1) := by decide +kernel
theorem dX7_seal_60 : decode cX7_seal 60 = .ok (.ireturn, 1) := by decide +kernel
set_option maxRecDepth 20000 in
theorem ggX7_list_X0_empty : GoodIn wsX7_list wsX0_empty := goodIn_r _ [7, 8, 24, 25, 26] (by decide +kernel) (by decide +kernel)
set_option maxRecDepth 20000 in
theorem gX7_list_X0_empty : GoodIn wsX7_list (wsV RX7 137 RX0 yX0_empty wsX0_empty) := goodIn_app (goodIn_of _ (by decide +kernel)) ggX7_list_X0_empty
theorem dX7_list_0 : decode cX7_list 0 = .ok (.aload_n 0, 1) := by decide +kernel
theorem dX7_list_1 : decode cX7_list 1 = .ok (.getfield 29, 3) := by decide +kernel
theorem dX7_list_4 : decode cX7_list 4 = .ok (.invokevirtual 137, 3) := by decide +kernel
theorem dX7_list_7 : decode cX7_list 7 = .ok (.aload_n 0, 1) := by decide +kernel
theorem dX7_list_8 : decode cX7_list 8 = .ok (.iconst 2, 1) := by decide +kernel
theorem dX7_list_9 : decode cX7_list 9 = .ok (.putfield 9, 3) := by decide +kernel
theorem dX7_list_12 : decode cX7_list 12 = .ok (.iconst 1, 1) := by decide +kernel
theorem dX7_list_13 : decode cX7_list 13 = .ok (.ireturn, 1) := by decide +kernel
set_option maxRecDepth 20000 in
theorem ggX7_fraction_X0_add : GoodIn wsX7_fraction wsX0_add := goodIn_ca (goodIn_r _ [8, 9, 10, 11, 12, 13, 14, 15, 16, 17, 18, 38, 39, 40] (by decide +kernel) (by decide +kernel)) (goodIn_sub (fun _ h => List.mem_cons_of_mem _ (List.mem_append_right _ h)) (by decide +kernel))
set_option maxRecDepth 20000 in
theorem gX7_fraction_X0_add : GoodIn wsX7_fraction (wsV RX7 142 RX0 yX0_add wsX0_add) := goodIn_app (goodIn_of _ (by decide +kernel)) ggX7_fraction_X0_add
set_option maxRecDepth 20000 in
theorem ggX7_fraction_X0_size : GoodIn wsX7_fraction wsX0_size := goodIn_r _ [22, 9, 38, 39, 40] (by decide +kernel) (by decide +kernel)
set_option maxRecDepth 20000 in
theorem gX7_fraction_X0_size : GoodIn wsX7_fraction (wsV RX7 146 RX0 yX0_size wsX0_size) := goodIn_app (goodIn_of _ (by decide +kernel)) ggX7_fraction_X0_size
theorem dX7_fraction_0 : decode cX7_fraction 0 = .ok (.aload_n 0, 1) := by decide +kernel
theorem dX7_fraction_1 : decode cX7_fraction 1 = .ok (.getfield 9, 3) := by decide +kernel
theorem dX7_fraction_4 : decode cX7_fraction 4 = .ok (.iconst 2, 1) := by decide +kernel
theorem dX7_fraction_5 : decode cX7_fraction 5 = .ok (.if_icmp .ne 31, 3) := by decide +kernel
theorem dX7_fraction_8 : decode cX7_fraction 8 = .ok (.lload_n 1, 1) := by decide +kernel
theorem dX7_fraction_9 : decode cX7_fraction 9 = .ok (.lconst 1, 1) := by decide +kernel
theorem dX7_fraction_10 : decode cX7_fraction 10 = .ok (.lcmp, 1) := by decide +kernel
theorem dX7_fraction_11 : decode cX7_fraction 11 = .ok (.ifCond .lt 25, 3) := by decide +kernel
theorem dX7_fraction_14 : decode cX7_fraction 14 = .ok (.lload_n 1, 1) := by decide +kernel
theorem dX7_fraction_15 : decode cX7_fraction 15 = .ok (.ldc2_w 140, 3) := by decide +kernel
theorem dX7_fraction_18 : decode cX7_fraction 18 = .ok (.lcmp, 1) := by decide +kernel
theorem dX7_fraction_19 : decode cX7_fraction 19 = .ok (.ifCond .gt 17, 3) := by decide +kernel
theorem dX7_fraction_22 : decode cX7_fraction 22 = .ok (.lload_n 3, 1) := by decide +kernel
theorem dX7_fraction_23 : decode cX7_fraction 23 = .ok (.lconst 1, 1) := by decide +kernel
theorem dX7_fraction_24 : decode cX7_fraction 24 = .ok (.lcmp, 1) := by decide +kernel
theorem dX7_fraction_25 : decode cX7_fraction 25 = .ok (.ifCond .lt 11, 3) := by decide +kernel
theorem dX7_fraction_28 : decode cX7_fraction 28 = .ok (.lload_n 3, 1) := by decide +kernel
theorem dX7_fraction_29 : decode cX7_fraction 29 = .ok (.ldc2_w 140, 3) := by decide +kernel
theorem dX7_fraction_32 : decode cX7_fraction 32 = .ok (.lcmp, 1) := by decide +kernel
theorem dX7_fraction_33 : decode cX7_fraction 33 = .ok (.ifCond .le 5, 3) := by decide +kernel
theorem dX7_fraction_36 : decode cX7_fraction 36 = .ok (.iconst (-1), 1) := by decide +kernel
theorem dX7_fraction_37 : decode cX7_fraction 37 = .ok (.ireturn, 1) := by decide +kernel
theorem dX7_fraction_38 : decode cX7_fraction 38 = .ok (.aload_n 0, 1) := by decide +kernel
theorem dX7_fraction_39 : decode cX7_fraction 39 = .ok (.getfield 29, 3) := by decide +kernel
theorem dX7_fraction_42 : decode cX7_fraction 42 = .ok (.lload_n 1, 1) := by decide +kernel
theorem dX7_fraction_43 : decode cX7_fraction 43 = .ok (.lload_n 3, 1) := by decide +kernel
theorem dX7_fraction_44 : decode cX7_fraction 44 = .ok (.invokevirtual 142, 3) := by decide +kernel
theorem dX7_fraction_47 : decode cX7_fraction 47 = .ok (.ifCond .eq 13, 3) := by decide +kernel
theorem dX7_fraction_50 : decode cX7_fraction 50 = .ok (.aload_n 0, 1) := by decide +kernel
theorem dX7_fraction_51 : decode cX7_fraction 51 = .ok (.getfield 29, 3) := by decide +kernel
theorem dX7_fraction_54 : decode cX7_fraction 54 = .ok (.invokevirtual 146, 3) := by decide +kernel
theorem dX7_fraction_57 : decode cX7_fraction 57 = .ok (.goto 4, 3) := by decide +kernel
theorem dX7_fraction_60 : decode cX7_fraction 60 = .ok (.iconst (-1), 1) := by decide +kernel
theorem dX7_fraction_61 : decode cX7_fraction 61 = .ok (.ireturn, 1) := by decide +kernel
set_option maxRecDepth 20000 in
theorem ggX7_count_X5_measure : GoodIn wsX7_count wsX5_measure := goodIn_r _ [12, 13, 60, 61, 62, 63] (by decide +kernel) (by decide +kernel)
set_option maxRecDepth 20000 in
theorem gX7_count_X5_measure : GoodIn wsX7_count (wsV RX7 99 RX5 yX5_measure wsX5_measure) := goodIn_app (goodIn_of _ (by decide +kernel)) ggX7_count_X5_measure
set_option maxRecDepth 20000 in
theorem ggX7_count_X0_size : GoodIn wsX7_count wsX0_size := goodIn_r _ [18, 19, 64, 65, 66] (by decide +kernel) (by decide +kernel)
set_option maxRecDepth 20000 in
theorem gX7_count_X0_size : GoodIn wsX7_count (wsV RX7 146 RX0 yX0_size wsX0_size) := goodIn_app (goodIn_of _ (by decide +kernel)) ggX7_count_X0_size
set_option maxRecDepth 20000 in
theorem ggX7_count_X2_size : GoodIn wsX7_count wsX2_size := goodIn_r _ [24, 25, 67, 68] (by decide +kernel) (by decide +kernel)
set_option maxRecDepth 20000 in
theorem gX7_count_X2_size : GoodIn wsX7_count (wsV RX7 149 RX2 yX2_size wsX2_size) := goodIn_app (goodIn_of _ (by decide +kernel)) ggX7_count_X2_size
set_option maxRecDepth 20000 in
theorem ggX7_count_X1_size : GoodIn wsX7_count wsX1_size := goodIn_r _ [30, 31, 32, 21, 22, 23, 24, 25, 69, 70, 71, 72, 73, 74, 67, 68] (by decide +kernel) (by decide +kernel)
set_option maxRecDepth 20000 in
theorem gX7_count_X1_size : GoodIn wsX7_count (wsV RX7 150 RX1 yX1_size wsX1_size) := goodIn_app (goodIn_of _ (by decide +kernel)) ggX7_count_X1_size
set_option maxRecDepth 20000 in
theorem ggX7_count_X6_isThere : GoodIn wsX7_count wsX6_isThere := goodIn_r _ [37, 38, 75, 76] (by decide +kernel) (by decide +kernel)
set_option maxRecDepth 20000 in
theorem gX7_count_X6_isThere : GoodIn wsX7_count (wsV RX7 95 RX6 yX6_isThere wsX6_isThere) := goodIn_app (goodIn_of _ (by decide +kernel)) ggX7_count_X6_isThere
set_option maxRecDepth 20000 in
theorem ggX7_count_X6_entries : GoodIn wsX7_count wsX6_entries := goodIn_r _ [42, 43, 44, 21, 22, 23, 24, 25, 75, 76, 67, 68] (by decide +kernel) (by decide +kernel)
set_option maxRecDepth 20000 in
theorem gX7_count_X6_entries : GoodIn wsX7_count (wsV RX7 103 RX6 yX6_entries wsX6_entries) := goodIn_app (goodIn_of _ (by decide +kernel)) ggX7_count_X6_entries
theorem dX7_count_0 : decode cX7_count 0 = .ok (.iload_n 1, 1) := by decide +kernel
theorem dX7_count_1 : decode cX7_count 1 = .ok (.tableswitch 134 0 6 #[43, 48, 68, 88, 96, 104, 112], 43) := by decide +kernel
theorem dX7_count_44 : decode cX7_count 44 = .ok (.aload_n 0, 1) := by decide +kernel
theorem dX7_count_45 : decode cX7_count 45 = .ok (.getfield 9, 3) := by decide +kernel
theorem dX7_count_48 : decode cX7_count 48 = .ok (.ireturn, 1) := by decide +kernel
theorem dX7_count_49 : decode cX7_count 49 = .ok (.aload_n 0, 1) := by decide +kernel
theorem dX7_count_50 : decode cX7_count 50 = .ok (.getfield 9, 3) := by decide +kernel
theorem dX7_count_53 : decode cX7_count 53 = .ok (.iconst 1, 1) := by decide +kernel
theorem dX7_count_54 : decode cX7_count 54 = .ok (.if_icmp .ne 13, 3) := by decide +kernel
theorem dX7_count_57 : decode cX7_count 57 = .ok (.aload_n 0, 1) := by decide +kernel
theorem dX7_count_58 : decode cX7_count 58 = .ok (.getfield 16, 3) := by decide +kernel
theorem dX7_count_61 : decode cX7_count 61 = .ok (.invokevirtual 99, 3) := by decide +kernel
theorem dX7_count_64 : decode cX7_count 64 = .ok (.goto 4, 3) := by decide +kernel
theorem dX7_count_67 : decode cX7_count 67 = .ok (.iconst 0, 1) := by decide +kernel
theorem dX7_count_68 : decode cX7_count 68 = .ok (.ireturn, 1) := by decide +kernel
theorem dX7_count_69 : decode cX7_count 69 = .ok (.aload_n 0, 1) := by decide +kernel
theorem dX7_count_70 : decode cX7_count 70 = .ok (.getfield 9, 3) := by decide +kernel
theorem dX7_count_73 : decode cX7_count 73 = .ok (.iconst 2, 1) := by decide +kernel
theorem dX7_count_74 : decode cX7_count 74 = .ok (.if_icmp .ne 13, 3) := by decide +kernel
theorem dX7_count_77 : decode cX7_count 77 = .ok (.aload_n 0, 1) := by decide +kernel
theorem dX7_count_78 : decode cX7_count 78 = .ok (.getfield 29, 3) := by decide +kernel
theorem dX7_count_81 : decode cX7_count 81 = .ok (.invokevirtual 146, 3) := by decide +kernel
theorem dX7_count_84 : decode cX7_count 84 = .ok (.goto 4, 3) := by decide +kernel
theorem dX7_count_87 : decode cX7_count 87 = .ok (.iconst 0, 1) := by decide +kernel
theorem dX7_count_88 : decode cX7_count 88 = .ok (.ireturn, 1) := by decide +kernel
theorem dX7_count_89 : decode cX7_count 89 = .ok (.aload_n 0, 1) := by decide +kernel
theorem dX7_count_90 : decode cX7_count 90 = .ok (.getfield 45, 3) := by decide +kernel
theorem dX7_count_93 : decode cX7_count 93 = .ok (.invokevirtual 149, 3) := by decide +kernel
theorem dX7_count_96 : decode cX7_count 96 = .ok (.ireturn, 1) := by decide +kernel
theorem dX7_count_97 : decode cX7_count 97 = .ok (.aload_n 0, 1) := by decide +kernel
theorem dX7_count_98 : decode cX7_count 98 = .ok (.getfield 55, 3) := by decide +kernel
theorem dX7_count_101 : decode cX7_count 101 = .ok (.invokevirtual 149, 3) := by decide +kernel
theorem dX7_count_104 : decode cX7_count 104 = .ok (.ireturn, 1) := by decide +kernel
theorem dX7_count_105 : decode cX7_count 105 = .ok (.aload_n 0, 1) := by decide +kernel
theorem dX7_count_106 : decode cX7_count 106 = .ok (.getfield 81, 3) := by decide +kernel
theorem dX7_count_109 : decode cX7_count 109 = .ok (.invokevirtual 150, 3) := by decide +kernel
theorem dX7_count_112 : decode cX7_count 112 = .ok (.ireturn, 1) := by decide +kernel
theorem dX7_count_113 : decode cX7_count 113 = .ok (.aload_n 0, 1) := by decide +kernel
theorem dX7_count_114 : decode cX7_count 114 = .ok (.getfield 36, 3) := by decide +kernel
theorem dX7_count_117 : decode cX7_count 117 = .ok (.invokevirtual 95, 3) := by decide +kernel
theorem dX7_count_120 : decode cX7_count 120 = .ok (.ifCond .eq 13, 3) := by decide +kernel
theorem dX7_count_123 : decode cX7_count 123 = .ok (.aload_n 0, 1) := by decide +kernel
theorem dX7_count_124 : decode cX7_count 124 = .ok (.getfield 36, 3) := by decide +kernel
theorem dX7_count_127 : decode cX7_count 127 = .ok (.invokevirtual 103, 3) := by decide +kernel
theorem dX7_count_130 : decode cX7_count 130 = .ok (.goto 4, 3) := by decide +kernel
theorem dX7_count_133 : decode cX7_count 133 = .ok (.iconst (-1), 1) := by decide +kernel
theorem dX7_count_134 : decode cX7_count 134 = .ok (.ireturn, 1) := by decide +kernel
theorem dX7_count_135 : decode cX7_count 135 = .ok (.iconst (-1), 1) := by decide +kernel
theorem dX7_count_136 : decode cX7_count 136 = .ok (.ireturn, 1) := by decide +kernel
set_option maxRecDepth 20000 in
theorem ggX7_told_X5_has : GoodIn wsX7_told wsX5_has := goodIn_r _ [10, 11, 52, 53, 54, 55] (by decide +kernel) (by decide +kernel)
set_option maxRecDepth 20000 in
theorem gX7_told_X5_has : GoodIn wsX7_told (wsV RX7 151 RX5 yX5_has wsX5_has) := goodIn_app (goodIn_of _ (by decide +kernel)) ggX7_told_X5_has
set_option maxRecDepth 20000 in
theorem ggX7_told_X5_read : GoodIn wsX7_told wsX5_read := goodIn_r _ [15, 16, 17, 18, 19, 7, 8, 9, 10, 11, 52, 53, 54, 55] (by decide +kernel) (by decide +kernel)
set_option maxRecDepth 20000 in
theorem gX7_told_X5_read : GoodIn wsX7_told (wsV RX7 155 RX5 yX5_read wsX5_read) := goodIn_app (goodIn_of _ (by decide +kernel)) ggX7_told_X5_read
set_option maxRecDepth 20000 in
theorem ggX7_told_X0_has : GoodIn wsX7_told wsX0_has := goodIn_r _ [24, 25, 56, 57, 58] (by decide +kernel) (by decide +kernel)
set_option maxRecDepth 20000 in
theorem gX7_told_X0_has : GoodIn wsX7_told (wsV RX7 158 RX0 yX0_has wsX0_has) := goodIn_app (goodIn_of _ (by decide +kernel)) ggX7_told_X0_has
set_option maxRecDepth 20000 in
theorem ggX7_told_X0_over : GoodIn wsX7_told wsX0_over := goodIn_r _ [29, 30, 31, 21, 22, 23, 24, 25, 56, 57, 58] (by decide +kernel) (by decide +kernel)
set_option maxRecDepth 20000 in
theorem gX7_told_X0_over : GoodIn wsX7_told (wsV RX7 159 RX0 yX0_over wsX0_over) := goodIn_app (goodIn_of _ (by decide +kernel)) ggX7_told_X0_over
set_option maxRecDepth 20000 in
theorem ggX7_told_X0_under : GoodIn wsX7_told wsX0_under := goodIn_r _ [35, 36, 31, 21, 22, 23, 24, 25, 56, 57, 58] (by decide +kernel) (by decide +kernel)
set_option maxRecDepth 20000 in
theorem gX7_told_X0_under : GoodIn wsX7_told (wsV RX7 162 RX0 yX0_under wsX0_under) := goodIn_app (goodIn_of _ (by decide +kernel)) ggX7_told_X0_under
theorem dX7_told_0 : decode cX7_told 0 = .ok (.aload_n 0, 1) := by decide +kernel
theorem dX7_told_1 : decode cX7_told 1 = .ok (.getfield 9, 3) := by decide +kernel
theorem dX7_told_4 : decode cX7_told 4 = .ok (.iconst 1, 1) := by decide +kernel
theorem dX7_told_5 : decode cX7_told 5 = .ok (.if_icmp .ne 33, 3) := by decide +kernel
theorem dX7_told_8 : decode cX7_told 8 = .ok (.aload_n 0, 1) := by decide +kernel
theorem dX7_told_9 : decode cX7_told 9 = .ok (.getfield 16, 3) := by decide +kernel
theorem dX7_told_12 : decode cX7_told 12 = .ok (.iload_n 1, 1) := by decide +kernel
theorem dX7_told_13 : decode cX7_told 13 = .ok (.invokevirtual 151, 3) := by decide +kernel
theorem dX7_told_16 : decode cX7_told 16 = .ok (.ifCond .eq 22, 3) := by decide +kernel
theorem dX7_told_19 : decode cX7_told 19 = .ok (.iload_n 2, 1) := by decide +kernel
theorem dX7_told_20 : decode cX7_told 20 = .ok (.ifCond .lt 18, 3) := by decide +kernel
theorem dX7_told_23 : decode cX7_told 23 = .ok (.iload_n 2, 1) := by decide +kernel
theorem dX7_told_24 : decode cX7_told 24 = .ok (.iconst 2, 1) := by decide +kernel
theorem dX7_told_25 : decode cX7_told 25 = .ok (.if_icmp .gt 13, 3) := by decide +kernel
theorem dX7_told_28 : decode cX7_told 28 = .ok (.aload_n 0, 1) := by decide +kernel
theorem dX7_told_29 : decode cX7_told 29 = .ok (.getfield 16, 3) := by decide +kernel
theorem dX7_told_32 : decode cX7_told 32 = .ok (.iload_n 1, 1) := by decide +kernel
theorem dX7_told_33 : decode cX7_told 33 = .ok (.iload_n 2, 1) := by decide +kernel
theorem dX7_told_34 : decode cX7_told 34 = .ok (.invokevirtual 155, 3) := by decide +kernel
theorem dX7_told_37 : decode cX7_told 37 = .ok (.lreturn, 1) := by decide +kernel
theorem dX7_told_38 : decode cX7_told 38 = .ok (.aload_n 0, 1) := by decide +kernel
theorem dX7_told_39 : decode cX7_told 39 = .ok (.getfield 9, 3) := by decide +kernel
theorem dX7_told_42 : decode cX7_told 42 = .ok (.iconst 2, 1) := by decide +kernel
theorem dX7_told_43 : decode cX7_told 43 = .ok (.if_icmp .ne 47, 3) := by decide +kernel
theorem dX7_told_46 : decode cX7_told 46 = .ok (.aload_n 0, 1) := by decide +kernel
theorem dX7_told_47 : decode cX7_told 47 = .ok (.getfield 29, 3) := by decide +kernel
theorem dX7_told_50 : decode cX7_told 50 = .ok (.iload_n 1, 1) := by decide +kernel
theorem dX7_told_51 : decode cX7_told 51 = .ok (.invokevirtual 158, 3) := by decide +kernel
theorem dX7_told_54 : decode cX7_told 54 = .ok (.ifCond .eq 36, 3) := by decide +kernel
theorem dX7_told_57 : decode cX7_told 57 = .ok (.iload_n 2, 1) := by decide +kernel
theorem dX7_told_58 : decode cX7_told 58 = .ok (.ifCond .lt 32, 3) := by decide +kernel
theorem dX7_told_61 : decode cX7_told 61 = .ok (.iload_n 2, 1) := by decide +kernel
theorem dX7_told_62 : decode cX7_told 62 = .ok (.iconst 1, 1) := by decide +kernel
theorem dX7_told_63 : decode cX7_told 63 = .ok (.if_icmp .gt 27, 3) := by decide +kernel
theorem dX7_told_66 : decode cX7_told 66 = .ok (.iload_n 2, 1) := by decide +kernel
theorem dX7_told_67 : decode cX7_told 67 = .ok (.ifCond .ne 14, 3) := by decide +kernel
theorem dX7_told_70 : decode cX7_told 70 = .ok (.aload_n 0, 1) := by decide +kernel
theorem dX7_told_71 : decode cX7_told 71 = .ok (.getfield 29, 3) := by decide +kernel
theorem dX7_told_74 : decode cX7_told 74 = .ok (.iload_n 1, 1) := by decide +kernel
theorem dX7_told_75 : decode cX7_told 75 = .ok (.invokevirtual 159, 3) := by decide +kernel
theorem dX7_told_78 : decode cX7_told 78 = .ok (.goto 11, 3) := by decide +kernel
theorem dX7_told_81 : decode cX7_told 81 = .ok (.aload_n 0, 1) := by decide +kernel
theorem dX7_told_82 : decode cX7_told 82 = .ok (.getfield 29, 3) := by decide +kernel
theorem dX7_told_85 : decode cX7_told 85 = .ok (.iload_n 1, 1) := by decide +kernel
theorem dX7_told_86 : decode cX7_told 86 = .ok (.invokevirtual 162, 3) := by decide +kernel
theorem dX7_told_89 : decode cX7_told 89 = .ok (.lreturn, 1) := by decide +kernel
theorem dX7_told_90 : decode cX7_told 90 = .ok (.new 165, 3) := by decide +kernel
theorem dX7_told_93 : decode cX7_told 93 = .ok (.dup, 1) := by decide +kernel
theorem dX7_told_94 : decode cX7_told 94 = .ok (.ldc 167, 2) := by decide +kernel
theorem dX7_told_96 : decode cX7_told 96 = .ok (.invokespecial 169, 3) := by decide +kernel
theorem dX7_told_99 : decode cX7_told 99 = .ok (.athrow, 1) := by decide +kernel
set_option maxRecDepth 20000 in
theorem ggX7_step_X7_run : GoodIn wsX7_step wsX7_run := goodIn_ca (goodIn_ca (goodIn_ca (goodIn_ca (goodIn_ca (goodIn_r _ [5, 6, 7, 8, 9, 10, 11, 12, 13, 14, 4, 15, 16, 17, 18, 19, 20, 21, 22, 23, 24, 25, 26, 27, 28, 29, 30, 31, 32, 33, 34, 35, 36, 37, 38, 39, 40, 41, 42, 43, 44, 45, 46, 47, 48, 49, 50, 51, 52, 53, 54, 55, 56, 57, 58, 59, 60, 61, 62, 63, 64, 65, 66, 67, 68, 69, 70, 71, 72, 73, 74, 75, 76, 77, 78, 79, 80, 81, 82, 83, 84, 85, 86, 87, 88, 89, 90, 91, 92, 93, 94, 95, 96, 97, 98, 99, 100, 101, 102, 103, 104, 105, 106, 107, 108, 109, 110, 111, 112, 113, 114, 115, 116, 117, 118] (by decide +kernel) (by decide +kernel)) (goodIn_sub (fun _ h => List.mem_cons_of_mem _ (List.mem_append_left _ (List.mem_append_left _ (List.mem_append_left _ (List.mem_append_left _ (List.mem_append_right _ h)))))) (by decide +kernel))) (goodIn_sub (fun _ h => List.mem_cons_of_mem _ (List.mem_append_left _ (List.mem_append_left _ (List.mem_append_left _ (List.mem_append_right _ h))))) (by decide +kernel))) (goodIn_sub (fun _ h => List.mem_cons_of_mem _ (List.mem_append_left _ (List.mem_append_left _ (List.mem_append_right _ h)))) (by decide +kernel))) (goodIn_sub (fun _ h => List.mem_cons_of_mem _ (List.mem_append_left _ (List.mem_append_right _ h))) (by decide +kernel))) (goodIn_sub (fun _ h => List.mem_cons_of_mem _ (List.mem_append_right _ h)) (by decide +kernel))
set_option maxRecDepth 20000 in
theorem gX7_step_X7_run : GoodIn wsX7_step (wsV RX7 170 RX7 yX7_run wsX7_run) := goodIn_app (goodIn_of _ (by decide +kernel)) ggX7_step_X7_run
theorem dX7_step_0 : decode cX7_step 0 = .ok (.aload_n 0, 1) := by decide +kernel
theorem dX7_step_1 : decode cX7_step 1 = .ok (.lload_n 1, 1) := by decide +kernel
theorem dX7_step_2 : decode cX7_step 2 = .ok (.iconst 1, 1) := by decide +kernel
theorem dX7_step_3 : decode cX7_step 3 = .ok (.invokevirtual 170, 3) := by decide +kernel
theorem dX7_step_6 : decode cX7_step 6 = .ok (.lreturn, 1) := by decide +kernel
set_option maxRecDepth 20000 in
theorem ggX7_run_X7_refuseWrongStart : GoodIn wsX7_run wsX7_refuseWrongStart := goodIn_ca (goodIn_ca (goodIn_ca (goodIn_r _ [11, 12, 13, 14, 15, 3, 4, 16, 17, 18, 10, 19, 20, 21, 22, 23, 24, 25, 93, 94, 95, 96, 97, 98, 99, 100, 101, 102, 103, 104, 105, 106, 107] (by decide +kernel) (by decide +kernel)) (goodIn_sub (fun _ h => List.mem_cons_of_mem _ (List.mem_append_left _ (List.mem_append_left _ (List.mem_append_right _ h)))) (by decide +kernel))) (goodIn_sub (fun _ h => List.mem_cons_of_mem _ (List.mem_append_left _ (List.mem_append_right _ h))) (by decide +kernel))) (goodIn_sub (fun _ h => List.mem_cons_of_mem _ (List.mem_append_left _ (List.mem_append_left _ (List.mem_append_left _ (List.mem_append_right _ h))))) (by decide +kernel))
set_option maxRecDepth 20000 in
theorem gX7_run_X7_refuseWrongStart : GoodIn wsX7_run (wsV RX7 174 RX7 yX7_refuseWrongStart wsX7_refuseWrongStart) := goodIn_app (goodIn_of _ (by decide +kernel)) ggX7_run_X7_refuseWrongStart
set_option maxRecDepth 20000 in
theorem ggX7_run_X7_isNumber : GoodIn wsX7_run wsX7_isNumber := goodIn_r _ [23, 24, 25] (by decide +kernel) (by decide +kernel)
set_option maxRecDepth 20000 in
theorem gX7_run_X7_isNumber : GoodIn wsX7_run (va_wsS RX7 178 yX7_isNumber wsX7_isNumber) := goodIn_app (goodIn_of _ (by decide +kernel)) ggX7_run_X7_isNumber
set_option maxRecDepth 20000 in
theorem ggX7_run_X7_after : GoodIn wsX7_run wsX7_after := goodIn_ca (goodIn_r _ [29, 16, 30, 31, 32, 33, 34, 35, 36, 37, 38, 39, 40, 41, 42, 43, 44, 45, 46, 47, 48, 49, 50, 51, 52, 53, 54, 55, 56, 57, 58, 59, 60, 61, 62, 63, 64, 65, 22, 10, 23, 24, 25, 66, 67, 68, 69, 70, 71, 72, 73, 74, 75, 76, 77, 78, 79, 80, 81, 82, 83, 84, 85, 86, 87, 88, 89, 90, 91, 92, 93, 94, 95, 96, 97, 98, 99, 100, 101, 102, 103, 104, 105, 106, 107, 108, 109, 110, 111, 112, 113, 114] (by decide +kernel) (by decide +kernel)) (goodIn_sub (fun _ h => List.mem_cons_of_mem _ (List.mem_append_right _ h)) (by decide +kernel))
set_option maxRecDepth 20000 in
theorem gX7_run_X7_after : GoodIn wsX7_run (wsV RX7 182 RX7 yX7_after wsX7_after) := goodIn_app (goodIn_of _ (by decide +kernel)) ggX7_run_X7_after
theorem dX7_run_0 : decode cX7_run 0 = .ok (.aload_n 0, 1) := by decide +kernel
theorem dX7_run_1 : decode cX7_run 1 = .ok (.lload_n 1, 1) := by decide +kernel
theorem dX7_run_2 : decode cX7_run 2 = .ok (.iload_n 3, 1) := by decide +kernel
theorem dX7_run_3 : decode cX7_run 3 = .ok (.invokevirtual 174, 3) := by decide +kernel
theorem dX7_run_6 : decode cX7_run 6 = .ok (.lload_n 1, 1) := by decide +kernel
theorem dX7_run_7 : decode cX7_run 7 = .ok (.lstore 4, 2) := by decide +kernel
theorem dX7_run_9 : decode cX7_run 9 = .ok (.iconst 0, 1) := by decide +kernel
theorem dX7_run_10 : decode cX7_run 10 = .ok (.istore 6, 2) := by decide +kernel
theorem dX7_run_12 : decode cX7_run 12 = .ok (.iload 6, 2) := by decide +kernel
theorem dX7_run_14 : decode cX7_run 14 = .ok (.iload_n 3, 1) := by decide +kernel
theorem dX7_run_15 : decode cX7_run 15 = .ok (.if_icmp .ge 25, 3) := by decide +kernel
theorem dX7_run_18 : decode cX7_run 18 = .ok (.lload 4, 2) := by decide +kernel
theorem dX7_run_20 : decode cX7_run 20 = .ok (.invokestatic 178, 3) := by decide +kernel
theorem dX7_run_23 : decode cX7_run 23 = .ok (.ifCond .eq 17, 3) := by decide +kernel
theorem dX7_run_26 : decode cX7_run 26 = .ok (.aload_n 0, 1) := by decide +kernel
theorem dX7_run_27 : decode cX7_run 27 = .ok (.lload 4, 2) := by decide +kernel
theorem dX7_run_29 : decode cX7_run 29 = .ok (.invokevirtual 182, 3) := by decide +kernel
theorem dX7_run_32 : decode cX7_run 32 = .ok (.lstore 4, 2) := by decide +kernel
theorem dX7_run_34 : decode cX7_run 34 = .ok (.iinc 6 1, 3) := by decide +kernel
theorem dX7_run_37 : decode cX7_run 37 = .ok (.goto (-25), 3) := by decide +kernel
theorem dX7_run_40 : decode cX7_run 40 = .ok (.lload 4, 2) := by decide +kernel
theorem dX7_run_42 : decode cX7_run 42 = .ok (.ldc2_w 186, 3) := by decide +kernel
theorem dX7_run_45 : decode cX7_run 45 = .ok (.lcmp, 1) := by decide +kernel
theorem dX7_run_46 : decode cX7_run 46 = .ok (.ifCond .ne 13, 3) := by decide +kernel
theorem dX7_run_49 : decode cX7_run 49 = .ok (.new 165, 3) := by decide +kernel
theorem dX7_run_52 : decode cX7_run 52 = .ok (.dup, 1) := by decide +kernel
theorem dX7_run_53 : decode cX7_run 53 = .ok (.ldc 188, 2) := by decide +kernel
theorem dX7_run_55 : decode cX7_run 55 = .ok (.invokespecial 169, 3) := by decide +kernel
theorem dX7_run_58 : decode cX7_run 58 = .ok (.athrow, 1) := by decide +kernel
theorem dX7_run_59 : decode cX7_run 59 = .ok (.lload 4, 2) := by decide +kernel
theorem dX7_run_61 : decode cX7_run 61 = .ok (.ldc2_w 190, 3) := by decide +kernel
theorem dX7_run_64 : decode cX7_run 64 = .ok (.lcmp, 1) := by decide +kernel
theorem dX7_run_65 : decode cX7_run 65 = .ok (.ifCond .ne 13, 3) := by decide +kernel
theorem dX7_run_68 : decode cX7_run 68 = .ok (.new 192, 3) := by decide +kernel
theorem dX7_run_71 : decode cX7_run 71 = .ok (.dup, 1) := by decide +kernel
theorem dX7_run_72 : decode cX7_run 72 = .ok (.ldc 194, 2) := by decide +kernel
theorem dX7_run_74 : decode cX7_run 74 = .ok (.invokespecial 196, 3) := by decide +kernel
theorem dX7_run_77 : decode cX7_run 77 = .ok (.athrow, 1) := by decide +kernel
theorem dX7_run_78 : decode cX7_run 78 = .ok (.lload 4, 2) := by decide +kernel
theorem dX7_run_80 : decode cX7_run 80 = .ok (.lreturn, 1) := by decide +kernel
set_option maxRecDepth 20000 in
theorem ggX7_until_X7_isNumber : GoodIn wsX7_until wsX7_isNumber := goodIn_r _ [5, 6, 7] (by decide +kernel) (by decide +kernel)
set_option maxRecDepth 20000 in
theorem gX7_until_X7_isNumber : GoodIn wsX7_until (va_wsS RX7 178 yX7_isNumber wsX7_isNumber) := goodIn_app (goodIn_of _ (by decide +kernel)) ggX7_until_X7_isNumber
set_option maxRecDepth 20000 in
theorem ggX7_until_X7_isStepCount : GoodIn wsX7_until wsX7_isStepCount := goodIn_r _ [10, 11] (by decide +kernel) (by decide +kernel)
set_option maxRecDepth 20000 in
theorem gX7_until_X7_isStepCount : GoodIn wsX7_until (va_wsS RX7 197 yX7_isStepCount wsX7_isStepCount) := goodIn_app (goodIn_of _ (by decide +kernel)) ggX7_until_X7_isStepCount
set_option maxRecDepth 20000 in
theorem ggX7_until_X7_after : GoodIn wsX7_until wsX7_after := goodIn_ca (goodIn_r _ [15, 1, 16, 17, 18, 19, 20, 21, 22, 23, 24, 25, 26, 27, 28, 29, 30, 31, 32, 33, 34, 35, 36, 37, 38, 39, 40, 41, 42, 43, 44, 45, 46, 47, 48, 49, 50, 51, 3, 4, 5, 6, 7, 52, 53, 54, 55, 56, 57, 58, 59, 60, 61, 62, 63, 64, 65, 66, 67, 68, 69, 70, 71, 72, 73, 74, 75, 76, 77, 78, 79, 80, 81, 82, 83, 84, 85, 86, 87, 88, 89, 90, 91, 92, 93, 94, 95, 96, 97, 98, 99, 100] (by decide +kernel) (by decide +kernel)) (goodIn_sub (fun _ h => List.mem_cons_of_mem _ (List.mem_append_right _ h)) (by decide +kernel))
set_option maxRecDepth 20000 in
theorem gX7_until_X7_after : GoodIn wsX7_until (wsV RX7 182 RX7 yX7_after wsX7_after) := goodIn_app (goodIn_of _ (by decide +kernel)) ggX7_until_X7_after
theorem dX7_until_0 : decode cX7_until 0 = .ok (.aload_n 0, 1) := by decide +kernel
theorem dX7_until_1 : decode cX7_until 1 = .ok (.getfield 9, 3) := by decide +kernel
theorem dX7_until_4 : decode cX7_until 4 = .ok (.ifCond .eq 25, 3) := by decide +kernel
theorem dX7_until_7 : decode cX7_until 7 = .ok (.lload_n 1, 1) := by decide +kernel
theorem dX7_until_8 : decode cX7_until 8 = .ok (.invokestatic 178, 3) := by decide +kernel
theorem dX7_until_11 : decode cX7_until 11 = .ok (.ifCond .eq 18, 3) := by decide +kernel
theorem dX7_until_14 : decode cX7_until 14 = .ok (.lload_n 3, 1) := by decide +kernel
theorem dX7_until_15 : decode cX7_until 15 = .ok (.invokestatic 178, 3) := by decide +kernel
theorem dX7_until_18 : decode cX7_until 18 = .ok (.ifCond .eq 11, 3) := by decide +kernel
theorem dX7_until_21 : decode cX7_until 21 = .ok (.iload 5, 2) := by decide +kernel
theorem dX7_until_23 : decode cX7_until 23 = .ok (.invokestatic 197, 3) := by decide +kernel
theorem dX7_until_26 : decode cX7_until 26 = .ok (.ifCond .ne 5, 3) := by decide +kernel
theorem dX7_until_29 : decode cX7_until 29 = .ok (.iconst (-1), 1) := by decide +kernel
theorem dX7_until_30 : decode cX7_until 30 = .ok (.ireturn, 1) := by decide +kernel
theorem dX7_until_31 : decode cX7_until 31 = .ok (.lload_n 1, 1) := by decide +kernel
theorem dX7_until_32 : decode cX7_until 32 = .ok (.lload_n 3, 1) := by decide +kernel
theorem dX7_until_33 : decode cX7_until 33 = .ok (.lcmp, 1) := by decide +kernel
theorem dX7_until_34 : decode cX7_until 34 = .ok (.ifCond .ne 5, 3) := by decide +kernel
theorem dX7_until_37 : decode cX7_until 37 = .ok (.iconst 0, 1) := by decide +kernel
theorem dX7_until_38 : decode cX7_until 38 = .ok (.ireturn, 1) := by decide +kernel
theorem dX7_until_39 : decode cX7_until 39 = .ok (.lload_n 1, 1) := by decide +kernel
theorem dX7_until_40 : decode cX7_until 40 = .ok (.lstore 6, 2) := by decide +kernel
theorem dX7_until_42 : decode cX7_until 42 = .ok (.iconst 1, 1) := by decide +kernel
theorem dX7_until_43 : decode cX7_until 43 = .ok (.istore 8, 2) := by decide +kernel
theorem dX7_until_45 : decode cX7_until 45 = .ok (.iload 8, 2) := by decide +kernel
theorem dX7_until_47 : decode cX7_until 47 = .ok (.iload 5, 2) := by decide +kernel
theorem dX7_until_49 : decode cX7_until 49 = .ok (.if_icmp .gt 37, 3) := by decide +kernel
theorem dX7_until_52 : decode cX7_until 52 = .ok (.aload_n 0, 1) := by decide +kernel
theorem dX7_until_53 : decode cX7_until 53 = .ok (.lload 6, 2) := by decide +kernel
theorem dX7_until_55 : decode cX7_until 55 = .ok (.invokevirtual 182, 3) := by decide +kernel
theorem dX7_until_58 : decode cX7_until 58 = .ok (.lstore 6, 2) := by decide +kernel
theorem dX7_until_60 : decode cX7_until 60 = .ok (.lload 6, 2) := by decide +kernel
theorem dX7_until_62 : decode cX7_until 62 = .ok (.invokestatic 178, 3) := by decide +kernel
theorem dX7_until_65 : decode cX7_until 65 = .ok (.ifCond .ne 5, 3) := by decide +kernel
theorem dX7_until_68 : decode cX7_until 68 = .ok (.iconst (-1), 1) := by decide +kernel
theorem dX7_until_69 : decode cX7_until 69 = .ok (.ireturn, 1) := by decide +kernel
theorem dX7_until_70 : decode cX7_until 70 = .ok (.lload 6, 2) := by decide +kernel
theorem dX7_until_72 : decode cX7_until 72 = .ok (.lload_n 3, 1) := by decide +kernel
theorem dX7_until_73 : decode cX7_until 73 = .ok (.lcmp, 1) := by decide +kernel
theorem dX7_until_74 : decode cX7_until 74 = .ok (.ifCond .ne 6, 3) := by decide +kernel
theorem dX7_until_77 : decode cX7_until 77 = .ok (.iload 8, 2) := by decide +kernel
theorem dX7_until_79 : decode cX7_until 79 = .ok (.ireturn, 1) := by decide +kernel
theorem dX7_until_80 : decode cX7_until 80 = .ok (.iinc 8 1, 3) := by decide +kernel
theorem dX7_until_83 : decode cX7_until 83 = .ok (.goto (-38), 3) := by decide +kernel
theorem dX7_until_86 : decode cX7_until 86 = .ok (.bipush (-2), 2) := by decide +kernel
theorem dX7_until_88 : decode cX7_until 88 = .ok (.ireturn, 1) := by decide +kernel
set_option maxRecDepth 20000 in
theorem ggX7_height_X7_isNumber : GoodIn wsX7_height wsX7_isNumber := goodIn_r _ [5, 6, 7] (by decide +kernel) (by decide +kernel)
set_option maxRecDepth 20000 in
theorem gX7_height_X7_isNumber : GoodIn wsX7_height (va_wsS RX7 178 yX7_isNumber wsX7_isNumber) := goodIn_app (goodIn_of _ (by decide +kernel)) ggX7_height_X7_isNumber
set_option maxRecDepth 20000 in
theorem ggX7_height_X7_isStepCount : GoodIn wsX7_height wsX7_isStepCount := goodIn_r _ [10, 11] (by decide +kernel) (by decide +kernel)
set_option maxRecDepth 20000 in
theorem gX7_height_X7_isStepCount : GoodIn wsX7_height (va_wsS RX7 197 yX7_isStepCount wsX7_isStepCount) := goodIn_app (goodIn_of _ (by decide +kernel)) ggX7_height_X7_isStepCount
set_option maxRecDepth 20000 in
theorem ggX7_height_X7_stepsTillBelow : GoodIn wsX7_height wsX7_stepsTillBelow := goodIn_ca (goodIn_r _ [15, 16, 17, 18, 4, 19, 1, 20, 21, 22, 23, 24, 25, 26, 27, 28, 29, 30, 31, 32, 33, 34, 35, 36, 37, 38, 39, 40, 41, 42, 43, 44, 45, 46, 47, 48, 49, 50, 51, 52, 53, 54, 55, 3, 5, 6, 7, 56, 57, 58, 59, 60, 61, 62, 63, 64, 65, 66, 67, 68, 69, 70, 71, 72, 73, 74, 75, 76, 77, 78, 79, 80, 81, 82, 2, 83, 84, 85, 86, 87, 88, 89, 90, 91, 92, 93, 94, 95, 96, 97, 98, 99, 100, 101, 102, 103, 104] (by decide +kernel) (by decide +kernel)) (goodIn_sub (fun _ h => List.mem_cons_of_mem _ (List.mem_append_right _ h)) (by decide +kernel))
set_option maxRecDepth 20000 in
theorem gX7_height_X7_stepsTillBelow : GoodIn wsX7_height (wsV RX7 200 RX7 yX7_stepsTillBelow wsX7_stepsTillBelow) := goodIn_app (goodIn_of _ (by decide +kernel)) ggX7_height_X7_stepsTillBelow
theorem dX7_height_0 : decode cX7_height 0 = .ok (.aload_n 0, 1) := by decide +kernel
theorem dX7_height_1 : decode cX7_height 1 = .ok (.getfield 9, 3) := by decide +kernel
theorem dX7_height_4 : decode cX7_height 4 = .ok (.ifCond .eq 17, 3) := by decide +kernel
theorem dX7_height_7 : decode cX7_height 7 = .ok (.lload_n 1, 1) := by decide +kernel
theorem dX7_height_8 : decode cX7_height 8 = .ok (.invokestatic 178, 3) := by decide +kernel
theorem dX7_height_11 : decode cX7_height 11 = .ok (.ifCond .eq 10, 3) := by decide +kernel
theorem dX7_height_14 : decode cX7_height 14 = .ok (.iload_n 3, 1) := by decide +kernel
theorem dX7_height_15 : decode cX7_height 15 = .ok (.invokestatic 197, 3) := by decide +kernel
theorem dX7_height_18 : decode cX7_height 18 = .ok (.ifCond .ne 5, 3) := by decide +kernel
theorem dX7_height_21 : decode cX7_height 21 = .ok (.iconst (-1), 1) := by decide +kernel
theorem dX7_height_22 : decode cX7_height 22 = .ok (.ireturn, 1) := by decide +kernel
theorem dX7_height_23 : decode cX7_height 23 = .ok (.aload_n 0, 1) := by decide +kernel
theorem dX7_height_24 : decode cX7_height 24 = .ok (.lload_n 1, 1) := by decide +kernel
theorem dX7_height_25 : decode cX7_height 25 = .ok (.iload_n 3, 1) := by decide +kernel
theorem dX7_height_26 : decode cX7_height 26 = .ok (.invokevirtual 200, 3) := by decide +kernel
theorem dX7_height_29 : decode cX7_height 29 = .ok (.ireturn, 1) := by decide +kernel
set_option maxRecDepth 20000 in
theorem ggX7_peak_X7_refuseWrongStart : GoodIn wsX7_peak wsX7_refuseWrongStart := goodIn_ca (goodIn_ca (goodIn_ca (goodIn_r _ [9, 10, 11, 12, 13, 14, 15, 16, 17, 18, 8, 19, 20, 21, 22, 23, 24, 25, 93, 94, 95, 96, 97, 98, 99, 100, 101, 102, 103, 104, 105, 106, 107] (by decide +kernel) (by decide +kernel)) (goodIn_sub (fun _ h => List.mem_cons_of_mem _ (List.mem_append_left _ (List.mem_append_left _ (List.mem_append_left _ (List.mem_append_right _ h))))) (by decide +kernel))) (goodIn_sub (fun _ h => List.mem_cons_of_mem _ (List.mem_append_left _ (List.mem_append_left _ (List.mem_append_right _ h)))) (by decide +kernel))) (goodIn_sub (fun _ h => List.mem_cons_of_mem _ (List.mem_append_left _ (List.mem_append_right _ h))) (by decide +kernel))
set_option maxRecDepth 20000 in
theorem gX7_peak_X7_refuseWrongStart : GoodIn wsX7_peak (wsV RX7 174 RX7 yX7_refuseWrongStart wsX7_refuseWrongStart) := goodIn_app (goodIn_of _ (by decide +kernel)) ggX7_peak_X7_refuseWrongStart
set_option maxRecDepth 20000 in
theorem ggX7_peak_X7_after : GoodIn wsX7_peak wsX7_after := goodIn_ca (goodIn_r _ [29, 16, 30, 31, 32, 33, 34, 35, 36, 37, 38, 39, 40, 41, 42, 43, 44, 45, 46, 47, 48, 49, 50, 51, 52, 53, 54, 55, 56, 57, 58, 59, 60, 61, 62, 63, 64, 65, 22, 8, 23, 24, 25, 66, 67, 68, 69, 70, 71, 72, 73, 74, 75, 76, 77, 78, 79, 80, 81, 82, 83, 84, 85, 86, 87, 88, 89, 90, 91, 92, 93, 94, 95, 96, 97, 98, 99, 100, 101, 102, 103, 104, 105, 106, 107, 108, 109, 110, 111, 112, 113, 114] (by decide +kernel) (by decide +kernel)) (goodIn_sub (fun _ h => List.mem_cons_of_mem _ (List.mem_append_right _ h)) (by decide +kernel))
set_option maxRecDepth 20000 in
theorem gX7_peak_X7_after : GoodIn wsX7_peak (wsV RX7 182 RX7 yX7_after wsX7_after) := goodIn_app (goodIn_of _ (by decide +kernel)) ggX7_peak_X7_after
set_option maxRecDepth 20000 in
theorem ggX7_peak_X7_isNumber : GoodIn wsX7_peak wsX7_isNumber := goodIn_r _ [23, 24, 25] (by decide +kernel) (by decide +kernel)
set_option maxRecDepth 20000 in
theorem gX7_peak_X7_isNumber : GoodIn wsX7_peak (va_wsS RX7 178 yX7_isNumber wsX7_isNumber) := goodIn_app (goodIn_of _ (by decide +kernel)) ggX7_peak_X7_isNumber
theorem dX7_peak_0 : decode cX7_peak 0 = .ok (.aload_n 0, 1) := by decide +kernel
theorem dX7_peak_1 : decode cX7_peak 1 = .ok (.lload_n 1, 1) := by decide +kernel
theorem dX7_peak_2 : decode cX7_peak 2 = .ok (.iload_n 3, 1) := by decide +kernel
theorem dX7_peak_3 : decode cX7_peak 3 = .ok (.invokevirtual 174, 3) := by decide +kernel
theorem dX7_peak_6 : decode cX7_peak 6 = .ok (.lload_n 1, 1) := by decide +kernel
theorem dX7_peak_7 : decode cX7_peak 7 = .ok (.lstore 4, 2) := by decide +kernel
theorem dX7_peak_9 : decode cX7_peak 9 = .ok (.lload_n 1, 1) := by decide +kernel
theorem dX7_peak_10 : decode cX7_peak 10 = .ok (.lstore 6, 2) := by decide +kernel
theorem dX7_peak_12 : decode cX7_peak 12 = .ok (.iconst 0, 1) := by decide +kernel
theorem dX7_peak_13 : decode cX7_peak 13 = .ok (.istore 8, 2) := by decide +kernel
theorem dX7_peak_15 : decode cX7_peak 15 = .ok (.iload 8, 2) := by decide +kernel
theorem dX7_peak_17 : decode cX7_peak 17 = .ok (.iload_n 3, 1) := by decide +kernel
theorem dX7_peak_18 : decode cX7_peak 18 = .ok (.if_icmp .ge 37, 3) := by decide +kernel
theorem dX7_peak_21 : decode cX7_peak 21 = .ok (.aload_n 0, 1) := by decide +kernel
theorem dX7_peak_22 : decode cX7_peak 22 = .ok (.lload 6, 2) := by decide +kernel
theorem dX7_peak_24 : decode cX7_peak 24 = .ok (.invokevirtual 182, 3) := by decide +kernel
theorem dX7_peak_27 : decode cX7_peak 27 = .ok (.lstore 6, 2) := by decide +kernel
theorem dX7_peak_29 : decode cX7_peak 29 = .ok (.lload 6, 2) := by decide +kernel
theorem dX7_peak_31 : decode cX7_peak 31 = .ok (.invokestatic 178, 3) := by decide +kernel
theorem dX7_peak_34 : decode cX7_peak 34 = .ok (.ifCond .ne 6, 3) := by decide +kernel
theorem dX7_peak_37 : decode cX7_peak 37 = .ok (.lload 4, 2) := by decide +kernel
theorem dX7_peak_39 : decode cX7_peak 39 = .ok (.lreturn, 1) := by decide +kernel
theorem dX7_peak_40 : decode cX7_peak 40 = .ok (.lload 4, 2) := by decide +kernel
theorem dX7_peak_42 : decode cX7_peak 42 = .ok (.lload 6, 2) := by decide +kernel
theorem dX7_peak_44 : decode cX7_peak 44 = .ok (.invokestatic 204, 3) := by decide +kernel
theorem dX7_peak_47 : decode cX7_peak 47 = .ok (.lstore 4, 2) := by decide +kernel
theorem dX7_peak_49 : decode cX7_peak 49 = .ok (.iinc 8 1, 3) := by decide +kernel
theorem dX7_peak_52 : decode cX7_peak 52 = .ok (.goto (-37), 3) := by decide +kernel
theorem dX7_peak_55 : decode cX7_peak 55 = .ok (.lload 4, 2) := by decide +kernel
theorem dX7_peak_57 : decode cX7_peak 57 = .ok (.lreturn, 1) := by decide +kernel
set_option maxRecDepth 20000 in
theorem ggX7_word_X7_isNumber : GoodIn wsX7_word wsX7_isNumber := goodIn_r _ [8, 9, 10] (by decide +kernel) (by decide +kernel)
set_option maxRecDepth 20000 in
theorem gX7_word_X7_isNumber : GoodIn wsX7_word (va_wsS RX7 178 yX7_isNumber wsX7_isNumber) := goodIn_app (goodIn_of _ (by decide +kernel)) ggX7_word_X7_isNumber
set_option maxRecDepth 20000 in
theorem ggX7_word_X2_empty : GoodIn wsX7_word wsX2_empty := goodIn_r _ [15, 16, 127, 128] (by decide +kernel) (by decide +kernel)
set_option maxRecDepth 20000 in
theorem gX7_word_X2_empty : GoodIn wsX7_word (wsV RX7 208 RX2 yX2_empty wsX2_empty) := goodIn_app (goodIn_of _ (by decide +kernel)) ggX7_word_X2_empty
set_option maxRecDepth 20000 in
theorem ggX7_word_X7_after : GoodIn wsX7_word wsX7_after := goodIn_ca (goodIn_r _ [20, 1, 21, 22, 23, 24, 25, 26, 27, 28, 29, 30, 31, 32, 33, 34, 35, 36, 37, 38, 39, 40, 41, 42, 43, 44, 45, 46, 47, 48, 49, 50, 51, 52, 53, 54, 55, 56, 6, 7, 8, 9, 10, 57, 58, 59, 60, 61, 62, 63, 64, 65, 66, 67, 68, 69, 70, 71, 72, 73, 74, 75, 76, 77, 78, 79, 80, 81, 82, 83, 112, 113, 114, 115, 116, 117, 118, 119, 120, 121, 122, 123, 124, 125, 126, 129, 130, 131, 132, 133, 134, 135] (by decide +kernel) (by decide +kernel)) (goodIn_sub (fun _ h => List.mem_cons_of_mem _ (List.mem_append_right _ h)) (by decide +kernel))
set_option maxRecDepth 20000 in
theorem gX7_word_X7_after : GoodIn wsX7_word (wsV RX7 182 RX7 yX7_after wsX7_after) := goodIn_app (goodIn_of _ (by decide +kernel)) ggX7_word_X7_after
set_option maxRecDepth 20000 in
theorem ggX7_word_X7_signOf : GoodIn wsX7_word wsX7_signOf := goodIn_ca (goodIn_r _ [87, 1, 21, 22, 88, 30, 31, 26, 32, 33, 34, 35, 36, 37, 89, 66, 67, 60, 68, 69, 70, 71, 72, 73, 74, 75, 76, 77, 78, 112, 113, 114, 115, 116, 117, 118, 119, 120, 121, 122, 123, 124, 125, 126, 129, 130, 131, 132, 133, 134, 135] (by decide +kernel) (by decide +kernel)) (goodIn_sub (fun _ h => List.mem_cons_of_mem _ (List.mem_append_right _ h)) (by decide +kernel))
set_option maxRecDepth 20000 in
theorem gX7_word_X7_signOf : GoodIn wsX7_word (wsV RX7 209 RX7 yX7_signOf wsX7_signOf) := goodIn_app (goodIn_of _ (by decide +kernel)) ggX7_word_X7_signOf
set_option maxRecDepth 20000 in
theorem ggX7_word_X2_add : GoodIn wsX7_word wsX2_add := goodIn_r _ [93, 16, 94, 127, 128] (by decide +kernel) (by decide +kernel)
set_option maxRecDepth 20000 in
theorem gX7_word_X2_add : GoodIn wsX7_word (wsV RX7 213 RX2 yX2_add wsX2_add) := goodIn_app (goodIn_of _ (by decide +kernel)) ggX7_word_X2_add
set_option maxRecDepth 20000 in
theorem ggX7_word_X2_become : GoodIn wsX7_word wsX2_become := goodIn_r _ [98, 16, 99, 100, 101, 14, 102, 94, 103, 104, 105, 106, 107, 91, 92, 93, 127, 128] (by decide +kernel) (by decide +kernel)
set_option maxRecDepth 20000 in
theorem gX7_word_X2_become : GoodIn wsX7_word (wsV RX7 215 RX2 yX2_become wsX2_become) := goodIn_app (goodIn_of _ (by decide +kernel)) ggX7_word_X2_become
set_option maxRecDepth 20000 in
theorem ggX7_word_X2_size : GoodIn wsX7_word wsX2_size := goodIn_r _ [111, 16, 127, 128] (by decide +kernel) (by decide +kernel)
set_option maxRecDepth 20000 in
theorem gX7_word_X2_size : GoodIn wsX7_word (wsV RX7 149 RX2 yX2_size wsX2_size) := goodIn_app (goodIn_of _ (by decide +kernel)) ggX7_word_X2_size
theorem dX7_word_0 : decode cX7_word 0 = .ok (.aload_n 0, 1) := by decide +kernel
theorem dX7_word_1 : decode cX7_word 1 = .ok (.getfield 9, 3) := by decide +kernel
theorem dX7_word_4 : decode cX7_word 4 = .ok (.ifCond .eq 21, 3) := by decide +kernel
theorem dX7_word_7 : decode cX7_word 7 = .ok (.lload_n 1, 1) := by decide +kernel
theorem dX7_word_8 : decode cX7_word 8 = .ok (.invokestatic 178, 3) := by decide +kernel
theorem dX7_word_11 : decode cX7_word 11 = .ok (.ifCond .eq 14, 3) := by decide +kernel
theorem dX7_word_14 : decode cX7_word 14 = .ok (.iload_n 3, 1) := by decide +kernel
theorem dX7_word_15 : decode cX7_word 15 = .ok (.iconst 1, 1) := by decide +kernel
theorem dX7_word_16 : decode cX7_word 16 = .ok (.if_icmp .lt 9, 3) := by decide +kernel
theorem dX7_word_19 : decode cX7_word 19 = .ok (.iload_n 3, 1) := by decide +kernel
theorem dX7_word_20 : decode cX7_word 20 = .ok (.bipush 40, 2) := by decide +kernel
theorem dX7_word_22 : decode cX7_word 22 = .ok (.if_icmp .le 5, 3) := by decide +kernel
theorem dX7_word_25 : decode cX7_word 25 = .ok (.iconst (-1), 1) := by decide +kernel
theorem dX7_word_26 : decode cX7_word 26 = .ok (.ireturn, 1) := by decide +kernel
theorem dX7_word_27 : decode cX7_word 27 = .ok (.aload_n 0, 1) := by decide +kernel
theorem dX7_word_28 : decode cX7_word 28 = .ok (.getfield 49, 3) := by decide +kernel
theorem dX7_word_31 : decode cX7_word 31 = .ok (.invokevirtual 208, 3) := by decide +kernel
theorem dX7_word_34 : decode cX7_word 34 = .ok (.lload_n 1, 1) := by decide +kernel
theorem dX7_word_35 : decode cX7_word 35 = .ok (.lstore 4, 2) := by decide +kernel
theorem dX7_word_37 : decode cX7_word 37 = .ok (.iconst 0, 1) := by decide +kernel
theorem dX7_word_38 : decode cX7_word 38 = .ok (.istore 6, 2) := by decide +kernel
theorem dX7_word_40 : decode cX7_word 40 = .ok (.iload 6, 2) := by decide +kernel
theorem dX7_word_42 : decode cX7_word 42 = .ok (.iload_n 3, 1) := by decide +kernel
theorem dX7_word_43 : decode cX7_word 43 = .ok (.if_icmp .ge 60, 3) := by decide +kernel
theorem dX7_word_46 : decode cX7_word 46 = .ok (.iload 6, 2) := by decide +kernel
theorem dX7_word_48 : decode cX7_word 48 = .ok (.ifCond .le 11, 3) := by decide +kernel
theorem dX7_word_51 : decode cX7_word 51 = .ok (.aload_n 0, 1) := by decide +kernel
theorem dX7_word_52 : decode cX7_word 52 = .ok (.lload 4, 2) := by decide +kernel
theorem dX7_word_54 : decode cX7_word 54 = .ok (.invokevirtual 182, 3) := by decide +kernel
theorem dX7_word_57 : decode cX7_word 57 = .ok (.lstore 4, 2) := by decide +kernel
theorem dX7_word_59 : decode cX7_word 59 = .ok (.lload 4, 2) := by decide +kernel
theorem dX7_word_61 : decode cX7_word 61 = .ok (.ldc2_w 190, 3) := by decide +kernel
theorem dX7_word_64 : decode cX7_word 64 = .ok (.lcmp, 1) := by decide +kernel
theorem dX7_word_65 : decode cX7_word 65 = .ok (.ifCond .ne 5, 3) := by decide +kernel
theorem dX7_word_68 : decode cX7_word 68 = .ok (.iconst (-1), 1) := by decide +kernel
theorem dX7_word_69 : decode cX7_word 69 = .ok (.ireturn, 1) := by decide +kernel
theorem dX7_word_70 : decode cX7_word 70 = .ok (.aload_n 0, 1) := by decide +kernel
theorem dX7_word_71 : decode cX7_word 71 = .ok (.lload 4, 2) := by decide +kernel
theorem dX7_word_73 : decode cX7_word 73 = .ok (.invokevirtual 209, 3) := by decide +kernel
theorem dX7_word_76 : decode cX7_word 76 = .ok (.istore 7, 2) := by decide +kernel
theorem dX7_word_78 : decode cX7_word 78 = .ok (.iload 7, 2) := by decide +kernel
theorem dX7_word_80 : decode cX7_word 80 = .ok (.ifCond .ge 6, 3) := by decide +kernel
theorem dX7_word_83 : decode cX7_word 83 = .ok (.goto 20, 3) := by decide +kernel
theorem dX7_word_86 : decode cX7_word 86 = .ok (.aload_n 0, 1) := by decide +kernel
theorem dX7_word_87 : decode cX7_word 87 = .ok (.getfield 49, 3) := by decide +kernel
theorem dX7_word_90 : decode cX7_word 90 = .ok (.iload 7, 2) := by decide +kernel
theorem dX7_word_92 : decode cX7_word 92 = .ok (.i2l, 1) := by decide +kernel
theorem dX7_word_93 : decode cX7_word 93 = .ok (.invokevirtual 213, 3) := by decide +kernel
theorem dX7_word_96 : decode cX7_word 96 = .ok (.pop, 1) := by decide +kernel
theorem dX7_word_97 : decode cX7_word 97 = .ok (.iinc 6 1, 3) := by decide +kernel
theorem dX7_word_100 : decode cX7_word 100 = .ok (.goto (-60), 3) := by decide +kernel
theorem dX7_word_103 : decode cX7_word 103 = .ok (.aload_n 0, 1) := by decide +kernel
theorem dX7_word_104 : decode cX7_word 104 = .ok (.getfield 45, 3) := by decide +kernel
theorem dX7_word_107 : decode cX7_word 107 = .ok (.aload_n 0, 1) := by decide +kernel
theorem dX7_word_108 : decode cX7_word 108 = .ok (.getfield 49, 3) := by decide +kernel
theorem dX7_word_111 : decode cX7_word 111 = .ok (.invokevirtual 215, 3) := by decide +kernel
theorem dX7_word_114 : decode cX7_word 114 = .ok (.aload_n 0, 1) := by decide +kernel
theorem dX7_word_115 : decode cX7_word 115 = .ok (.getfield 45, 3) := by decide +kernel
theorem dX7_word_118 : decode cX7_word 118 = .ok (.invokevirtual 149, 3) := by decide +kernel
theorem dX7_word_121 : decode cX7_word 121 = .ok (.ireturn, 1) := by decide +kernel
set_option maxRecDepth 20000 in
theorem ggX7_rest_X2_add : GoodIn wsX7_rest wsX2_add := goodIn_r _ [6, 7, 8, 28, 29] (by decide +kernel) (by decide +kernel)
set_option maxRecDepth 20000 in
theorem gX7_rest_X2_add : GoodIn wsX7_rest (wsV RX7 213 RX2 yX2_add wsX2_add) := goodIn_app (goodIn_of _ (by decide +kernel)) ggX7_rest_X2_add
set_option maxRecDepth 20000 in
theorem ggX7_rest_X2_size : GoodIn wsX7_rest wsX2_size := goodIn_r _ [12, 7, 28, 29] (by decide +kernel) (by decide +kernel)
set_option maxRecDepth 20000 in
theorem gX7_rest_X2_size : GoodIn wsX7_rest (wsV RX7 149 RX2 yX2_size wsX2_size) := goodIn_app (goodIn_of _ (by decide +kernel)) ggX7_rest_X2_size
theorem dX7_rest_0 : decode cX7_rest 0 = .ok (.iload_n 1, 1) := by decide +kernel
theorem dX7_rest_1 : decode cX7_rest 1 = .ok (.ifCond .lt 9, 3) := by decide +kernel
theorem dX7_rest_4 : decode cX7_rest 4 = .ok (.iload_n 1, 1) := by decide +kernel
theorem dX7_rest_5 : decode cX7_rest 5 = .ok (.bipush 64, 2) := by decide +kernel
theorem dX7_rest_7 : decode cX7_rest 7 = .ok (.if_icmp .lt 5, 3) := by decide +kernel
theorem dX7_rest_10 : decode cX7_rest 10 = .ok (.iconst (-1), 1) := by decide +kernel
theorem dX7_rest_11 : decode cX7_rest 11 = .ok (.ireturn, 1) := by decide +kernel
theorem dX7_rest_12 : decode cX7_rest 12 = .ok (.aload_n 0, 1) := by decide +kernel
theorem dX7_rest_13 : decode cX7_rest 13 = .ok (.getfield 55, 3) := by decide +kernel
theorem dX7_rest_16 : decode cX7_rest 16 = .ok (.iload_n 1, 1) := by decide +kernel
theorem dX7_rest_17 : decode cX7_rest 17 = .ok (.i2l, 1) := by decide +kernel
theorem dX7_rest_18 : decode cX7_rest 18 = .ok (.invokevirtual 213, 3) := by decide +kernel
theorem dX7_rest_21 : decode cX7_rest 21 = .ok (.ifCond .eq 13, 3) := by decide +kernel
theorem dX7_rest_24 : decode cX7_rest 24 = .ok (.aload_n 0, 1) := by decide +kernel
theorem dX7_rest_25 : decode cX7_rest 25 = .ok (.getfield 55, 3) := by decide +kernel
theorem dX7_rest_28 : decode cX7_rest 28 = .ok (.invokevirtual 149, 3) := by decide +kernel
theorem dX7_rest_31 : decode cX7_rest 31 = .ok (.goto 4, 3) := by decide +kernel
theorem dX7_rest_34 : decode cX7_rest 34 = .ok (.iconst (-1), 1) := by decide +kernel
theorem dX7_rest_35 : decode cX7_rest 35 = .ok (.ireturn, 1) := by decide +kernel
set_option maxRecDepth 20000 in
theorem ggX7_clear_X2_size : GoodIn wsX7_clear wsX2_size := goodIn_r _ [6, 7, 27, 28] (by decide +kernel) (by decide +kernel)
set_option maxRecDepth 20000 in
theorem gX7_clear_X2_size : GoodIn wsX7_clear (wsV RX7 149 RX2 yX2_size wsX2_size) := goodIn_app (goodIn_of _ (by decide +kernel)) ggX7_clear_X2_size
set_option maxRecDepth 20000 in
theorem ggX7_clear_X2_empty : GoodIn wsX7_clear wsX2_empty := goodIn_r _ [11, 7, 27, 28] (by decide +kernel) (by decide +kernel)
set_option maxRecDepth 20000 in
theorem gX7_clear_X2_empty : GoodIn wsX7_clear (wsV RX7 208 RX2 yX2_empty wsX2_empty) := goodIn_app (goodIn_of _ (by decide +kernel)) ggX7_clear_X2_empty
theorem dX7_clear_0 : decode cX7_clear 0 = .ok (.aload_n 0, 1) := by decide +kernel
theorem dX7_clear_1 : decode cX7_clear 1 = .ok (.getfield 55, 3) := by decide +kernel
theorem dX7_clear_4 : decode cX7_clear 4 = .ok (.invokevirtual 149, 3) := by decide +kernel
theorem dX7_clear_7 : decode cX7_clear 7 = .ok (.istore_n 1, 1) := by decide +kernel
theorem dX7_clear_8 : decode cX7_clear 8 = .ok (.aload_n 0, 1) := by decide +kernel
theorem dX7_clear_9 : decode cX7_clear 9 = .ok (.getfield 55, 3) := by decide +kernel
theorem dX7_clear_12 : decode cX7_clear 12 = .ok (.invokevirtual 208, 3) := by decide +kernel
theorem dX7_clear_15 : decode cX7_clear 15 = .ok (.iload_n 1, 1) := by decide +kernel
theorem dX7_clear_16 : decode cX7_clear 16 = .ok (.ireturn, 1) := by decide +kernel
set_option maxRecDepth 20000 in
theorem ggX7_shape_X7_shapeTold : GoodIn wsX7_shape wsX7_shapeTold := goodIn_ca (goodIn_r _ [8, 9, 1, 10, 11, 12, 13, 14, 15, 16, 17, 18, 19, 20, 21, 22, 23, 24, 25, 26, 27, 28, 29, 30, 31, 32, 33, 34, 7, 35, 2, 36, 37, 38, 39, 40, 41, 42, 43, 44, 45, 46, 47, 48, 49, 50, 51, 52, 53, 54, 55, 56, 57, 58, 59, 60, 61, 62, 63, 64, 65, 66, 67, 68, 69, 70, 71, 72, 73, 74, 75, 76, 77, 78, 79, 80, 81, 82, 83, 105, 106, 107, 108, 109, 110, 111, 112, 113, 114, 115, 116, 117, 118, 119, 120, 121, 122, 123, 124, 125, 126, 127, 128] (by decide +kernel) (by decide +kernel)) (goodIn_sub (fun _ h => List.mem_cons_of_mem _ (List.mem_append_right _ h)) (by decide +kernel))
set_option maxRecDepth 20000 in
theorem gX7_shape_X7_shapeTold : GoodIn wsX7_shape (wsV RX7 218 RX7 yX7_shapeTold wsX7_shapeTold) := goodIn_app (goodIn_of _ (by decide +kernel)) ggX7_shape_X7_shapeTold
set_option maxRecDepth 20000 in
theorem ggX7_shape_X2_size : GoodIn wsX7_shape wsX2_size := goodIn_r _ [15, 16, 120, 121] (by decide +kernel) (by decide +kernel)
set_option maxRecDepth 20000 in
theorem gX7_shape_X2_size : GoodIn wsX7_shape (wsV RX7 149 RX2 yX2_size wsX2_size) := goodIn_app (goodIn_of _ (by decide +kernel)) ggX7_shape_X2_size
set_option maxRecDepth 20000 in
theorem ggX7_shape_X4_reduce : GoodIn wsX7_shape wsX4_reduce := goodIn_ca (goodIn_r _ [77, 41, 43, 42, 44, 45, 39, 46, 78, 7, 79, 80, 81, 82, 83, 126, 127, 128] (by decide +kernel) (by decide +kernel)) (goodIn_sub (fun _ h => List.mem_cons_of_mem _ (List.mem_append_right _ h)) (by decide +kernel))
set_option maxRecDepth 20000 in
theorem gX7_shape_X4_reduce : GoodIn wsX7_shape (wsV RX7 221 RX4 yX4_reduce wsX4_reduce) := goodIn_app (goodIn_of _ (by decide +kernel)) ggX7_shape_X4_reduce
set_option maxRecDepth 20000 in
theorem ggX7_shape_X2_empty : GoodIn wsX7_shape wsX2_empty := goodIn_r _ [88, 16, 120, 121] (by decide +kernel) (by decide +kernel)
set_option maxRecDepth 20000 in
theorem gX7_shape_X2_empty : GoodIn wsX7_shape (wsV RX7 208 RX2 yX2_empty wsX2_empty) := goodIn_app (goodIn_of _ (by decide +kernel)) ggX7_shape_X2_empty
set_option maxRecDepth 20000 in
theorem ggX7_shape_X4_factor : GoodIn wsX7_shape wsX4_factor := goodIn_r _ [92, 41, 44, 45, 39, 46, 126, 127, 128] (by decide +kernel) (by decide +kernel)
set_option maxRecDepth 20000 in
theorem gX7_shape_X4_factor : GoodIn wsX7_shape (wsV RX7 224 RX4 yX4_factor wsX4_factor) := goodIn_app (goodIn_of _ (by decide +kernel)) ggX7_shape_X4_factor
set_option maxRecDepth 20000 in
theorem ggX7_shape_X2_add : GoodIn wsX7_shape wsX2_add := goodIn_r _ [96, 16, 21, 120, 121] (by decide +kernel) (by decide +kernel)
set_option maxRecDepth 20000 in
theorem gX7_shape_X2_add : GoodIn wsX7_shape (wsV RX7 213 RX2 yX2_add wsX2_add) := goodIn_app (goodIn_of _ (by decide +kernel)) ggX7_shape_X2_add
set_option maxRecDepth 20000 in
theorem ggX7_shape_X4_addend : GoodIn wsX7_shape wsX4_addend := goodIn_r _ [100, 42, 44, 45, 39, 46, 126, 127, 128] (by decide +kernel) (by decide +kernel)
set_option maxRecDepth 20000 in
theorem gX7_shape_X4_addend : GoodIn wsX7_shape (wsV RX7 227 RX4 yX4_addend wsX4_addend) := goodIn_app (goodIn_of _ (by decide +kernel)) ggX7_shape_X4_addend
set_option maxRecDepth 20000 in
theorem ggX7_shape_X4_divisor : GoodIn wsX7_shape wsX4_divisor := goodIn_r _ [104, 43, 44, 45, 39, 46, 126, 127, 128] (by decide +kernel) (by decide +kernel)
set_option maxRecDepth 20000 in
theorem gX7_shape_X4_divisor : GoodIn wsX7_shape (wsV RX7 230 RX4 yX4_divisor wsX4_divisor) := goodIn_app (goodIn_of _ (by decide +kernel)) ggX7_shape_X4_divisor
theorem dX7_shape_0 : decode cX7_shape 0 = .ok (.aload_n 0, 1) := by decide +kernel
theorem dX7_shape_1 : decode cX7_shape 1 = .ok (.invokevirtual 218, 3) := by decide +kernel
theorem dX7_shape_4 : decode cX7_shape 4 = .ok (.istore_n 1, 1) := by decide +kernel
theorem dX7_shape_5 : decode cX7_shape 5 = .ok (.iload_n 1, 1) := by decide +kernel
theorem dX7_shape_6 : decode cX7_shape 6 = .ok (.iconst 1, 1) := by decide +kernel
theorem dX7_shape_7 : decode cX7_shape 7 = .ok (.if_icmp .ne 74, 3) := by decide +kernel
theorem dX7_shape_10 : decode cX7_shape 10 = .ok (.aload_n 0, 1) := by decide +kernel
theorem dX7_shape_11 : decode cX7_shape 11 = .ok (.getfield 55, 3) := by decide +kernel
theorem dX7_shape_14 : decode cX7_shape 14 = .ok (.invokevirtual 149, 3) := by decide +kernel
theorem dX7_shape_17 : decode cX7_shape 17 = .ok (.istore_n 2, 1) := by decide +kernel
theorem dX7_shape_18 : decode cX7_shape 18 = .ok (.aload_n 0, 1) := by decide +kernel
theorem dX7_shape_19 : decode cX7_shape 19 = .ok (.getfield 64, 3) := by decide +kernel
theorem dX7_shape_22 : decode cX7_shape 22 = .ok (.iload_n 2, 1) := by decide +kernel
theorem dX7_shape_23 : decode cX7_shape 23 = .ok (.invokevirtual 221, 3) := by decide +kernel
theorem dX7_shape_26 : decode cX7_shape 26 = .ok (.aload_n 0, 1) := by decide +kernel
theorem dX7_shape_27 : decode cX7_shape 27 = .ok (.getfield 45, 3) := by decide +kernel
theorem dX7_shape_30 : decode cX7_shape 30 = .ok (.invokevirtual 208, 3) := by decide +kernel
theorem dX7_shape_33 : decode cX7_shape 33 = .ok (.aload_n 0, 1) := by decide +kernel
theorem dX7_shape_34 : decode cX7_shape 34 = .ok (.getfield 45, 3) := by decide +kernel
theorem dX7_shape_37 : decode cX7_shape 37 = .ok (.aload_n 0, 1) := by decide +kernel
theorem dX7_shape_38 : decode cX7_shape 38 = .ok (.getfield 64, 3) := by decide +kernel
theorem dX7_shape_41 : decode cX7_shape 41 = .ok (.iload_n 2, 1) := by decide +kernel
theorem dX7_shape_42 : decode cX7_shape 42 = .ok (.invokevirtual 224, 3) := by decide +kernel
theorem dX7_shape_45 : decode cX7_shape 45 = .ok (.invokevirtual 213, 3) := by decide +kernel
theorem dX7_shape_48 : decode cX7_shape 48 = .ok (.pop, 1) := by decide +kernel
theorem dX7_shape_49 : decode cX7_shape 49 = .ok (.aload_n 0, 1) := by decide +kernel
theorem dX7_shape_50 : decode cX7_shape 50 = .ok (.getfield 45, 3) := by decide +kernel
theorem dX7_shape_53 : decode cX7_shape 53 = .ok (.aload_n 0, 1) := by decide +kernel
theorem dX7_shape_54 : decode cX7_shape 54 = .ok (.getfield 64, 3) := by decide +kernel
theorem dX7_shape_57 : decode cX7_shape 57 = .ok (.iload_n 2, 1) := by decide +kernel
theorem dX7_shape_58 : decode cX7_shape 58 = .ok (.invokevirtual 227, 3) := by decide +kernel
theorem dX7_shape_61 : decode cX7_shape 61 = .ok (.invokevirtual 213, 3) := by decide +kernel
theorem dX7_shape_64 : decode cX7_shape 64 = .ok (.pop, 1) := by decide +kernel
theorem dX7_shape_65 : decode cX7_shape 65 = .ok (.aload_n 0, 1) := by decide +kernel
theorem dX7_shape_66 : decode cX7_shape 66 = .ok (.getfield 45, 3) := by decide +kernel
theorem dX7_shape_69 : decode cX7_shape 69 = .ok (.aload_n 0, 1) := by decide +kernel
theorem dX7_shape_70 : decode cX7_shape 70 = .ok (.getfield 64, 3) := by decide +kernel
theorem dX7_shape_73 : decode cX7_shape 73 = .ok (.iload_n 2, 1) := by decide +kernel
theorem dX7_shape_74 : decode cX7_shape 74 = .ok (.invokevirtual 230, 3) := by decide +kernel
theorem dX7_shape_77 : decode cX7_shape 77 = .ok (.invokevirtual 213, 3) := by decide +kernel
theorem dX7_shape_80 : decode cX7_shape 80 = .ok (.pop, 1) := by decide +kernel
theorem dX7_shape_81 : decode cX7_shape 81 = .ok (.iload_n 1, 1) := by decide +kernel
theorem dX7_shape_82 : decode cX7_shape 82 = .ok (.ireturn, 1) := by decide +kernel
set_option maxRecDepth 20000 in
theorem ggX7_ring_X7_shapeTold : GoodIn wsX7_ring wsX7_shapeTold := goodIn_ca (goodIn_r _ [8, 9, 1, 10, 11, 12, 13, 14, 15, 16, 17, 18, 19, 20, 21, 22, 23, 24, 25, 26, 27, 28, 29, 30, 31, 32, 33, 34, 7, 35, 2, 36, 37, 38, 39, 40, 41, 42, 43, 44, 45, 46, 47, 48, 49, 50, 51, 52, 53, 54, 55, 56, 57, 58, 59, 60, 61, 62, 63, 64, 65, 66, 67, 68, 69, 70, 71, 72, 73, 74, 75, 76, 77, 78, 79, 80, 81, 82, 83, 127, 128, 129, 130, 131, 132, 133, 134, 135, 136, 137, 138, 139, 140, 141, 142, 143, 144, 145, 146, 147, 148, 149, 150] (by decide +kernel) (by decide +kernel)) (goodIn_sub (fun _ h => List.mem_cons_of_mem _ (List.mem_append_right _ h)) (by decide +kernel))
set_option maxRecDepth 20000 in
theorem gX7_ring_X7_shapeTold : GoodIn wsX7_ring (wsV RX7 218 RX7 yX7_shapeTold wsX7_shapeTold) := goodIn_app (goodIn_of _ (by decide +kernel)) ggX7_ring_X7_shapeTold
set_option maxRecDepth 20000 in
theorem ggX7_ring_X2_size : GoodIn wsX7_ring wsX2_size := goodIn_r _ [15, 16, 142, 143] (by decide +kernel) (by decide +kernel)
set_option maxRecDepth 20000 in
theorem gX7_ring_X2_size : GoodIn wsX7_ring (wsV RX7 149 RX2 yX2_size wsX2_size) := goodIn_app (goodIn_of _ (by decide +kernel)) ggX7_ring_X2_size
set_option maxRecDepth 20000 in
theorem ggX7_ring_X4_factor : GoodIn wsX7_ring wsX4_factor := goodIn_r _ [87, 41, 44, 45, 39, 46, 148, 149, 150] (by decide +kernel) (by decide +kernel)
set_option maxRecDepth 20000 in
theorem gX7_ring_X4_factor : GoodIn wsX7_ring (wsV RX7 224 RX4 yX4_factor wsX4_factor) := goodIn_app (goodIn_of _ (by decide +kernel)) ggX7_ring_X4_factor
set_option maxRecDepth 20000 in
theorem ggX7_ring_X4_divisor : GoodIn wsX7_ring wsX4_divisor := goodIn_r _ [91, 43, 44, 45, 39, 46, 148, 149, 150] (by decide +kernel) (by decide +kernel)
set_option maxRecDepth 20000 in
theorem gX7_ring_X4_divisor : GoodIn wsX7_ring (wsV RX7 230 RX4 yX4_divisor wsX4_divisor) := goodIn_app (goodIn_of _ (by decide +kernel)) ggX7_ring_X4_divisor
set_option maxRecDepth 20000 in
theorem ggX7_ring_X4_addend : GoodIn wsX7_ring wsX4_addend := goodIn_r _ [95, 42, 44, 45, 39, 46, 148, 149, 150] (by decide +kernel) (by decide +kernel)
set_option maxRecDepth 20000 in
theorem gX7_ring_X4_addend : GoodIn wsX7_ring (wsV RX7 227 RX4 yX4_addend wsX4_addend) := goodIn_app (goodIn_of _ (by decide +kernel)) ggX7_ring_X4_addend
set_option maxRecDepth 20000 in
theorem ggX7_ring_X7_ringNumber : GoodIn wsX7_ring wsX7_ringNumber := goodIn_ca (goodIn_r _ [99, 2, 100, 10, 88, 89, 90, 39, 91, 43, 44, 45, 46, 84, 85, 86, 87, 41, 92, 93, 94, 95, 42, 101, 70, 7, 71, 72, 73, 102, 103, 104, 29, 105, 31, 106, 107, 108, 109, 17, 18, 19, 14, 20, 21, 22, 23, 24, 25, 16, 110, 111, 112, 113, 114, 115, 116, 48, 49, 50, 51, 52, 53, 54, 55, 117, 57, 58, 59, 60, 118, 62, 63, 64, 65, 127, 128, 129, 130, 131, 132, 133, 134, 135, 136, 137, 138, 139, 140, 141, 148, 149, 150, 144, 145, 146, 147, 142, 143] (by decide +kernel) (by decide +kernel)) (goodIn_sub (fun _ h => List.mem_cons_of_mem _ (List.mem_append_right _ h)) (by decide +kernel))
set_option maxRecDepth 20000 in
theorem gX7_ring_X7_ringNumber : GoodIn wsX7_ring (wsV RX7 233 RX7 yX7_ringNumber wsX7_ringNumber) := goodIn_app (goodIn_of _ (by decide +kernel)) ggX7_ring_X7_ringNumber
set_option maxRecDepth 20000 in
theorem ggX7_ring_X7_isNumber : GoodIn wsX7_ring wsX7_isNumber := goodIn_r _ [71, 72, 73] (by decide +kernel) (by decide +kernel)
set_option maxRecDepth 20000 in
theorem gX7_ring_X7_isNumber : GoodIn wsX7_ring (va_wsS RX7 178 yX7_isNumber wsX7_isNumber) := goodIn_app (goodIn_of _ (by decide +kernel)) ggX7_ring_X7_isNumber
set_option maxRecDepth 20000 in
theorem ggX7_ring_X2_empty : GoodIn wsX7_ring wsX2_empty := goodIn_r _ [122, 16, 142, 143] (by decide +kernel) (by decide +kernel)
set_option maxRecDepth 20000 in
theorem gX7_ring_X2_empty : GoodIn wsX7_ring (wsV RX7 208 RX2 yX2_empty wsX2_empty) := goodIn_app (goodIn_of _ (by decide +kernel)) ggX7_ring_X2_empty
set_option maxRecDepth 20000 in
theorem ggX7_ring_X2_add : GoodIn wsX7_ring wsX2_add := goodIn_r _ [126, 16, 21, 142, 143] (by decide +kernel) (by decide +kernel)
set_option maxRecDepth 20000 in
theorem gX7_ring_X2_add : GoodIn wsX7_ring (wsV RX7 213 RX2 yX2_add wsX2_add) := goodIn_app (goodIn_of _ (by decide +kernel)) ggX7_ring_X2_add
theorem dX7_ring_0 : decode cX7_ring 0 = .ok (.aload_n 0, 1) := by decide +kernel
theorem dX7_ring_1 : decode cX7_ring 1 = .ok (.invokevirtual 218, 3) := by decide +kernel
theorem dX7_ring_4 : decode cX7_ring 4 = .ok (.istore_n 1, 1) := by decide +kernel
theorem dX7_ring_5 : decode cX7_ring 5 = .ok (.iload_n 1, 1) := by decide +kernel
theorem dX7_ring_6 : decode cX7_ring 6 = .ok (.iconst 1, 1) := by decide +kernel
theorem dX7_ring_7 : decode cX7_ring 7 = .ok (.if_icmp .eq 5, 3) := by decide +kernel
theorem dX7_ring_10 : decode cX7_ring 10 = .ok (.iload_n 1, 1) := by decide +kernel
theorem dX7_ring_11 : decode cX7_ring 11 = .ok (.ireturn, 1) := by decide +kernel
theorem dX7_ring_12 : decode cX7_ring 12 = .ok (.aload_n 0, 1) := by decide +kernel
theorem dX7_ring_13 : decode cX7_ring 13 = .ok (.getfield 55, 3) := by decide +kernel
theorem dX7_ring_16 : decode cX7_ring 16 = .ok (.invokevirtual 149, 3) := by decide +kernel
theorem dX7_ring_19 : decode cX7_ring 19 = .ok (.istore_n 2, 1) := by decide +kernel
theorem dX7_ring_20 : decode cX7_ring 20 = .ok (.aload_n 0, 1) := by decide +kernel
theorem dX7_ring_21 : decode cX7_ring 21 = .ok (.getfield 64, 3) := by decide +kernel
theorem dX7_ring_24 : decode cX7_ring 24 = .ok (.iload_n 2, 1) := by decide +kernel
theorem dX7_ring_25 : decode cX7_ring 25 = .ok (.invokevirtual 224, 3) := by decide +kernel
theorem dX7_ring_28 : decode cX7_ring 28 = .ok (.aload_n 0, 1) := by decide +kernel
theorem dX7_ring_29 : decode cX7_ring 29 = .ok (.getfield 64, 3) := by decide +kernel
theorem dX7_ring_32 : decode cX7_ring 32 = .ok (.iload_n 2, 1) := by decide +kernel
theorem dX7_ring_33 : decode cX7_ring 33 = .ok (.invokevirtual 230, 3) := by decide +kernel
theorem dX7_ring_36 : decode cX7_ring 36 = .ok (.lcmp, 1) := by decide +kernel
theorem dX7_ring_37 : decode cX7_ring 37 = .ok (.ifCond .ne 22, 3) := by decide +kernel
theorem dX7_ring_40 : decode cX7_ring 40 = .ok (.aload_n 0, 1) := by decide +kernel
theorem dX7_ring_41 : decode cX7_ring 41 = .ok (.getfield 64, 3) := by decide +kernel
theorem dX7_ring_44 : decode cX7_ring 44 = .ok (.iload_n 2, 1) := by decide +kernel
theorem dX7_ring_45 : decode cX7_ring 45 = .ok (.invokevirtual 227, 3) := by decide +kernel
theorem dX7_ring_48 : decode cX7_ring 48 = .ok (.lconst 0, 1) := by decide +kernel
theorem dX7_ring_49 : decode cX7_ring 49 = .ok (.lcmp, 1) := by decide +kernel
theorem dX7_ring_50 : decode cX7_ring 50 = .ok (.ifCond .ne 7, 3) := by decide +kernel
theorem dX7_ring_53 : decode cX7_ring 53 = .ok (.iconst 2, 1) := by decide +kernel
theorem dX7_ring_54 : decode cX7_ring 54 = .ok (.goto 4, 3) := by decide +kernel
theorem dX7_ring_57 : decode cX7_ring 57 = .ok (.iconst 0, 1) := by decide +kernel
theorem dX7_ring_58 : decode cX7_ring 58 = .ok (.ireturn, 1) := by decide +kernel
theorem dX7_ring_59 : decode cX7_ring 59 = .ok (.aload_n 0, 1) := by decide +kernel
theorem dX7_ring_60 : decode cX7_ring 60 = .ok (.aload_n 0, 1) := by decide +kernel
theorem dX7_ring_61 : decode cX7_ring 61 = .ok (.getfield 55, 3) := by decide +kernel
theorem dX7_ring_64 : decode cX7_ring 64 = .ok (.iload_n 2, 1) := by decide +kernel
theorem dX7_ring_65 : decode cX7_ring 65 = .ok (.invokevirtual 233, 3) := by decide +kernel
theorem dX7_ring_68 : decode cX7_ring 68 = .ok (.lstore_n 3, 1) := by decide +kernel
theorem dX7_ring_69 : decode cX7_ring 69 = .ok (.lload_n 3, 1) := by decide +kernel
theorem dX7_ring_70 : decode cX7_ring 70 = .ok (.invokestatic 178, 3) := by decide +kernel
theorem dX7_ring_73 : decode cX7_ring 73 = .ok (.ifCond .ne 5, 3) := by decide +kernel
theorem dX7_ring_76 : decode cX7_ring 76 = .ok (.iconst 0, 1) := by decide +kernel
theorem dX7_ring_77 : decode cX7_ring 77 = .ok (.ireturn, 1) := by decide +kernel
theorem dX7_ring_78 : decode cX7_ring 78 = .ok (.aload_n 0, 1) := by decide +kernel
theorem dX7_ring_79 : decode cX7_ring 79 = .ok (.getfield 45, 3) := by decide +kernel
theorem dX7_ring_82 : decode cX7_ring 82 = .ok (.invokevirtual 208, 3) := by decide +kernel
theorem dX7_ring_85 : decode cX7_ring 85 = .ok (.aload_n 0, 1) := by decide +kernel
theorem dX7_ring_86 : decode cX7_ring 86 = .ok (.getfield 45, 3) := by decide +kernel
theorem dX7_ring_89 : decode cX7_ring 89 = .ok (.lload_n 3, 1) := by decide +kernel
theorem dX7_ring_90 : decode cX7_ring 90 = .ok (.invokevirtual 213, 3) := by decide +kernel
theorem dX7_ring_93 : decode cX7_ring 93 = .ok (.pop, 1) := by decide +kernel
theorem dX7_ring_94 : decode cX7_ring 94 = .ok (.iconst 1, 1) := by decide +kernel
theorem dX7_ring_95 : decode cX7_ring 95 = .ok (.ireturn, 1) := by decide +kernel
set_option maxRecDepth 20000 in
theorem ggX7_rings_X5_measure : GoodIn wsX7_rings wsX5_measure := goodIn_r _ [10, 11, 172, 173, 174, 175] (by decide +kernel) (by decide +kernel)
set_option maxRecDepth 20000 in
theorem gX7_rings_X5_measure : GoodIn wsX7_rings (wsV RX7 99 RX5 yX5_measure wsX5_measure) := goodIn_app (goodIn_of _ (by decide +kernel)) ggX7_rings_X5_measure
set_option maxRecDepth 20000 in
theorem ggX7_rings_X7_power : GoodIn wsX7_rings wsX7_power := goodIn_r _ [15] (by decide +kernel) (by decide +kernel)
set_option maxRecDepth 20000 in
theorem gX7_rings_X7_power : GoodIn wsX7_rings (va_wsS RX7 237 yX7_power wsX7_power) := goodIn_app (goodIn_of _ (by decide +kernel)) ggX7_rings_X7_power
set_option maxRecDepth 20000 in
theorem ggX7_rings_X2_empty : GoodIn wsX7_rings wsX2_empty := goodIn_r _ [20, 21, 176, 177] (by decide +kernel) (by decide +kernel)
set_option maxRecDepth 20000 in
theorem gX7_rings_X2_empty : GoodIn wsX7_rings (wsV RX7 208 RX2 yX2_empty wsX2_empty) := goodIn_app (goodIn_of _ (by decide +kernel)) ggX7_rings_X2_empty
set_option maxRecDepth 20000 in
theorem ggX7_rings_X7_firstWord : GoodIn wsX7_rings wsX7_firstWord := goodIn_r _ [25, 4, 26, 27, 28, 19, 29, 21, 30, 31, 32, 33, 34, 157, 158, 159, 160, 161, 162, 163, 164, 165, 166, 167, 168, 169, 170, 171, 176, 177] (by decide +kernel) (by decide +kernel)
set_option maxRecDepth 20000 in
theorem gX7_rings_X7_firstWord : GoodIn wsX7_rings (wsV RX7 240 RX7 yX7_firstWord wsX7_firstWord) := goodIn_app (goodIn_of _ (by decide +kernel)) ggX7_rings_X7_firstWord
set_option maxRecDepth 20000 in
theorem ggX7_rings_X7_nextWord : GoodIn wsX7_rings wsX7_nextWord := goodIn_r _ [38, 4, 2, 39, 40, 41, 19, 42, 34, 43, 44, 45, 46, 21, 6, 7, 8, 9, 10, 11, 47, 48, 49, 50, 157, 158, 159, 160, 161, 162, 163, 164, 165, 166, 167, 168, 169, 170, 171, 176, 177, 172, 173, 174, 175] (by decide +kernel) (by decide +kernel)
set_option maxRecDepth 20000 in
theorem gX7_rings_X7_nextWord : GoodIn wsX7_rings (wsV RX7 244 RX7 yX7_nextWord wsX7_nextWord) := goodIn_app (goodIn_of _ (by decide +kernel)) ggX7_rings_X7_nextWord
set_option maxRecDepth 20000 in
theorem ggX7_rings_X7_shapeWord : GoodIn wsX7_rings wsX7_shapeWord := goodIn_ca (goodIn_r _ [54, 55, 2, 56, 57, 58, 19, 59, 21, 39, 40, 41, 42, 34, 43, 44, 45, 46, 60, 61, 62, 63, 64, 65, 66, 67, 68, 69, 70, 71, 72, 73, 9, 74, 75, 76, 77, 78, 79, 11, 80, 81, 82, 83, 84, 85, 86, 87, 88, 89, 90, 91, 92, 93, 94, 14, 95, 96, 97, 98, 99, 100, 101, 102, 103, 104, 105, 106, 107, 157, 158, 159, 160, 161, 162, 163, 164, 165, 166, 167, 168, 169, 170, 171, 176, 177, 178, 179, 180, 172, 173, 174, 175] (by decide +kernel) (by decide +kernel)) (goodIn_sub (fun _ h => List.mem_cons_of_mem _ (List.mem_append_right _ h)) (by decide +kernel))
set_option maxRecDepth 20000 in
theorem gX7_rings_X7_shapeWord : GoodIn wsX7_rings (wsV RX7 247 RX7 yX7_shapeWord wsX7_shapeWord) := goodIn_app (goodIn_of _ (by decide +kernel)) ggX7_rings_X7_shapeWord
set_option maxRecDepth 20000 in
theorem ggX7_rings_X7_ringNumber : GoodIn wsX7_rings wsX7_ringNumber := goodIn_ca (goodIn_r _ [111, 55, 112, 2, 113, 114, 115, 63, 116, 67, 68, 69, 70, 117, 118, 119, 120, 65, 121, 122, 123, 124, 66, 125, 94, 14, 95, 96, 97, 126, 127, 128, 9, 129, 11, 130, 131, 132, 133, 39, 40, 41, 19, 42, 34, 43, 44, 45, 46, 21, 134, 135, 136, 137, 138, 139, 140, 72, 73, 74, 75, 76, 77, 78, 79, 141, 81, 82, 83, 84, 142, 86, 87, 88, 89, 157, 158, 159, 160, 161, 162, 163, 164, 165, 166, 167, 168, 169, 170, 171, 178, 179, 180, 172, 173, 174, 175, 176, 177] (by decide +kernel) (by decide +kernel)) (goodIn_sub (fun _ h => List.mem_cons_of_mem _ (List.mem_append_right _ h)) (by decide +kernel))
set_option maxRecDepth 20000 in
theorem gX7_rings_X7_ringNumber : GoodIn wsX7_rings (wsV RX7 233 RX7 yX7_ringNumber wsX7_ringNumber) := goodIn_app (goodIn_of _ (by decide +kernel)) ggX7_rings_X7_ringNumber
set_option maxRecDepth 20000 in
theorem ggX7_rings_X7_isNumber : GoodIn wsX7_rings wsX7_isNumber := goodIn_r _ [95, 96, 97] (by decide +kernel) (by decide +kernel)
set_option maxRecDepth 20000 in
theorem gX7_rings_X7_isNumber : GoodIn wsX7_rings (va_wsS RX7 178 yX7_isNumber wsX7_isNumber) := goodIn_app (goodIn_of _ (by decide +kernel)) ggX7_rings_X7_isNumber
set_option maxRecDepth 20000 in
theorem ggX7_rings_X7_isLeastOfRing : GoodIn wsX7_rings wsX7_isLeastOfRing := goodIn_ca (goodIn_r _ [146, 2, 134, 135, 136, 9, 137, 138, 139, 127, 128, 129, 11, 130, 131, 132, 133, 140, 72, 73, 74, 75, 76, 77, 78, 79, 141, 81, 82, 83, 84, 142, 86, 87, 88, 89, 94, 14, 95, 96, 97, 157, 158, 159, 160, 161, 162, 163, 164, 165, 166, 167, 168, 169, 170, 171, 172, 173, 174, 175] (by decide +kernel) (by decide +kernel)) (goodIn_sub (fun _ h => List.mem_cons_of_mem _ (List.mem_append_right _ h)) (by decide +kernel))
set_option maxRecDepth 20000 in
theorem gX7_rings_X7_isLeastOfRing : GoodIn wsX7_rings (wsV RX7 251 RX7 yX7_isLeastOfRing wsX7_isLeastOfRing) := goodIn_app (goodIn_of _ (by decide +kernel)) ggX7_rings_X7_isLeastOfRing
set_option maxRecDepth 20000 in
theorem ggX7_rings_X2_sortIn : GoodIn wsX7_rings wsX2_sortIn := goodIn_r _ [150, 21, 30, 31, 32, 19, 33, 34, 151, 40, 41, 42, 43, 44, 45, 46, 152, 48, 49, 50, 176, 177] (by decide +kernel) (by decide +kernel)
set_option maxRecDepth 20000 in
theorem gX7_rings_X2_sortIn : GoodIn wsX7_rings (wsV RX7 255 RX2 yX2_sortIn wsX2_sortIn) := goodIn_app (goodIn_of _ (by decide +kernel)) ggX7_rings_X2_sortIn
set_option maxRecDepth 20000 in
theorem ggX7_rings_X2_become : GoodIn wsX7_rings wsX2_become := goodIn_r _ [156, 21, 151, 40, 41, 19, 42, 34, 43, 44, 45, 46, 30, 31, 32, 33, 176, 177] (by decide +kernel) (by decide +kernel)
set_option maxRecDepth 20000 in
theorem gX7_rings_X2_become : GoodIn wsX7_rings (wsV RX7 215 RX2 yX2_become wsX2_become) := goodIn_app (goodIn_of _ (by decide +kernel)) ggX7_rings_X2_become
theorem dX7_rings_0 : decode cX7_rings 0 = .ok (.aload_n 0, 1) := by decide +kernel
theorem dX7_rings_1 : decode cX7_rings 1 = .ok (.getfield 9, 3) := by decide +kernel
theorem dX7_rings_4 : decode cX7_rings 4 = .ok (.iconst 1, 1) := by decide +kernel
theorem dX7_rings_5 : decode cX7_rings 5 = .ok (.if_icmp .ne 14, 3) := by decide +kernel
theorem dX7_rings_8 : decode cX7_rings 8 = .ok (.iload_n 1, 1) := by decide +kernel
theorem dX7_rings_9 : decode cX7_rings 9 = .ok (.iconst 1, 1) := by decide +kernel
theorem dX7_rings_10 : decode cX7_rings 10 = .ok (.if_icmp .lt 9, 3) := by decide +kernel
theorem dX7_rings_13 : decode cX7_rings 13 = .ok (.iload_n 1, 1) := by decide +kernel
theorem dX7_rings_14 : decode cX7_rings 14 = .ok (.bipush 12, 2) := by decide +kernel
theorem dX7_rings_16 : decode cX7_rings 16 = .ok (.if_icmp .le 5, 3) := by decide +kernel
theorem dX7_rings_19 : decode cX7_rings 19 = .ok (.iconst (-1), 1) := by decide +kernel
theorem dX7_rings_20 : decode cX7_rings 20 = .ok (.ireturn, 1) := by decide +kernel
theorem dX7_rings_21 : decode cX7_rings 21 = .ok (.aload_n 0, 1) := by decide +kernel
theorem dX7_rings_22 : decode cX7_rings 22 = .ok (.getfield 16, 3) := by decide +kernel
theorem dX7_rings_25 : decode cX7_rings 25 = .ok (.invokevirtual 99, 3) := by decide +kernel
theorem dX7_rings_28 : decode cX7_rings 28 = .ok (.iload_n 1, 1) := by decide +kernel
theorem dX7_rings_29 : decode cX7_rings 29 = .ok (.invokestatic 237, 3) := by decide +kernel
theorem dX7_rings_32 : decode cX7_rings 32 = .ok (.istore_n 2, 1) := by decide +kernel
theorem dX7_rings_33 : decode cX7_rings 33 = .ok (.iload_n 2, 1) := by decide +kernel
theorem dX7_rings_34 : decode cX7_rings 34 = .ok (.sipush 20000, 3) := by decide +kernel
theorem dX7_rings_37 : decode cX7_rings 37 = .ok (.if_icmp .le 6, 3) := by decide +kernel
theorem dX7_rings_40 : decode cX7_rings 40 = .ok (.bipush (-2), 2) := by decide +kernel
theorem dX7_rings_42 : decode cX7_rings 42 = .ok (.ireturn, 1) := by decide +kernel
theorem dX7_rings_43 : decode cX7_rings 43 = .ok (.aload_n 0, 1) := by decide +kernel
theorem dX7_rings_44 : decode cX7_rings 44 = .ok (.getfield 49, 3) := by decide +kernel
theorem dX7_rings_47 : decode cX7_rings 47 = .ok (.invokevirtual 208, 3) := by decide +kernel
theorem dX7_rings_50 : decode cX7_rings 50 = .ok (.iconst 0, 1) := by decide +kernel
theorem dX7_rings_51 : decode cX7_rings 51 = .ok (.istore_n 3, 1) := by decide +kernel
theorem dX7_rings_52 : decode cX7_rings 52 = .ok (.iconst 0, 1) := by decide +kernel
theorem dX7_rings_53 : decode cX7_rings 53 = .ok (.istore 4, 2) := by decide +kernel
theorem dX7_rings_55 : decode cX7_rings 55 = .ok (.iload 4, 2) := by decide +kernel
theorem dX7_rings_57 : decode cX7_rings 57 = .ok (.iload_n 2, 1) := by decide +kernel
theorem dX7_rings_58 : decode cX7_rings 58 = .ok (.if_icmp .ge 86, 3) := by decide +kernel
theorem dX7_rings_61 : decode cX7_rings 61 = .ok (.iload 4, 2) := by decide +kernel
theorem dX7_rings_63 : decode cX7_rings 63 = .ok (.ifCond .ne 11, 3) := by decide +kernel
theorem dX7_rings_66 : decode cX7_rings 66 = .ok (.aload_n 0, 1) := by decide +kernel
theorem dX7_rings_67 : decode cX7_rings 67 = .ok (.iload_n 1, 1) := by decide +kernel
theorem dX7_rings_68 : decode cX7_rings 68 = .ok (.invokevirtual 240, 3) := by decide +kernel
theorem dX7_rings_71 : decode cX7_rings 71 = .ok (.goto 8, 3) := by decide +kernel
theorem dX7_rings_74 : decode cX7_rings 74 = .ok (.aload_n 0, 1) := by decide +kernel
theorem dX7_rings_75 : decode cX7_rings 75 = .ok (.iload_n 1, 1) := by decide +kernel
theorem dX7_rings_76 : decode cX7_rings 76 = .ok (.invokevirtual 244, 3) := by decide +kernel
theorem dX7_rings_79 : decode cX7_rings 79 = .ok (.istore 5, 2) := by decide +kernel
theorem dX7_rings_81 : decode cX7_rings 81 = .ok (.aload_n 0, 1) := by decide +kernel
theorem dX7_rings_82 : decode cX7_rings 82 = .ok (.aload_n 0, 1) := by decide +kernel
theorem dX7_rings_83 : decode cX7_rings 83 = .ok (.getfield 58, 3) := by decide +kernel
theorem dX7_rings_86 : decode cX7_rings 86 = .ok (.iload 5, 2) := by decide +kernel
theorem dX7_rings_88 : decode cX7_rings 88 = .ok (.invokevirtual 247, 3) := by decide +kernel
theorem dX7_rings_91 : decode cX7_rings 91 = .ok (.ifCond .ne 6, 3) := by decide +kernel
theorem dX7_rings_94 : decode cX7_rings 94 = .ok (.bipush (-2), 2) := by decide +kernel
theorem dX7_rings_96 : decode cX7_rings 96 = .ok (.ireturn, 1) := by decide +kernel
theorem dX7_rings_97 : decode cX7_rings 97 = .ok (.aload_n 0, 1) := by decide +kernel
theorem dX7_rings_98 : decode cX7_rings 98 = .ok (.aload_n 0, 1) := by decide +kernel
theorem dX7_rings_99 : decode cX7_rings 99 = .ok (.getfield 58, 3) := by decide +kernel
theorem dX7_rings_102 : decode cX7_rings 102 = .ok (.iload_n 1, 1) := by decide +kernel
theorem dX7_rings_103 : decode cX7_rings 103 = .ok (.invokevirtual 233, 3) := by decide +kernel
theorem dX7_rings_106 : decode cX7_rings 106 = .ok (.lstore 6, 2) := by decide +kernel
theorem dX7_rings_108 : decode cX7_rings 108 = .ok (.lload 6, 2) := by decide +kernel
theorem dX7_rings_110 : decode cX7_rings 110 = .ok (.invokestatic 178, 3) := by decide +kernel
theorem dX7_rings_113 : decode cX7_rings 113 = .ok (.ifCond .eq 25, 3) := by decide +kernel
theorem dX7_rings_116 : decode cX7_rings 116 = .ok (.aload_n 0, 1) := by decide +kernel
theorem dX7_rings_117 : decode cX7_rings 117 = .ok (.lload 6, 2) := by decide +kernel
theorem dX7_rings_119 : decode cX7_rings 119 = .ok (.iload_n 1, 1) := by decide +kernel
theorem dX7_rings_120 : decode cX7_rings 120 = .ok (.invokevirtual 251, 3) := by decide +kernel
theorem dX7_rings_123 : decode cX7_rings 123 = .ok (.ifCond .eq 15, 3) := by decide +kernel
theorem dX7_rings_126 : decode cX7_rings 126 = .ok (.iinc 3 1, 3) := by decide +kernel
theorem dX7_rings_129 : decode cX7_rings 129 = .ok (.aload_n 0, 1) := by decide +kernel
theorem dX7_rings_130 : decode cX7_rings 130 = .ok (.getfield 49, 3) := by decide +kernel
theorem dX7_rings_133 : decode cX7_rings 133 = .ok (.lload 6, 2) := by decide +kernel
theorem dX7_rings_135 : decode cX7_rings 135 = .ok (.invokevirtual 255, 3) := by decide +kernel
theorem dX7_rings_138 : decode cX7_rings 138 = .ok (.iinc 4 1, 3) := by decide +kernel
theorem dX7_rings_141 : decode cX7_rings 141 = .ok (.goto (-86), 3) := by decide +kernel
theorem dX7_rings_144 : decode cX7_rings 144 = .ok (.aload_n 0, 1) := by decide +kernel
theorem dX7_rings_145 : decode cX7_rings 145 = .ok (.getfield 45, 3) := by decide +kernel
theorem dX7_rings_148 : decode cX7_rings 148 = .ok (.aload_n 0, 1) := by decide +kernel
theorem dX7_rings_149 : decode cX7_rings 149 = .ok (.getfield 49, 3) := by decide +kernel
theorem dX7_rings_152 : decode cX7_rings 152 = .ok (.invokevirtual 215, 3) := by decide +kernel
theorem dX7_rings_155 : decode cX7_rings 155 = .ok (.iload_n 3, 1) := by decide +kernel
theorem dX7_rings_156 : decode cX7_rings 156 = .ok (.ireturn, 1) := by decide +kernel
set_option maxRecDepth 20000 in
theorem ggX7_falls_X5_measure : GoodIn wsX7_falls wsX5_measure := goodIn_r _ [7, 8, 109, 110, 111, 112] (by decide +kernel) (by decide +kernel)
set_option maxRecDepth 20000 in
theorem gX7_falls_X5_measure : GoodIn wsX7_falls (wsV RX7 99 RX5 yX5_measure wsX5_measure) := goodIn_app (goodIn_of _ (by decide +kernel)) ggX7_falls_X5_measure
set_option maxRecDepth 20000 in
theorem ggX7_falls_X7_power : GoodIn wsX7_falls wsX7_power := goodIn_r _ [12] (by decide +kernel) (by decide +kernel)
set_option maxRecDepth 20000 in
theorem gX7_falls_X7_power : GoodIn wsX7_falls (va_wsS RX7 237 yX7_power wsX7_power) := goodIn_app (goodIn_of _ (by decide +kernel)) ggX7_falls_X7_power
set_option maxRecDepth 20000 in
theorem ggX7_falls_X7_fallOfClass : GoodIn wsX7_falls wsX7_fallOfClass := goodIn_ca (goodIn_r _ [16, 2, 17, 18, 19, 20, 6, 21, 8, 22, 23, 24, 25, 26, 27, 28, 29, 30, 31, 32, 33, 34, 35, 36, 37, 38, 39, 40, 41, 42, 43, 44, 45, 46, 47, 48, 49, 50, 51, 52, 53, 54, 55, 56, 57, 58, 59, 60, 11, 61, 62, 63, 64, 65, 66, 67, 68, 69, 70, 71, 72, 73, 74, 75, 76, 77, 78, 79, 80, 81, 82, 83, 84, 85, 86, 87, 88, 89, 90, 91, 92, 93, 94, 95, 96, 97, 98, 99, 100, 101, 102, 103, 104, 105, 106, 107, 108, 109, 110, 111, 112, 113, 114, 115] (by decide +kernel) (by decide +kernel)) (goodIn_sub (fun _ h => List.mem_cons_of_mem _ (List.mem_append_right _ h)) (by decide +kernel))
set_option maxRecDepth 20000 in
theorem gX7_falls_X7_fallOfClass : GoodIn wsX7_falls (wsV RX7 259 RX7 yX7_fallOfClass wsX7_fallOfClass) := goodIn_app (goodIn_of _ (by decide +kernel)) ggX7_falls_X7_fallOfClass
theorem dX7_falls_0 : decode cX7_falls 0 = .ok (.aload_n 0, 1) := by decide +kernel
theorem dX7_falls_1 : decode cX7_falls 1 = .ok (.getfield 9, 3) := by decide +kernel
theorem dX7_falls_4 : decode cX7_falls 4 = .ok (.iconst 1, 1) := by decide +kernel
theorem dX7_falls_5 : decode cX7_falls 5 = .ok (.if_icmp .ne 14, 3) := by decide +kernel
theorem dX7_falls_8 : decode cX7_falls 8 = .ok (.iload_n 1, 1) := by decide +kernel
theorem dX7_falls_9 : decode cX7_falls 9 = .ok (.iconst 1, 1) := by decide +kernel
theorem dX7_falls_10 : decode cX7_falls 10 = .ok (.if_icmp .lt 9, 3) := by decide +kernel
theorem dX7_falls_13 : decode cX7_falls 13 = .ok (.iload_n 1, 1) := by decide +kernel
theorem dX7_falls_14 : decode cX7_falls 14 = .ok (.bipush 12, 2) := by decide +kernel
theorem dX7_falls_16 : decode cX7_falls 16 = .ok (.if_icmp .le 5, 3) := by decide +kernel
theorem dX7_falls_19 : decode cX7_falls 19 = .ok (.iconst (-1), 1) := by decide +kernel
theorem dX7_falls_20 : decode cX7_falls 20 = .ok (.ireturn, 1) := by decide +kernel
theorem dX7_falls_21 : decode cX7_falls 21 = .ok (.aload_n 0, 1) := by decide +kernel
theorem dX7_falls_22 : decode cX7_falls 22 = .ok (.getfield 16, 3) := by decide +kernel
theorem dX7_falls_25 : decode cX7_falls 25 = .ok (.invokevirtual 99, 3) := by decide +kernel
theorem dX7_falls_28 : decode cX7_falls 28 = .ok (.iload_n 1, 1) := by decide +kernel
theorem dX7_falls_29 : decode cX7_falls 29 = .ok (.invokestatic 237, 3) := by decide +kernel
theorem dX7_falls_32 : decode cX7_falls 32 = .ok (.istore_n 2, 1) := by decide +kernel
theorem dX7_falls_33 : decode cX7_falls 33 = .ok (.iload_n 2, 1) := by decide +kernel
theorem dX7_falls_34 : decode cX7_falls 34 = .ok (.sipush 20000, 3) := by decide +kernel
theorem dX7_falls_37 : decode cX7_falls 37 = .ok (.if_icmp .le 6, 3) := by decide +kernel
theorem dX7_falls_40 : decode cX7_falls 40 = .ok (.bipush (-2), 2) := by decide +kernel
theorem dX7_falls_42 : decode cX7_falls 42 = .ok (.ireturn, 1) := by decide +kernel
theorem dX7_falls_43 : decode cX7_falls 43 = .ok (.iconst 0, 1) := by decide +kernel
theorem dX7_falls_44 : decode cX7_falls 44 = .ok (.istore_n 3, 1) := by decide +kernel
theorem dX7_falls_45 : decode cX7_falls 45 = .ok (.iconst 0, 1) := by decide +kernel
theorem dX7_falls_46 : decode cX7_falls 46 = .ok (.istore 4, 2) := by decide +kernel
theorem dX7_falls_48 : decode cX7_falls 48 = .ok (.iload 4, 2) := by decide +kernel
theorem dX7_falls_50 : decode cX7_falls 50 = .ok (.iload_n 2, 1) := by decide +kernel
theorem dX7_falls_51 : decode cX7_falls 51 = .ok (.if_icmp .ge 32, 3) := by decide +kernel
theorem dX7_falls_54 : decode cX7_falls 54 = .ok (.aload_n 0, 1) := by decide +kernel
theorem dX7_falls_55 : decode cX7_falls 55 = .ok (.iload 4, 2) := by decide +kernel
theorem dX7_falls_57 : decode cX7_falls 57 = .ok (.iload_n 2, 1) := by decide +kernel
theorem dX7_falls_58 : decode cX7_falls 58 = .ok (.iload_n 1, 1) := by decide +kernel
theorem dX7_falls_59 : decode cX7_falls 59 = .ok (.invokevirtual 259, 3) := by decide +kernel
theorem dX7_falls_62 : decode cX7_falls 62 = .ok (.istore 5, 2) := by decide +kernel
theorem dX7_falls_64 : decode cX7_falls 64 = .ok (.iload 5, 2) := by decide +kernel
theorem dX7_falls_66 : decode cX7_falls 66 = .ok (.ifCond .ge 6, 3) := by decide +kernel
theorem dX7_falls_69 : decode cX7_falls 69 = .ok (.iload 5, 2) := by decide +kernel
theorem dX7_falls_71 : decode cX7_falls 71 = .ok (.ireturn, 1) := by decide +kernel
theorem dX7_falls_72 : decode cX7_falls 72 = .ok (.iload_n 3, 1) := by decide +kernel
theorem dX7_falls_73 : decode cX7_falls 73 = .ok (.iload 5, 2) := by decide +kernel
theorem dX7_falls_75 : decode cX7_falls 75 = .ok (.iadd, 1) := by decide +kernel
theorem dX7_falls_76 : decode cX7_falls 76 = .ok (.istore_n 3, 1) := by decide +kernel
theorem dX7_falls_77 : decode cX7_falls 77 = .ok (.iinc 4 1, 3) := by decide +kernel
theorem dX7_falls_80 : decode cX7_falls 80 = .ok (.goto (-32), 3) := by decide +kernel
theorem dX7_falls_83 : decode cX7_falls 83 = .ok (.iload_n 3, 1) := by decide +kernel
theorem dX7_falls_84 : decode cX7_falls 84 = .ok (.ireturn, 1) := by decide +kernel
set_option maxRecDepth 20000 in
theorem ggX7_least_X7_stepsTillBelow : GoodIn wsX7_least wsX7_stepsTillBelow := goodIn_ca (goodIn_r _ [6, 7, 8, 9, 5, 10, 1, 11, 12, 13, 14, 15, 16, 17, 18, 19, 20, 21, 22, 23, 24, 25, 26, 27, 28, 29, 30, 31, 32, 33, 34, 35, 36, 37, 38, 39, 40, 41, 42, 43, 44, 45, 46, 47, 48, 49, 50, 51, 52, 53, 54, 55, 56, 57, 58, 59, 60, 61, 62, 63, 64, 65, 66, 67, 68, 69, 70, 71, 72, 73, 74, 75, 76, 77, 78, 79, 80, 81, 82, 83, 84, 85, 86, 87, 88, 89, 90, 91, 92, 93, 94, 95, 96, 97, 98, 99, 100] (by decide +kernel) (by decide +kernel)) (goodIn_sub (fun _ h => List.mem_cons_of_mem _ (List.mem_append_right _ h)) (by decide +kernel))
set_option maxRecDepth 20000 in
theorem gX7_least_X7_stepsTillBelow : GoodIn wsX7_least (wsV RX7 200 RX7 yX7_stepsTillBelow wsX7_stepsTillBelow) := goodIn_app (goodIn_of _ (by decide +kernel)) ggX7_least_X7_stepsTillBelow
theorem dX7_least_0 : decode cX7_least 0 = .ok (.aload_n 0, 1) := by decide +kernel
theorem dX7_least_1 : decode cX7_least 1 = .ok (.getfield 9, 3) := by decide +kernel
theorem dX7_least_4 : decode cX7_least 4 = .ok (.ifCond .eq 26, 3) := by decide +kernel
theorem dX7_least_7 : decode cX7_least 7 = .ok (.iload_n 1, 1) := by decide +kernel
theorem dX7_least_8 : decode cX7_least 8 = .ok (.iconst 1, 1) := by decide +kernel
theorem dX7_least_9 : decode cX7_least 9 = .ok (.if_icmp .lt 21, 3) := by decide +kernel
theorem dX7_least_12 : decode cX7_least 12 = .ok (.iload_n 1, 1) := by decide +kernel
theorem dX7_least_13 : decode cX7_least 13 = .ok (.sipush 20000, 3) := by decide +kernel
theorem dX7_least_16 : decode cX7_least 16 = .ok (.if_icmp .gt 14, 3) := by decide +kernel
theorem dX7_least_19 : decode cX7_least 19 = .ok (.iload_n 2, 1) := by decide +kernel
theorem dX7_least_20 : decode cX7_least 20 = .ok (.ifCond .lt 10, 3) := by decide +kernel
theorem dX7_least_23 : decode cX7_least 23 = .ok (.iload_n 2, 1) := by decide +kernel
theorem dX7_least_24 : decode cX7_least 24 = .ok (.sipush 2000, 3) := by decide +kernel
theorem dX7_least_27 : decode cX7_least 27 = .ok (.if_icmp .le 5, 3) := by decide +kernel
theorem dX7_least_30 : decode cX7_least 30 = .ok (.iconst (-1), 1) := by decide +kernel
theorem dX7_least_31 : decode cX7_least 31 = .ok (.ireturn, 1) := by decide +kernel
theorem dX7_least_32 : decode cX7_least 32 = .ok (.iconst 2, 1) := by decide +kernel
theorem dX7_least_33 : decode cX7_least 33 = .ok (.istore_n 3, 1) := by decide +kernel
theorem dX7_least_34 : decode cX7_least 34 = .ok (.iload_n 3, 1) := by decide +kernel
theorem dX7_least_35 : decode cX7_least 35 = .ok (.iload_n 1, 1) := by decide +kernel
theorem dX7_least_36 : decode cX7_least 36 = .ok (.if_icmp .gt 21, 3) := by decide +kernel
theorem dX7_least_39 : decode cX7_least 39 = .ok (.aload_n 0, 1) := by decide +kernel
theorem dX7_least_40 : decode cX7_least 40 = .ok (.iload_n 3, 1) := by decide +kernel
theorem dX7_least_41 : decode cX7_least 41 = .ok (.i2l, 1) := by decide +kernel
theorem dX7_least_42 : decode cX7_least 42 = .ok (.iload_n 2, 1) := by decide +kernel
theorem dX7_least_43 : decode cX7_least 43 = .ok (.invokevirtual 200, 3) := by decide +kernel
theorem dX7_least_46 : decode cX7_least 46 = .ok (.ifCond .ge 5, 3) := by decide +kernel
theorem dX7_least_49 : decode cX7_least 49 = .ok (.iload_n 3, 1) := by decide +kernel
theorem dX7_least_50 : decode cX7_least 50 = .ok (.ireturn, 1) := by decide +kernel
theorem dX7_least_51 : decode cX7_least 51 = .ok (.iinc 3 1, 3) := by decide +kernel
theorem dX7_least_54 : decode cX7_least 54 = .ok (.goto (-20), 3) := by decide +kernel
theorem dX7_least_57 : decode cX7_least 57 = .ok (.iconst 0, 1) := by decide +kernel
theorem dX7_least_58 : decode cX7_least 58 = .ok (.ireturn, 1) := by decide +kernel
set_option maxRecDepth 20000 in
theorem ggX7_back_X7_isNumber : GoodIn wsX7_back wsX7_isNumber := goodIn_r _ [7, 8, 9] (by decide +kernel) (by decide +kernel)
set_option maxRecDepth 20000 in
theorem gX7_back_X7_isNumber : GoodIn wsX7_back (va_wsS RX7 178 yX7_isNumber wsX7_isNumber) := goodIn_app (goodIn_of _ (by decide +kernel)) ggX7_back_X7_isNumber
set_option maxRecDepth 20000 in
theorem ggX7_back_X2_empty : GoodIn wsX7_back wsX2_empty := goodIn_r _ [14, 15, 94, 95] (by decide +kernel) (by decide +kernel)
set_option maxRecDepth 20000 in
theorem gX7_back_X2_empty : GoodIn wsX7_back (wsV RX7 208 RX2 yX2_empty wsX2_empty) := goodIn_app (goodIn_of _ (by decide +kernel)) ggX7_back_X2_empty
set_option maxRecDepth 20000 in
theorem ggX7_back_X5_measure : GoodIn wsX7_back wsX5_measure := goodIn_r _ [20, 21, 96, 97, 98, 99] (by decide +kernel) (by decide +kernel)
set_option maxRecDepth 20000 in
theorem gX7_back_X5_measure : GoodIn wsX7_back (wsV RX7 99 RX5 yX5_measure wsX5_measure) := goodIn_app (goodIn_of _ (by decide +kernel)) ggX7_back_X5_measure
set_option maxRecDepth 20000 in
theorem ggX7_back_X5_before : GoodIn wsX7_back wsX5_before := goodIn_ca (goodIn_r _ [25, 26, 27, 28, 29, 19, 30, 31, 32, 33, 34, 35, 21, 36, 37, 38, 39, 40, 41, 42, 43, 44, 45, 5, 6, 7, 8, 9, 46, 47, 48, 49, 50, 51, 52, 53, 96, 97, 98, 99] (by decide +kernel) (by decide +kernel)) (goodIn_sub (fun _ h => List.mem_cons_of_mem _ (List.mem_append_right _ h)) (by decide +kernel))
set_option maxRecDepth 20000 in
theorem gX7_back_X5_before : GoodIn wsX7_back (wsV RX7 263 RX5 yX5_before wsX5_before) := goodIn_app (goodIn_of _ (by decide +kernel)) ggX7_back_X5_before
set_option maxRecDepth 20000 in
theorem ggX7_back_X2_sortIn : GoodIn wsX7_back wsX2_sortIn := goodIn_r _ [57, 15, 58, 59, 60, 13, 61, 62, 63, 64, 65, 66, 67, 68, 69, 70, 71, 72, 73, 74, 94, 95] (by decide +kernel) (by decide +kernel)
set_option maxRecDepth 20000 in
theorem gX7_back_X2_sortIn : GoodIn wsX7_back (wsV RX7 255 RX2 yX2_sortIn wsX2_sortIn) := goodIn_app (goodIn_of _ (by decide +kernel)) ggX7_back_X2_sortIn
set_option maxRecDepth 20000 in
theorem ggX7_back_X2_size : GoodIn wsX7_back wsX2_size := goodIn_r _ [78, 15, 94, 95] (by decide +kernel) (by decide +kernel)
set_option maxRecDepth 20000 in
theorem gX7_back_X2_size : GoodIn wsX7_back (wsV RX7 149 RX2 yX2_size wsX2_size) := goodIn_app (goodIn_of _ (by decide +kernel)) ggX7_back_X2_size
theorem dX7_back_0 : decode cX7_back 0 = .ok (.aload_n 0, 1) := by decide +kernel
theorem dX7_back_1 : decode cX7_back 1 = .ok (.getfield 9, 3) := by decide +kernel
theorem dX7_back_4 : decode cX7_back 4 = .ok (.iconst 1, 1) := by decide +kernel
theorem dX7_back_5 : decode cX7_back 5 = .ok (.if_icmp .ne 10, 3) := by decide +kernel
theorem dX7_back_8 : decode cX7_back 8 = .ok (.lload_n 1, 1) := by decide +kernel
theorem dX7_back_9 : decode cX7_back 9 = .ok (.invokestatic 178, 3) := by decide +kernel
theorem dX7_back_12 : decode cX7_back 12 = .ok (.ifCond .ne 5, 3) := by decide +kernel
theorem dX7_back_15 : decode cX7_back 15 = .ok (.iconst (-1), 1) := by decide +kernel
theorem dX7_back_16 : decode cX7_back 16 = .ok (.ireturn, 1) := by decide +kernel
theorem dX7_back_17 : decode cX7_back 17 = .ok (.aload_n 0, 1) := by decide +kernel
theorem dX7_back_18 : decode cX7_back 18 = .ok (.getfield 45, 3) := by decide +kernel
theorem dX7_back_21 : decode cX7_back 21 = .ok (.invokevirtual 208, 3) := by decide +kernel
theorem dX7_back_24 : decode cX7_back 24 = .ok (.iconst 0, 1) := by decide +kernel
theorem dX7_back_25 : decode cX7_back 25 = .ok (.istore_n 3, 1) := by decide +kernel
theorem dX7_back_26 : decode cX7_back 26 = .ok (.iload_n 3, 1) := by decide +kernel
theorem dX7_back_27 : decode cX7_back 27 = .ok (.aload_n 0, 1) := by decide +kernel
theorem dX7_back_28 : decode cX7_back 28 = .ok (.getfield 16, 3) := by decide +kernel
theorem dX7_back_31 : decode cX7_back 31 = .ok (.invokevirtual 99, 3) := by decide +kernel
theorem dX7_back_34 : decode cX7_back 34 = .ok (.if_icmp .ge 37, 3) := by decide +kernel
theorem dX7_back_37 : decode cX7_back 37 = .ok (.aload_n 0, 1) := by decide +kernel
theorem dX7_back_38 : decode cX7_back 38 = .ok (.getfield 16, 3) := by decide +kernel
theorem dX7_back_41 : decode cX7_back 41 = .ok (.lload_n 1, 1) := by decide +kernel
theorem dX7_back_42 : decode cX7_back 42 = .ok (.iload_n 3, 1) := by decide +kernel
theorem dX7_back_43 : decode cX7_back 43 = .ok (.invokevirtual 263, 3) := by decide +kernel
theorem dX7_back_46 : decode cX7_back 46 = .ok (.lstore 4, 2) := by decide +kernel
theorem dX7_back_48 : decode cX7_back 48 = .ok (.lload 4, 2) := by decide +kernel
theorem dX7_back_50 : decode cX7_back 50 = .ok (.invokestatic 178, 3) := by decide +kernel
theorem dX7_back_53 : decode cX7_back 53 = .ok (.ifCond .eq 12, 3) := by decide +kernel
theorem dX7_back_56 : decode cX7_back 56 = .ok (.aload_n 0, 1) := by decide +kernel
theorem dX7_back_57 : decode cX7_back 57 = .ok (.getfield 45, 3) := by decide +kernel
theorem dX7_back_60 : decode cX7_back 60 = .ok (.lload 4, 2) := by decide +kernel
theorem dX7_back_62 : decode cX7_back 62 = .ok (.invokevirtual 255, 3) := by decide +kernel
theorem dX7_back_65 : decode cX7_back 65 = .ok (.iinc 3 1, 3) := by decide +kernel
theorem dX7_back_68 : decode cX7_back 68 = .ok (.goto (-42), 3) := by decide +kernel
theorem dX7_back_71 : decode cX7_back 71 = .ok (.aload_n 0, 1) := by decide +kernel
theorem dX7_back_72 : decode cX7_back 72 = .ok (.getfield 45, 3) := by decide +kernel
theorem dX7_back_75 : decode cX7_back 75 = .ok (.invokevirtual 149, 3) := by decide +kernel
theorem dX7_back_78 : decode cX7_back 78 = .ok (.ireturn, 1) := by decide +kernel
set_option maxRecDepth 20000 in
theorem ggX7_whole_X5_measure : GoodIn wsX7_whole wsX5_measure := goodIn_r _ [7, 8, 48, 49, 50, 51] (by decide +kernel) (by decide +kernel)
set_option maxRecDepth 20000 in
theorem gX7_whole_X5_measure : GoodIn wsX7_whole (wsV RX7 99 RX5 yX5_measure wsX5_measure) := goodIn_app (goodIn_of _ (by decide +kernel)) ggX7_whole_X5_measure
set_option maxRecDepth 20000 in
theorem ggX7_whole_X5_a : GoodIn wsX7_whole wsX5_a := goodIn_r _ [12, 13, 14, 15, 16, 6, 17, 8, 48, 49, 50, 51] (by decide +kernel) (by decide +kernel)
set_option maxRecDepth 20000 in
theorem gX7_whole_X5_a : GoodIn wsX7_whole (wsV RX7 266 RX5 yX5_a wsX5_a) := goodIn_app (goodIn_of _ (by decide +kernel)) ggX7_whole_X5_a
set_option maxRecDepth 20000 in
theorem ggX7_whole_X5_first : GoodIn wsX7_whole wsX5_first := goodIn_ca (goodIn_r _ [21, 22, 10, 11, 6, 12, 13, 14, 15, 16, 17, 8, 23, 24, 25, 26, 27, 28, 29, 30, 31, 32, 48, 49, 50, 51] (by decide +kernel) (by decide +kernel)) (goodIn_sub (fun _ h => List.mem_cons_of_mem _ (List.mem_append_right _ h)) (by decide +kernel))
set_option maxRecDepth 20000 in
theorem gX7_whole_X5_first : GoodIn wsX7_whole (wsV RX7 269 RX5 yX5_first wsX5_first) := goodIn_app (goodIn_of _ (by decide +kernel)) ggX7_whole_X5_first
theorem dX7_whole_0 : decode cX7_whole 0 = .ok (.aload_n 0, 1) := by decide +kernel
theorem dX7_whole_1 : decode cX7_whole 1 = .ok (.getfield 9, 3) := by decide +kernel
theorem dX7_whole_4 : decode cX7_whole 4 = .ok (.iconst 1, 1) := by decide +kernel
theorem dX7_whole_5 : decode cX7_whole 5 = .ok (.if_icmp .eq 5, 3) := by decide +kernel
theorem dX7_whole_8 : decode cX7_whole 8 = .ok (.lconst 0, 1) := by decide +kernel
theorem dX7_whole_9 : decode cX7_whole 9 = .ok (.lreturn, 1) := by decide +kernel
theorem dX7_whole_10 : decode cX7_whole 10 = .ok (.lconst 0, 1) := by decide +kernel
theorem dX7_whole_11 : decode cX7_whole 11 = .ok (.lstore_n 3, 1) := by decide +kernel
theorem dX7_whole_12 : decode cX7_whole 12 = .ok (.iconst 0, 1) := by decide +kernel
theorem dX7_whole_13 : decode cX7_whole 13 = .ok (.istore 5, 2) := by decide +kernel
theorem dX7_whole_15 : decode cX7_whole 15 = .ok (.iload 5, 2) := by decide +kernel
theorem dX7_whole_17 : decode cX7_whole 17 = .ok (.aload_n 0, 1) := by decide +kernel
theorem dX7_whole_18 : decode cX7_whole 18 = .ok (.getfield 16, 3) := by decide +kernel
theorem dX7_whole_21 : decode cX7_whole 21 = .ok (.invokevirtual 99, 3) := by decide +kernel
theorem dX7_whole_24 : decode cX7_whole 24 = .ok (.if_icmp .ge 44, 3) := by decide +kernel
theorem dX7_whole_27 : decode cX7_whole 27 = .ok (.aload_n 0, 1) := by decide +kernel
theorem dX7_whole_28 : decode cX7_whole 28 = .ok (.getfield 16, 3) := by decide +kernel
theorem dX7_whole_31 : decode cX7_whole 31 = .ok (.iload 5, 2) := by decide +kernel
theorem dX7_whole_33 : decode cX7_whole 33 = .ok (.invokevirtual 266, 3) := by decide +kernel
theorem dX7_whole_36 : decode cX7_whole 36 = .ok (.lconst 0, 1) := by decide +kernel
theorem dX7_whole_37 : decode cX7_whole 37 = .ok (.lcmp, 1) := by decide +kernel
theorem dX7_whole_38 : decode cX7_whole 38 = .ok (.ifCond .ne 24, 3) := by decide +kernel
theorem dX7_whole_41 : decode cX7_whole 41 = .ok (.aload_n 0, 1) := by decide +kernel
theorem dX7_whole_42 : decode cX7_whole 42 = .ok (.getfield 16, 3) := by decide +kernel
theorem dX7_whole_45 : decode cX7_whole 45 = .ok (.iload 5, 2) := by decide +kernel
theorem dX7_whole_47 : decode cX7_whole 47 = .ok (.invokevirtual 269, 3) := by decide +kernel
theorem dX7_whole_50 : decode cX7_whole 50 = .ok (.lload_n 1, 1) := by decide +kernel
theorem dX7_whole_51 : decode cX7_whole 51 = .ok (.lcmp, 1) := by decide +kernel
theorem dX7_whole_52 : decode cX7_whole 52 = .ok (.ifCond .ne 10, 3) := by decide +kernel
theorem dX7_whole_55 : decode cX7_whole 55 = .ok (.lload_n 3, 1) := by decide +kernel
theorem dX7_whole_56 : decode cX7_whole 56 = .ok (.lconst 1, 1) := by decide +kernel
theorem dX7_whole_57 : decode cX7_whole 57 = .ok (.iload 5, 2) := by decide +kernel
theorem dX7_whole_59 : decode cX7_whole 59 = .ok (.lshl, 1) := by decide +kernel
theorem dX7_whole_60 : decode cX7_whole 60 = .ok (.lor, 1) := by decide +kernel
theorem dX7_whole_61 : decode cX7_whole 61 = .ok (.lstore_n 3, 1) := by decide +kernel
theorem dX7_whole_62 : decode cX7_whole 62 = .ok (.iinc 5 1, 3) := by decide +kernel
theorem dX7_whole_65 : decode cX7_whole 65 = .ok (.goto (-50), 3) := by decide +kernel
theorem dX7_whole_68 : decode cX7_whole 68 = .ok (.lload_n 3, 1) := by decide +kernel
theorem dX7_whole_69 : decode cX7_whole 69 = .ok (.lreturn, 1) := by decide +kernel
set_option maxRecDepth 20000 in
theorem ggX7_backs_X7_isNumber : GoodIn wsX7_backs wsX7_isNumber := goodIn_r _ [6, 7, 8] (by decide +kernel) (by decide +kernel)
set_option maxRecDepth 20000 in
theorem gX7_backs_X7_isNumber : GoodIn wsX7_backs (va_wsS RX7 178 yX7_isNumber wsX7_isNumber) := goodIn_app (goodIn_of _ (by decide +kernel)) ggX7_backs_X7_isNumber
set_option maxRecDepth 20000 in
theorem ggX7_backs_X2_empty : GoodIn wsX7_backs wsX2_empty := goodIn_r _ [13, 14, 97, 98] (by decide +kernel) (by decide +kernel)
set_option maxRecDepth 20000 in
theorem gX7_backs_X2_empty : GoodIn wsX7_backs (wsV RX7 208 RX2 yX2_empty wsX2_empty) := goodIn_app (goodIn_of _ (by decide +kernel)) ggX7_backs_X2_empty
set_option maxRecDepth 20000 in
theorem ggX7_backs_X2_add : GoodIn wsX7_backs wsX2_add := goodIn_r _ [18, 14, 19, 97, 98] (by decide +kernel) (by decide +kernel)
set_option maxRecDepth 20000 in
theorem gX7_backs_X2_add : GoodIn wsX7_backs (wsV RX7 213 RX2 yX2_add wsX2_add) := goodIn_app (goodIn_of _ (by decide +kernel)) ggX7_backs_X2_add
set_option maxRecDepth 20000 in
theorem ggX7_backs_X7_goBackFromFound : GoodIn wsX7_backs wsX7_goBackFromFound := goodIn_ca (goodIn_r _ [23, 24, 2, 25, 9, 10, 11, 12, 13, 14, 26, 27, 28, 29, 30, 31, 32, 33, 34, 35, 36, 37, 38, 39, 19, 40, 41, 42, 43, 44, 45, 46, 47, 48, 49, 50, 51, 52, 53, 54, 55, 56, 57, 58, 59, 60, 61, 62, 63, 64, 65, 66, 67, 4, 5, 6, 7, 8, 68, 69, 70, 71, 72, 73, 74, 75, 3, 15, 16, 17, 18, 76, 77, 78, 79, 80, 81, 82, 83, 84, 85, 86, 87, 88, 89, 90, 91, 92, 93, 94, 95, 96, 97, 98, 99, 100, 101, 102] (by decide +kernel) (by decide +kernel)) (goodIn_sub (fun _ h => List.mem_cons_of_mem _ (List.mem_append_right _ h)) (by decide +kernel))
set_option maxRecDepth 20000 in
theorem gX7_backs_X7_goBackFromFound : GoodIn wsX7_backs (wsV RX7 272 RX7 yX7_goBackFromFound wsX7_goBackFromFound) := goodIn_app (goodIn_of _ (by decide +kernel)) ggX7_backs_X7_goBackFromFound
set_option maxRecDepth 20000 in
theorem ggX7_backs_X2_size : GoodIn wsX7_backs wsX2_size := goodIn_r _ [29, 14, 97, 98] (by decide +kernel) (by decide +kernel)
set_option maxRecDepth 20000 in
theorem gX7_backs_X2_size : GoodIn wsX7_backs (wsV RX7 149 RX2 yX2_size wsX2_size) := goodIn_app (goodIn_of _ (by decide +kernel)) ggX7_backs_X2_size
theorem dX7_backs_0 : decode cX7_backs 0 = .ok (.aload_n 0, 1) := by decide +kernel
theorem dX7_backs_1 : decode cX7_backs 1 = .ok (.getfield 9, 3) := by decide +kernel
theorem dX7_backs_4 : decode cX7_backs 4 = .ok (.iconst 1, 1) := by decide +kernel
theorem dX7_backs_5 : decode cX7_backs 5 = .ok (.if_icmp .ne 20, 3) := by decide +kernel
theorem dX7_backs_8 : decode cX7_backs 8 = .ok (.lload_n 1, 1) := by decide +kernel
theorem dX7_backs_9 : decode cX7_backs 9 = .ok (.invokestatic 178, 3) := by decide +kernel
theorem dX7_backs_12 : decode cX7_backs 12 = .ok (.ifCond .eq 13, 3) := by decide +kernel
theorem dX7_backs_15 : decode cX7_backs 15 = .ok (.iload_n 3, 1) := by decide +kernel
theorem dX7_backs_16 : decode cX7_backs 16 = .ok (.ifCond .lt 9, 3) := by decide +kernel
theorem dX7_backs_19 : decode cX7_backs 19 = .ok (.iload_n 3, 1) := by decide +kernel
theorem dX7_backs_20 : decode cX7_backs 20 = .ok (.bipush 20, 2) := by decide +kernel
theorem dX7_backs_22 : decode cX7_backs 22 = .ok (.if_icmp .le 5, 3) := by decide +kernel
theorem dX7_backs_25 : decode cX7_backs 25 = .ok (.iconst (-1), 1) := by decide +kernel
theorem dX7_backs_26 : decode cX7_backs 26 = .ok (.ireturn, 1) := by decide +kernel
theorem dX7_backs_27 : decode cX7_backs 27 = .ok (.aload_n 0, 1) := by decide +kernel
theorem dX7_backs_28 : decode cX7_backs 28 = .ok (.getfield 49, 3) := by decide +kernel
theorem dX7_backs_31 : decode cX7_backs 31 = .ok (.invokevirtual 208, 3) := by decide +kernel
theorem dX7_backs_34 : decode cX7_backs 34 = .ok (.aload_n 0, 1) := by decide +kernel
theorem dX7_backs_35 : decode cX7_backs 35 = .ok (.getfield 49, 3) := by decide +kernel
theorem dX7_backs_38 : decode cX7_backs 38 = .ok (.lload_n 1, 1) := by decide +kernel
theorem dX7_backs_39 : decode cX7_backs 39 = .ok (.invokevirtual 213, 3) := by decide +kernel
theorem dX7_backs_42 : decode cX7_backs 42 = .ok (.pop, 1) := by decide +kernel
theorem dX7_backs_43 : decode cX7_backs 43 = .ok (.iconst 0, 1) := by decide +kernel
theorem dX7_backs_44 : decode cX7_backs 44 = .ok (.istore 4, 2) := by decide +kernel
theorem dX7_backs_46 : decode cX7_backs 46 = .ok (.iload 4, 2) := by decide +kernel
theorem dX7_backs_48 : decode cX7_backs 48 = .ok (.iload_n 3, 1) := by decide +kernel
theorem dX7_backs_49 : decode cX7_backs 49 = .ok (.if_icmp .ge 19, 3) := by decide +kernel
theorem dX7_backs_52 : decode cX7_backs 52 = .ok (.aload_n 0, 1) := by decide +kernel
theorem dX7_backs_53 : decode cX7_backs 53 = .ok (.invokevirtual 272, 3) := by decide +kernel
theorem dX7_backs_56 : decode cX7_backs 56 = .ok (.ifCond .ne 6, 3) := by decide +kernel
theorem dX7_backs_59 : decode cX7_backs 59 = .ok (.bipush (-2), 2) := by decide +kernel
theorem dX7_backs_61 : decode cX7_backs 61 = .ok (.ireturn, 1) := by decide +kernel
theorem dX7_backs_62 : decode cX7_backs 62 = .ok (.iinc 4 1, 3) := by decide +kernel
theorem dX7_backs_65 : decode cX7_backs 65 = .ok (.goto (-19), 3) := by decide +kernel
theorem dX7_backs_68 : decode cX7_backs 68 = .ok (.aload_n 0, 1) := by decide +kernel
theorem dX7_backs_69 : decode cX7_backs 69 = .ok (.getfield 49, 3) := by decide +kernel
theorem dX7_backs_72 : decode cX7_backs 72 = .ok (.invokevirtual 149, 3) := by decide +kernel
theorem dX7_backs_75 : decode cX7_backs 75 = .ok (.ireturn, 1) := by decide +kernel
set_option maxRecDepth 20000 in
theorem ggX7_both_X5_hasNoShare : GoodIn wsX7_both wsX5_hasNoShare := goodIn_r _ [8, 9, 10, 11, 12, 7, 13, 14, 15, 16, 17, 18, 76, 77, 78, 79] (by decide +kernel) (by decide +kernel)
set_option maxRecDepth 20000 in
theorem gX7_both_X5_hasNoShare : GoodIn wsX7_both (wsV RX7 275 RX5 yX5_hasNoShare wsX5_hasNoShare) := goodIn_app (goodIn_of _ (by decide +kernel)) ggX7_both_X5_hasNoShare
set_option maxRecDepth 20000 in
theorem ggX7_both_X5_commonStride : GoodIn wsX7_both wsX5_commonStride := goodIn_ca (goodIn_r _ [22, 9, 23, 24, 25, 26, 27, 28, 29, 30, 31, 7, 32, 33, 34, 35, 10, 11, 12, 13, 14, 15, 16, 17, 18, 36, 37, 38, 39, 40, 41, 42, 43, 44, 76, 77, 78, 79] (by decide +kernel) (by decide +kernel)) (goodIn_sub (fun _ h => List.mem_cons_of_mem _ (List.mem_append_right _ h)) (by decide +kernel))
set_option maxRecDepth 20000 in
theorem gX7_both_X5_commonStride : GoodIn wsX7_both (wsV RX7 278 RX5 yX5_commonStride wsX5_commonStride) := goodIn_app (goodIn_of _ (by decide +kernel)) ggX7_both_X5_commonStride
set_option maxRecDepth 20000 in
theorem ggX7_both_X5_fillsOnce : GoodIn wsX7_both wsX5_fillsOnce := goodIn_ca (goodIn_r _ [48, 9, 49, 50, 27, 51, 29, 30, 31, 7, 32, 33, 34, 35, 10, 11, 12, 13, 14, 15, 16, 17, 18, 36, 37, 38, 39, 40, 52, 53, 54, 55, 56, 57, 58, 59, 60, 41, 42, 43, 44, 76, 77, 78, 79] (by decide +kernel) (by decide +kernel)) (goodIn_sub (fun _ h => List.mem_cons_of_mem _ (List.mem_append_right _ h)) (by decide +kernel))
set_option maxRecDepth 20000 in
theorem gX7_both_X5_fillsOnce : GoodIn wsX7_both (wsV RX7 282 RX5 yX5_fillsOnce wsX5_fillsOnce) := goodIn_app (goodIn_of _ (by decide +kernel)) ggX7_both_X5_fillsOnce
theorem dX7_both_0 : decode cX7_both 0 = .ok (.aload_n 0, 1) := by decide +kernel
theorem dX7_both_1 : decode cX7_both 1 = .ok (.getfield 9, 3) := by decide +kernel
theorem dX7_both_4 : decode cX7_both 4 = .ok (.iconst 1, 1) := by decide +kernel
theorem dX7_both_5 : decode cX7_both 5 = .ok (.if_icmp .eq 5, 3) := by decide +kernel
theorem dX7_both_8 : decode cX7_both 8 = .ok (.iconst (-1), 1) := by decide +kernel
theorem dX7_both_9 : decode cX7_both 9 = .ok (.ireturn, 1) := by decide +kernel
theorem dX7_both_10 : decode cX7_both 10 = .ok (.aload_n 0, 1) := by decide +kernel
theorem dX7_both_11 : decode cX7_both 11 = .ok (.getfield 16, 3) := by decide +kernel
theorem dX7_both_14 : decode cX7_both 14 = .ok (.invokevirtual 275, 3) := by decide +kernel
theorem dX7_both_17 : decode cX7_both 17 = .ok (.ifCond .eq 5, 3) := by decide +kernel
theorem dX7_both_20 : decode cX7_both 20 = .ok (.iconst 0, 1) := by decide +kernel
theorem dX7_both_21 : decode cX7_both 21 = .ok (.ireturn, 1) := by decide +kernel
theorem dX7_both_22 : decode cX7_both 22 = .ok (.aload_n 0, 1) := by decide +kernel
theorem dX7_both_23 : decode cX7_both 23 = .ok (.getfield 16, 3) := by decide +kernel
theorem dX7_both_26 : decode cX7_both 26 = .ok (.invokevirtual 278, 3) := by decide +kernel
theorem dX7_both_29 : decode cX7_both 29 = .ok (.istore_n 1, 1) := by decide +kernel
theorem dX7_both_30 : decode cX7_both 30 = .ok (.iload_n 1, 1) := by decide +kernel
theorem dX7_both_31 : decode cX7_both 31 = .ok (.ldc_w 281, 3) := by decide +kernel
theorem dX7_both_34 : decode cX7_both 34 = .ok (.if_icmp .le 6, 3) := by decide +kernel
theorem dX7_both_37 : decode cX7_both 37 = .ok (.bipush (-2), 2) := by decide +kernel
theorem dX7_both_39 : decode cX7_both 39 = .ok (.ireturn, 1) := by decide +kernel
theorem dX7_both_40 : decode cX7_both 40 = .ok (.aload_n 0, 1) := by decide +kernel
theorem dX7_both_41 : decode cX7_both 41 = .ok (.getfield 16, 3) := by decide +kernel
theorem dX7_both_44 : decode cX7_both 44 = .ok (.iload_n 1, 1) := by decide +kernel
theorem dX7_both_45 : decode cX7_both 45 = .ok (.invokevirtual 282, 3) := by decide +kernel
theorem dX7_both_48 : decode cX7_both 48 = .ok (.ifCond .eq 7, 3) := by decide +kernel
theorem dX7_both_51 : decode cX7_both 51 = .ok (.iconst 1, 1) := by decide +kernel
theorem dX7_both_52 : decode cX7_both 52 = .ok (.goto 4, 3) := by decide +kernel
theorem dX7_both_55 : decode cX7_both 55 = .ok (.iconst 0, 1) := by decide +kernel
theorem dX7_both_56 : decode cX7_both 56 = .ok (.ireturn, 1) := by decide +kernel
set_option maxRecDepth 20000 in
theorem ggX7_turn_X7_both : GoodIn wsX7_turn wsX7_both := goodIn_ca (goodIn_r _ [7, 8, 1, 9, 10, 11, 12, 13, 14, 15, 16, 17, 18, 19, 20, 21, 22, 23, 24, 25, 26, 27, 28, 29, 30, 31, 32, 33, 34, 35, 36, 37, 38, 39, 40, 41, 42, 43, 44, 45, 46, 47, 6, 48, 49, 50, 51, 52, 53, 54, 55, 56, 57, 58, 59, 60, 61, 62, 63, 64, 65, 116, 117, 118, 119, 120, 121, 122, 123, 124, 125, 126, 127, 128, 129, 130, 131, 132, 133, 134] (by decide +kernel) (by decide +kernel)) (goodIn_sub (fun _ h => List.mem_cons_of_mem _ (List.mem_append_right _ h)) (by decide +kernel))
set_option maxRecDepth 20000 in
theorem gX7_turn_X7_both : GoodIn wsX7_turn (wsV RX7 285 RX7 yX7_both wsX7_both) := goodIn_app (goodIn_of _ (by decide +kernel)) ggX7_turn_X7_both
set_option maxRecDepth 20000 in
theorem ggX7_turn_X5_commonStride : GoodIn wsX7_turn wsX5_commonStride := goodIn_ca (goodIn_r _ [28, 15, 29, 30, 31, 32, 33, 34, 35, 36, 37, 13, 38, 39, 40, 41, 16, 17, 18, 19, 20, 21, 22, 23, 24, 42, 43, 44, 45, 46, 47, 6, 48, 49, 131, 132, 133, 134] (by decide +kernel) (by decide +kernel)) (goodIn_sub (fun _ h => List.mem_cons_of_mem _ (List.mem_append_right _ h)) (by decide +kernel))
set_option maxRecDepth 20000 in
theorem gX7_turn_X5_commonStride : GoodIn wsX7_turn (wsV RX7 278 RX5 yX5_commonStride wsX5_commonStride) := goodIn_app (goodIn_of _ (by decide +kernel)) ggX7_turn_X5_commonStride
set_option maxRecDepth 20000 in
theorem ggX7_turn_X5_begin : GoodIn wsX7_turn wsX5_begin := goodIn_r _ [69, 15, 20, 65, 46, 70, 71, 72, 73, 131, 132, 133, 134] (by decide +kernel) (by decide +kernel)
set_option maxRecDepth 20000 in
theorem gX7_turn_X5_begin : GoodIn wsX7_turn (wsV RX7 85 RX5 yX5_begin wsX5_begin) := goodIn_app (goodIn_of _ (by decide +kernel)) ggX7_turn_X5_begin
set_option maxRecDepth 20000 in
theorem ggX7_turn_X7_turnRest : GoodIn wsX7_turn wsX7_turnRest := goodIn_ca (goodIn_r _ [77, 1, 78, 2, 79, 80, 81, 13, 82, 15, 54, 55, 33, 56, 57, 58, 59, 60, 16, 17, 18, 19, 20, 21, 22, 23, 24, 61, 62, 63, 64, 65, 42, 43, 44, 45, 46, 35, 36, 37, 38, 39, 40, 41, 83, 84, 85, 86, 47, 6, 48, 49, 87, 88, 89, 90, 116, 117, 118, 119, 120, 121, 122, 123, 124, 125, 126, 127, 128, 129, 130, 131, 132, 133, 134] (by decide +kernel) (by decide +kernel)) (goodIn_sub (fun _ h => List.mem_cons_of_mem _ (List.mem_append_right _ h)) (by decide +kernel))
set_option maxRecDepth 20000 in
theorem gX7_turn_X7_turnRest : GoodIn wsX7_turn (wsV RX7 288 RX7 yX7_turnRest wsX7_turnRest) := goodIn_app (goodIn_of _ (by decide +kernel)) ggX7_turn_X7_turnRest
set_option maxRecDepth 20000 in
theorem ggX7_turn_X5_firstUnsound : GoodIn wsX7_turn wsX5_firstUnsound := goodIn_ca (goodIn_r _ [94, 15, 95, 96, 97, 13, 98, 99, 100, 101, 102, 20, 65, 46, 21, 22, 23, 24, 103, 104, 105, 106, 107, 16, 17, 18, 19, 61, 62, 63, 64, 42, 43, 44, 45, 131, 132, 133, 134] (by decide +kernel) (by decide +kernel)) (goodIn_sub (fun _ h => List.mem_cons_of_mem _ (List.mem_append_right _ h)) (by decide +kernel))
set_option maxRecDepth 20000 in
theorem gX7_turn_X5_firstUnsound : GoodIn wsX7_turn (wsV RX7 129 RX5 yX5_firstUnsound wsX5_firstUnsound) := goodIn_app (goodIn_of _ (by decide +kernel)) ggX7_turn_X5_firstUnsound
set_option maxRecDepth 20000 in
theorem ggX7_turn_X5_become : GoodIn wsX7_turn wsX5_become := goodIn_r _ [111, 15, 20, 112, 113, 114, 115, 65, 46, 131, 132, 133, 134] (by decide +kernel) (by decide +kernel)
set_option maxRecDepth 20000 in
theorem gX7_turn_X5_become : GoodIn wsX7_turn (wsV RX7 132 RX5 yX5_become wsX5_become) := goodIn_app (goodIn_of _ (by decide +kernel)) ggX7_turn_X5_become
theorem dX7_turn_0 : decode cX7_turn 0 = .ok (.aload_n 0, 1) := by decide +kernel
theorem dX7_turn_1 : decode cX7_turn 1 = .ok (.invokevirtual 285, 3) := by decide +kernel
theorem dX7_turn_4 : decode cX7_turn 4 = .ok (.iconst 1, 1) := by decide +kernel
theorem dX7_turn_5 : decode cX7_turn 5 = .ok (.if_icmp .eq 5, 3) := by decide +kernel
theorem dX7_turn_8 : decode cX7_turn 8 = .ok (.iconst (-1), 1) := by decide +kernel
theorem dX7_turn_9 : decode cX7_turn 9 = .ok (.ireturn, 1) := by decide +kernel
theorem dX7_turn_10 : decode cX7_turn 10 = .ok (.aload_n 0, 1) := by decide +kernel
theorem dX7_turn_11 : decode cX7_turn 11 = .ok (.getfield 16, 3) := by decide +kernel
theorem dX7_turn_14 : decode cX7_turn 14 = .ok (.invokevirtual 278, 3) := by decide +kernel
theorem dX7_turn_17 : decode cX7_turn 17 = .ok (.istore_n 1, 1) := by decide +kernel
theorem dX7_turn_18 : decode cX7_turn 18 = .ok (.iload_n 1, 1) := by decide +kernel
theorem dX7_turn_19 : decode cX7_turn 19 = .ok (.iconst 2, 1) := by decide +kernel
theorem dX7_turn_20 : decode cX7_turn 20 = .ok (.if_icmp .lt 9, 3) := by decide +kernel
theorem dX7_turn_23 : decode cX7_turn 23 = .ok (.iload_n 1, 1) := by decide +kernel
theorem dX7_turn_24 : decode cX7_turn 24 = .ok (.bipush 64, 2) := by decide +kernel
theorem dX7_turn_26 : decode cX7_turn 26 = .ok (.if_icmp .le 5, 3) := by decide +kernel
theorem dX7_turn_29 : decode cX7_turn 29 = .ok (.iconst (-1), 1) := by decide +kernel
theorem dX7_turn_30 : decode cX7_turn 30 = .ok (.ireturn, 1) := by decide +kernel
theorem dX7_turn_31 : decode cX7_turn 31 = .ok (.aload_n 0, 1) := by decide +kernel
theorem dX7_turn_32 : decode cX7_turn 32 = .ok (.getfield 23, 3) := by decide +kernel
theorem dX7_turn_35 : decode cX7_turn 35 = .ok (.iload_n 1, 1) := by decide +kernel
theorem dX7_turn_36 : decode cX7_turn 36 = .ok (.invokevirtual 85, 3) := by decide +kernel
theorem dX7_turn_39 : decode cX7_turn 39 = .ok (.iconst 0, 1) := by decide +kernel
theorem dX7_turn_40 : decode cX7_turn 40 = .ok (.istore_n 2, 1) := by decide +kernel
theorem dX7_turn_41 : decode cX7_turn 41 = .ok (.iload_n 2, 1) := by decide +kernel
theorem dX7_turn_42 : decode cX7_turn 42 = .ok (.iload_n 1, 1) := by decide +kernel
theorem dX7_turn_43 : decode cX7_turn 43 = .ok (.if_icmp .ge 14, 3) := by decide +kernel
theorem dX7_turn_46 : decode cX7_turn 46 = .ok (.aload_n 0, 1) := by decide +kernel
theorem dX7_turn_47 : decode cX7_turn 47 = .ok (.iload_n 2, 1) := by decide +kernel
theorem dX7_turn_48 : decode cX7_turn 48 = .ok (.invokevirtual 288, 3) := by decide +kernel
theorem dX7_turn_51 : decode cX7_turn 51 = .ok (.iinc 2 1, 3) := by decide +kernel
theorem dX7_turn_54 : decode cX7_turn 54 = .ok (.goto (-13), 3) := by decide +kernel
theorem dX7_turn_57 : decode cX7_turn 57 = .ok (.aload_n 0, 1) := by decide +kernel
theorem dX7_turn_58 : decode cX7_turn 58 = .ok (.getfield 23, 3) := by decide +kernel
theorem dX7_turn_61 : decode cX7_turn 61 = .ok (.invokevirtual 129, 3) := by decide +kernel
theorem dX7_turn_64 : decode cX7_turn 64 = .ok (.ifCond .lt 5, 3) := by decide +kernel
theorem dX7_turn_67 : decode cX7_turn 67 = .ok (.iconst (-1), 1) := by decide +kernel
theorem dX7_turn_68 : decode cX7_turn 68 = .ok (.ireturn, 1) := by decide +kernel
theorem dX7_turn_69 : decode cX7_turn 69 = .ok (.aload_n 0, 1) := by decide +kernel
theorem dX7_turn_70 : decode cX7_turn 70 = .ok (.getfield 16, 3) := by decide +kernel
theorem dX7_turn_73 : decode cX7_turn 73 = .ok (.aload_n 0, 1) := by decide +kernel
theorem dX7_turn_74 : decode cX7_turn 74 = .ok (.getfield 23, 3) := by decide +kernel
theorem dX7_turn_77 : decode cX7_turn 77 = .ok (.invokevirtual 132, 3) := by decide +kernel
theorem dX7_turn_80 : decode cX7_turn 80 = .ok (.iload_n 1, 1) := by decide +kernel
theorem dX7_turn_81 : decode cX7_turn 81 = .ok (.ireturn, 1) := by decide +kernel
set_option maxRecDepth 20000 in
theorem ggX7_drift_X5_hasNoShare : GoodIn wsX7_drift wsX5_hasNoShare := goodIn_r _ [13, 14, 15, 16, 17, 12, 18, 19, 20, 21, 22, 23, 64, 65, 66, 67] (by decide +kernel) (by decide +kernel)
set_option maxRecDepth 20000 in
theorem gX7_drift_X5_hasNoShare : GoodIn wsX7_drift (wsV RX7 275 RX5 yX5_hasNoShare wsX5_hasNoShare) := goodIn_app (goodIn_of _ (by decide +kernel)) ggX7_drift_X5_hasNoShare
set_option maxRecDepth 20000 in
theorem ggX7_drift_X3_begin : GoodIn wsX7_drift wsX3_begin := goodIn_r _ [28, 29, 68] (by decide +kernel) (by decide +kernel)
set_option maxRecDepth 20000 in
theorem gX7_drift_X3_begin : GoodIn wsX7_drift (wsV RX7 291 RX3 yX3_begin wsX3_begin) := goodIn_app (goodIn_of _ (by decide +kernel)) ggX7_drift_X3_begin
set_option maxRecDepth 20000 in
theorem ggX7_drift_X5_measure : GoodIn wsX7_drift wsX5_measure := goodIn_r _ [33, 14, 64, 65, 66, 67] (by decide +kernel) (by decide +kernel)
set_option maxRecDepth 20000 in
theorem gX7_drift_X5_measure : GoodIn wsX7_drift (wsV RX7 99 RX5 yX5_measure wsX5_measure) := goodIn_app (goodIn_of _ (by decide +kernel)) ggX7_drift_X5_measure
set_option maxRecDepth 20000 in
theorem ggX7_drift_X5_a : GoodIn wsX7_drift wsX5_a := goodIn_r _ [18, 19, 20, 21, 22, 12, 23, 14, 64, 65, 66, 67] (by decide +kernel) (by decide +kernel)
set_option maxRecDepth 20000 in
theorem gX7_drift_X5_a : GoodIn wsX7_drift (wsV RX7 266 RX5 yX5_a wsX5_a) := goodIn_app (goodIn_of _ (by decide +kernel)) ggX7_drift_X5_a
set_option maxRecDepth 20000 in
theorem ggX7_drift_X3_multiply : GoodIn wsX7_drift wsX3_multiply := goodIn_r _ [38, 29, 39, 68] (by decide +kernel) (by decide +kernel)
set_option maxRecDepth 20000 in
theorem gX7_drift_X3_multiply : GoodIn wsX7_drift (wsV RX7 296 RX3 yX3_multiply wsX3_multiply) := goodIn_app (goodIn_of _ (by decide +kernel)) ggX7_drift_X3_multiply
set_option maxRecDepth 20000 in
theorem ggX7_drift_X5_d : GoodIn wsX7_drift wsX5_d := goodIn_r _ [43, 44, 20, 21, 22, 12, 23, 14, 64, 65, 66, 67] (by decide +kernel) (by decide +kernel)
set_option maxRecDepth 20000 in
theorem gX7_drift_X5_d : GoodIn wsX7_drift (wsV RX7 299 RX5 yX5_d wsX5_d) := goodIn_app (goodIn_of _ (by decide +kernel)) ggX7_drift_X5_d
set_option maxRecDepth 20000 in
theorem ggX7_drift_X3_against : GoodIn wsX7_drift wsX3_against := goodIn_r _ [48, 29, 68] (by decide +kernel) (by decide +kernel)
set_option maxRecDepth 20000 in
theorem gX7_drift_X3_against : GoodIn wsX7_drift (wsV RX7 302 RX3 yX3_against wsX3_against) := goodIn_app (goodIn_of _ (by decide +kernel)) ggX7_drift_X3_against
theorem dX7_drift_0 : decode cX7_drift 0 = .ok (.aload_n 0, 1) := by decide +kernel
theorem dX7_drift_1 : decode cX7_drift 1 = .ok (.getfield 9, 3) := by decide +kernel
theorem dX7_drift_4 : decode cX7_drift 4 = .ok (.iconst 1, 1) := by decide +kernel
theorem dX7_drift_5 : decode cX7_drift 5 = .ok (.if_icmp .ne 13, 3) := by decide +kernel
theorem dX7_drift_8 : decode cX7_drift 8 = .ok (.aload_n 0, 1) := by decide +kernel
theorem dX7_drift_9 : decode cX7_drift 9 = .ok (.getfield 16, 3) := by decide +kernel
theorem dX7_drift_12 : decode cX7_drift 12 = .ok (.invokevirtual 275, 3) := by decide +kernel
theorem dX7_drift_15 : decode cX7_drift 15 = .ok (.ifCond .eq 6, 3) := by decide +kernel
theorem dX7_drift_18 : decode cX7_drift 18 = .ok (.bipush (-2), 2) := by decide +kernel
theorem dX7_drift_20 : decode cX7_drift 20 = .ok (.ireturn, 1) := by decide +kernel
theorem dX7_drift_21 : decode cX7_drift 21 = .ok (.aload_n 0, 1) := by decide +kernel
theorem dX7_drift_22 : decode cX7_drift 22 = .ok (.getfield 71, 3) := by decide +kernel
theorem dX7_drift_25 : decode cX7_drift 25 = .ok (.invokevirtual 291, 3) := by decide +kernel
theorem dX7_drift_28 : decode cX7_drift 28 = .ok (.aload_n 0, 1) := by decide +kernel
theorem dX7_drift_29 : decode cX7_drift 29 = .ok (.getfield 75, 3) := by decide +kernel
theorem dX7_drift_32 : decode cX7_drift 32 = .ok (.invokevirtual 291, 3) := by decide +kernel
theorem dX7_drift_35 : decode cX7_drift 35 = .ok (.iconst 0, 1) := by decide +kernel
theorem dX7_drift_36 : decode cX7_drift 36 = .ok (.istore_n 1, 1) := by decide +kernel
theorem dX7_drift_37 : decode cX7_drift 37 = .ok (.iload_n 1, 1) := by decide +kernel
theorem dX7_drift_38 : decode cX7_drift 38 = .ok (.aload_n 0, 1) := by decide +kernel
theorem dX7_drift_39 : decode cX7_drift 39 = .ok (.getfield 16, 3) := by decide +kernel
theorem dX7_drift_42 : decode cX7_drift 42 = .ok (.invokevirtual 99, 3) := by decide +kernel
theorem dX7_drift_45 : decode cX7_drift 45 = .ok (.if_icmp .ge 42, 3) := by decide +kernel
theorem dX7_drift_48 : decode cX7_drift 48 = .ok (.aload_n 0, 1) := by decide +kernel
theorem dX7_drift_49 : decode cX7_drift 49 = .ok (.getfield 71, 3) := by decide +kernel
theorem dX7_drift_52 : decode cX7_drift 52 = .ok (.aload_n 0, 1) := by decide +kernel
theorem dX7_drift_53 : decode cX7_drift 53 = .ok (.getfield 16, 3) := by decide +kernel
theorem dX7_drift_56 : decode cX7_drift 56 = .ok (.iload_n 1, 1) := by decide +kernel
theorem dX7_drift_57 : decode cX7_drift 57 = .ok (.invokevirtual 266, 3) := by decide +kernel
theorem dX7_drift_60 : decode cX7_drift 60 = .ok (.invokestatic 293, 3) := by decide +kernel
theorem dX7_drift_63 : decode cX7_drift 63 = .ok (.invokevirtual 296, 3) := by decide +kernel
theorem dX7_drift_66 : decode cX7_drift 66 = .ok (.aload_n 0, 1) := by decide +kernel
theorem dX7_drift_67 : decode cX7_drift 67 = .ok (.getfield 75, 3) := by decide +kernel
theorem dX7_drift_70 : decode cX7_drift 70 = .ok (.aload_n 0, 1) := by decide +kernel
theorem dX7_drift_71 : decode cX7_drift 71 = .ok (.getfield 16, 3) := by decide +kernel
theorem dX7_drift_74 : decode cX7_drift 74 = .ok (.iload_n 1, 1) := by decide +kernel
theorem dX7_drift_75 : decode cX7_drift 75 = .ok (.invokevirtual 299, 3) := by decide +kernel
theorem dX7_drift_78 : decode cX7_drift 78 = .ok (.invokevirtual 296, 3) := by decide +kernel
theorem dX7_drift_81 : decode cX7_drift 81 = .ok (.iinc 1 1, 3) := by decide +kernel
theorem dX7_drift_84 : decode cX7_drift 84 = .ok (.goto (-47), 3) := by decide +kernel
theorem dX7_drift_87 : decode cX7_drift 87 = .ok (.aload_n 0, 1) := by decide +kernel
theorem dX7_drift_88 : decode cX7_drift 88 = .ok (.getfield 71, 3) := by decide +kernel
theorem dX7_drift_91 : decode cX7_drift 91 = .ok (.aload_n 0, 1) := by decide +kernel
theorem dX7_drift_92 : decode cX7_drift 92 = .ok (.getfield 75, 3) := by decide +kernel
theorem dX7_drift_95 : decode cX7_drift 95 = .ok (.invokevirtual 302, 3) := by decide +kernel
theorem dX7_drift_98 : decode cX7_drift 98 = .ok (.ireturn, 1) := by decide +kernel
set_option maxRecDepth 20000 in
theorem ggX7_fixed_X2_empty : GoodIn wsX7_fixed wsX2_empty := goodIn_r _ [8, 9, 83, 84] (by decide +kernel) (by decide +kernel)
set_option maxRecDepth 20000 in
theorem gX7_fixed_X2_empty : GoodIn wsX7_fixed (wsV RX7 208 RX2 yX2_empty wsX2_empty) := goodIn_app (goodIn_of _ (by decide +kernel)) ggX7_fixed_X2_empty
set_option maxRecDepth 20000 in
theorem ggX7_fixed_X5_measure : GoodIn wsX7_fixed wsX5_measure := goodIn_r _ [14, 15, 85, 86, 87, 88] (by decide +kernel) (by decide +kernel)
set_option maxRecDepth 20000 in
theorem gX7_fixed_X5_measure : GoodIn wsX7_fixed (wsV RX7 99 RX5 yX5_measure wsX5_measure) := goodIn_app (goodIn_of _ (by decide +kernel)) ggX7_fixed_X5_measure
set_option maxRecDepth 20000 in
theorem ggX7_fixed_X5_d : GoodIn wsX7_fixed wsX5_d := goodIn_r _ [19, 20, 21, 22, 23, 13, 24, 15, 85, 86, 87, 88] (by decide +kernel) (by decide +kernel)
set_option maxRecDepth 20000 in
theorem gX7_fixed_X5_d : GoodIn wsX7_fixed (wsV RX7 299 RX5 yX5_d wsX5_d) := goodIn_app (goodIn_of _ (by decide +kernel)) ggX7_fixed_X5_d
set_option maxRecDepth 20000 in
theorem ggX7_fixed_X5_a : GoodIn wsX7_fixed wsX5_a := goodIn_r _ [28, 29, 21, 22, 23, 13, 24, 15, 85, 86, 87, 88] (by decide +kernel) (by decide +kernel)
set_option maxRecDepth 20000 in
theorem gX7_fixed_X5_a : GoodIn wsX7_fixed (wsV RX7 266 RX5 yX5_a wsX5_a) := goodIn_app (goodIn_of _ (by decide +kernel)) ggX7_fixed_X5_a
set_option maxRecDepth 20000 in
theorem ggX7_fixed_X5_b : GoodIn wsX7_fixed wsX5_b := goodIn_r _ [33, 34, 21, 22, 23, 13, 24, 15, 85, 86, 87, 88] (by decide +kernel) (by decide +kernel)
set_option maxRecDepth 20000 in
theorem gX7_fixed_X5_b : GoodIn wsX7_fixed (wsV RX7 306 RX5 yX5_b wsX5_b) := goodIn_app (goodIn_of _ (by decide +kernel)) ggX7_fixed_X5_b
set_option maxRecDepth 20000 in
theorem ggX7_fixed_X5_restOf : GoodIn wsX7_fixed wsX5_restOf := goodIn_r _ [38, 15, 39, 40, 41, 42, 85, 86, 87, 88] (by decide +kernel) (by decide +kernel)
set_option maxRecDepth 20000 in
theorem gX7_fixed_X5_restOf : GoodIn wsX7_fixed (wsV RX7 309 RX5 yX5_restOf wsX5_restOf) := goodIn_app (goodIn_of _ (by decide +kernel)) ggX7_fixed_X5_restOf
set_option maxRecDepth 20000 in
theorem ggX7_fixed_X2_sortIn : GoodIn wsX7_fixed wsX2_sortIn := goodIn_r _ [46, 9, 47, 48, 49, 7, 50, 51, 52, 53, 54, 55, 56, 57, 58, 59, 60, 61, 62, 63, 83, 84] (by decide +kernel) (by decide +kernel)
set_option maxRecDepth 20000 in
theorem gX7_fixed_X2_sortIn : GoodIn wsX7_fixed (wsV RX7 255 RX2 yX2_sortIn wsX2_sortIn) := goodIn_app (goodIn_of _ (by decide +kernel)) ggX7_fixed_X2_sortIn
set_option maxRecDepth 20000 in
theorem ggX7_fixed_X2_size : GoodIn wsX7_fixed wsX2_size := goodIn_r _ [67, 9, 83, 84] (by decide +kernel) (by decide +kernel)
set_option maxRecDepth 20000 in
theorem gX7_fixed_X2_size : GoodIn wsX7_fixed (wsV RX7 149 RX2 yX2_size wsX2_size) := goodIn_app (goodIn_of _ (by decide +kernel)) ggX7_fixed_X2_size
theorem dX7_fixed_0 : decode cX7_fixed 0 = .ok (.aload_n 0, 1) := by decide +kernel
theorem dX7_fixed_1 : decode cX7_fixed 1 = .ok (.getfield 9, 3) := by decide +kernel
theorem dX7_fixed_4 : decode cX7_fixed 4 = .ok (.iconst 1, 1) := by decide +kernel
theorem dX7_fixed_5 : decode cX7_fixed 5 = .ok (.if_icmp .eq 5, 3) := by decide +kernel
theorem dX7_fixed_8 : decode cX7_fixed 8 = .ok (.iconst (-1), 1) := by decide +kernel
theorem dX7_fixed_9 : decode cX7_fixed 9 = .ok (.ireturn, 1) := by decide +kernel
theorem dX7_fixed_10 : decode cX7_fixed 10 = .ok (.aload_n 0, 1) := by decide +kernel
theorem dX7_fixed_11 : decode cX7_fixed 11 = .ok (.getfield 45, 3) := by decide +kernel
theorem dX7_fixed_14 : decode cX7_fixed 14 = .ok (.invokevirtual 208, 3) := by decide +kernel
theorem dX7_fixed_17 : decode cX7_fixed 17 = .ok (.iconst 0, 1) := by decide +kernel
theorem dX7_fixed_18 : decode cX7_fixed 18 = .ok (.istore_n 1, 1) := by decide +kernel
theorem dX7_fixed_19 : decode cX7_fixed 19 = .ok (.iload_n 1, 1) := by decide +kernel
theorem dX7_fixed_20 : decode cX7_fixed 20 = .ok (.aload_n 0, 1) := by decide +kernel
theorem dX7_fixed_21 : decode cX7_fixed 21 = .ok (.getfield 16, 3) := by decide +kernel
theorem dX7_fixed_24 : decode cX7_fixed 24 = .ok (.invokevirtual 99, 3) := by decide +kernel
theorem dX7_fixed_27 : decode cX7_fixed 27 = .ok (.if_icmp .ge 86, 3) := by decide +kernel
theorem dX7_fixed_30 : decode cX7_fixed 30 = .ok (.aload_n 0, 1) := by decide +kernel
theorem dX7_fixed_31 : decode cX7_fixed 31 = .ok (.getfield 16, 3) := by decide +kernel
theorem dX7_fixed_34 : decode cX7_fixed 34 = .ok (.iload_n 1, 1) := by decide +kernel
theorem dX7_fixed_35 : decode cX7_fixed 35 = .ok (.invokevirtual 299, 3) := by decide +kernel
theorem dX7_fixed_38 : decode cX7_fixed 38 = .ok (.aload_n 0, 1) := by decide +kernel
theorem dX7_fixed_39 : decode cX7_fixed 39 = .ok (.getfield 16, 3) := by decide +kernel
theorem dX7_fixed_42 : decode cX7_fixed 42 = .ok (.iload_n 1, 1) := by decide +kernel
theorem dX7_fixed_43 : decode cX7_fixed 43 = .ok (.invokevirtual 266, 3) := by decide +kernel
theorem dX7_fixed_46 : decode cX7_fixed 46 = .ok (.lsub, 1) := by decide +kernel
theorem dX7_fixed_47 : decode cX7_fixed 47 = .ok (.lstore_n 2, 1) := by decide +kernel
theorem dX7_fixed_48 : decode cX7_fixed 48 = .ok (.lload_n 2, 1) := by decide +kernel
theorem dX7_fixed_49 : decode cX7_fixed 49 = .ok (.lconst 0, 1) := by decide +kernel
theorem dX7_fixed_50 : decode cX7_fixed 50 = .ok (.lcmp, 1) := by decide +kernel
theorem dX7_fixed_51 : decode cX7_fixed 51 = .ok (.ifCond .eq 56, 3) := by decide +kernel
theorem dX7_fixed_54 : decode cX7_fixed 54 = .ok (.aload_n 0, 1) := by decide +kernel
theorem dX7_fixed_55 : decode cX7_fixed 55 = .ok (.getfield 16, 3) := by decide +kernel
theorem dX7_fixed_58 : decode cX7_fixed 58 = .ok (.iload_n 1, 1) := by decide +kernel
theorem dX7_fixed_59 : decode cX7_fixed 59 = .ok (.invokevirtual 306, 3) := by decide +kernel
theorem dX7_fixed_62 : decode cX7_fixed 62 = .ok (.lload_n 2, 1) := by decide +kernel
theorem dX7_fixed_63 : decode cX7_fixed 63 = .ok (.lrem, 1) := by decide +kernel
theorem dX7_fixed_64 : decode cX7_fixed 64 = .ok (.lconst 0, 1) := by decide +kernel
theorem dX7_fixed_65 : decode cX7_fixed 65 = .ok (.lcmp, 1) := by decide +kernel
theorem dX7_fixed_66 : decode cX7_fixed 66 = .ok (.ifCond .ne 41, 3) := by decide +kernel
theorem dX7_fixed_69 : decode cX7_fixed 69 = .ok (.aload_n 0, 1) := by decide +kernel
theorem dX7_fixed_70 : decode cX7_fixed 70 = .ok (.getfield 16, 3) := by decide +kernel
theorem dX7_fixed_73 : decode cX7_fixed 73 = .ok (.aload_n 0, 1) := by decide +kernel
theorem dX7_fixed_74 : decode cX7_fixed 74 = .ok (.getfield 16, 3) := by decide +kernel
theorem dX7_fixed_77 : decode cX7_fixed 77 = .ok (.iload_n 1, 1) := by decide +kernel
theorem dX7_fixed_78 : decode cX7_fixed 78 = .ok (.invokevirtual 306, 3) := by decide +kernel
theorem dX7_fixed_81 : decode cX7_fixed 81 = .ok (.lload_n 2, 1) := by decide +kernel
theorem dX7_fixed_82 : decode cX7_fixed 82 = .ok (.ldiv, 1) := by decide +kernel
theorem dX7_fixed_83 : decode cX7_fixed 83 = .ok (.invokevirtual 309, 3) := by decide +kernel
theorem dX7_fixed_86 : decode cX7_fixed 86 = .ok (.iload_n 1, 1) := by decide +kernel
theorem dX7_fixed_87 : decode cX7_fixed 87 = .ok (.if_icmp .ne 20, 3) := by decide +kernel
theorem dX7_fixed_90 : decode cX7_fixed 90 = .ok (.aload_n 0, 1) := by decide +kernel
theorem dX7_fixed_91 : decode cX7_fixed 91 = .ok (.getfield 45, 3) := by decide +kernel
theorem dX7_fixed_94 : decode cX7_fixed 94 = .ok (.aload_n 0, 1) := by decide +kernel
theorem dX7_fixed_95 : decode cX7_fixed 95 = .ok (.getfield 16, 3) := by decide +kernel
theorem dX7_fixed_98 : decode cX7_fixed 98 = .ok (.iload_n 1, 1) := by decide +kernel
theorem dX7_fixed_99 : decode cX7_fixed 99 = .ok (.invokevirtual 306, 3) := by decide +kernel
theorem dX7_fixed_102 : decode cX7_fixed 102 = .ok (.lload_n 2, 1) := by decide +kernel
theorem dX7_fixed_103 : decode cX7_fixed 103 = .ok (.ldiv, 1) := by decide +kernel
theorem dX7_fixed_104 : decode cX7_fixed 104 = .ok (.invokevirtual 255, 3) := by decide +kernel
theorem dX7_fixed_107 : decode cX7_fixed 107 = .ok (.iinc 1 1, 3) := by decide +kernel
theorem dX7_fixed_110 : decode cX7_fixed 110 = .ok (.goto (-91), 3) := by decide +kernel
theorem dX7_fixed_113 : decode cX7_fixed 113 = .ok (.aload_n 0, 1) := by decide +kernel
theorem dX7_fixed_114 : decode cX7_fixed 114 = .ok (.getfield 45, 3) := by decide +kernel
theorem dX7_fixed_117 : decode cX7_fixed 117 = .ok (.invokevirtual 149, 3) := by decide +kernel
theorem dX7_fixed_120 : decode cX7_fixed 120 = .ok (.ireturn, 1) := by decide +kernel
set_option maxRecDepth 20000 in
theorem ggX7_act_X7_isActNumber : GoodIn wsX7_act wsX7_isActNumber := goodIn_r _ [5] (by decide +kernel) (by decide +kernel)
set_option maxRecDepth 20000 in
theorem gX7_act_X7_isActNumber : GoodIn wsX7_act (va_wsS RX7 312 yX7_isActNumber wsX7_isActNumber) := goodIn_app (goodIn_of _ (by decide +kernel)) ggX7_act_X7_isActNumber
set_option maxRecDepth 20000 in
theorem ggX7_act_X1_add : GoodIn wsX7_act wsX1_add := goodIn_r _ [10, 11, 12, 13, 14, 15, 16, 17, 18, 19, 20, 21, 45, 46, 47, 48, 49, 50, 51, 52] (by decide +kernel) (by decide +kernel)
set_option maxRecDepth 20000 in
theorem gX7_act_X1_add : GoodIn wsX7_act (wsV RX7 315 RX1 yX1_add wsX1_add) := goodIn_app (goodIn_of _ (by decide +kernel)) ggX7_act_X1_add
set_option maxRecDepth 20000 in
theorem ggX7_act_X1_size : GoodIn wsX7_act wsX1_size := goodIn_r _ [25, 11, 26, 27, 28, 18, 29, 20, 45, 46, 47, 48, 49, 50, 51, 52] (by decide +kernel) (by decide +kernel)
set_option maxRecDepth 20000 in
theorem gX7_act_X1_size : GoodIn wsX7_act (wsV RX7 150 RX1 yX1_size wsX1_size) := goodIn_app (goodIn_of _ (by decide +kernel)) ggX7_act_X1_size
theorem dX7_act_0 : decode cX7_act 0 = .ok (.iload_n 1, 1) := by decide +kernel
theorem dX7_act_1 : decode cX7_act 1 = .ok (.ifCond .lt 8, 3) := by decide +kernel
theorem dX7_act_4 : decode cX7_act 4 = .ok (.iload_n 1, 1) := by decide +kernel
theorem dX7_act_5 : decode cX7_act 5 = .ok (.iconst 2, 1) := by decide +kernel
theorem dX7_act_6 : decode cX7_act 6 = .ok (.if_icmp .le 5, 3) := by decide +kernel
theorem dX7_act_9 : decode cX7_act 9 = .ok (.iconst (-1), 1) := by decide +kernel
theorem dX7_act_10 : decode cX7_act 10 = .ok (.ireturn, 1) := by decide +kernel
theorem dX7_act_11 : decode cX7_act 11 = .ok (.iload_n 1, 1) := by decide +kernel
theorem dX7_act_12 : decode cX7_act 12 = .ok (.iconst 2, 1) := by decide +kernel
theorem dX7_act_13 : decode cX7_act 13 = .ok (.if_icmp .eq 21, 3) := by decide +kernel
theorem dX7_act_16 : decode cX7_act 16 = .ok (.iload_n 2, 1) := by decide +kernel
theorem dX7_act_17 : decode cX7_act 17 = .ok (.ifCond .lt 15, 3) := by decide +kernel
theorem dX7_act_20 : decode cX7_act 20 = .ok (.iload_n 2, 1) := by decide +kernel
theorem dX7_act_21 : decode cX7_act 21 = .ok (.iconst 4, 1) := by decide +kernel
theorem dX7_act_22 : decode cX7_act 22 = .ok (.if_icmp .ge 10, 3) := by decide +kernel
theorem dX7_act_25 : decode cX7_act 25 = .ok (.iload_n 3, 1) := by decide +kernel
theorem dX7_act_26 : decode cX7_act 26 = .ok (.invokestatic 312, 3) := by decide +kernel
theorem dX7_act_29 : decode cX7_act 29 = .ok (.ifCond .ne 5, 3) := by decide +kernel
theorem dX7_act_32 : decode cX7_act 32 = .ok (.iconst (-1), 1) := by decide +kernel
theorem dX7_act_33 : decode cX7_act 33 = .ok (.ireturn, 1) := by decide +kernel
theorem dX7_act_34 : decode cX7_act 34 = .ok (.iload_n 1, 1) := by decide +kernel
theorem dX7_act_35 : decode cX7_act 35 = .ok (.iconst 1, 1) := by decide +kernel
theorem dX7_act_36 : decode cX7_act 36 = .ok (.if_icmp .ne 13, 3) := by decide +kernel
theorem dX7_act_39 : decode cX7_act 39 = .ok (.iload 4, 2) := by decide +kernel
theorem dX7_act_41 : decode cX7_act 41 = .ok (.invokestatic 312, 3) := by decide +kernel
theorem dX7_act_44 : decode cX7_act 44 = .ok (.ifCond .ne 5, 3) := by decide +kernel
theorem dX7_act_47 : decode cX7_act 47 = .ok (.iconst (-1), 1) := by decide +kernel
theorem dX7_act_48 : decode cX7_act 48 = .ok (.ireturn, 1) := by decide +kernel
theorem dX7_act_49 : decode cX7_act 49 = .ok (.aload_n 0, 1) := by decide +kernel
theorem dX7_act_50 : decode cX7_act 50 = .ok (.getfield 81, 3) := by decide +kernel
theorem dX7_act_53 : decode cX7_act 53 = .ok (.iload_n 1, 1) := by decide +kernel
theorem dX7_act_54 : decode cX7_act 54 = .ok (.iload_n 2, 1) := by decide +kernel
theorem dX7_act_55 : decode cX7_act 55 = .ok (.iload_n 3, 1) := by decide +kernel
theorem dX7_act_56 : decode cX7_act 56 = .ok (.iload 4, 2) := by decide +kernel
theorem dX7_act_58 : decode cX7_act 58 = .ok (.invokevirtual 315, 3) := by decide +kernel
theorem dX7_act_61 : decode cX7_act 61 = .ok (.ifCond .eq 15, 3) := by decide +kernel
theorem dX7_act_64 : decode cX7_act 64 = .ok (.aload_n 0, 1) := by decide +kernel
theorem dX7_act_65 : decode cX7_act 65 = .ok (.getfield 81, 3) := by decide +kernel
theorem dX7_act_68 : decode cX7_act 68 = .ok (.invokevirtual 150, 3) := by decide +kernel
theorem dX7_act_71 : decode cX7_act 71 = .ok (.iconst 1, 1) := by decide +kernel
theorem dX7_act_72 : decode cX7_act 72 = .ok (.isub, 1) := by decide +kernel
theorem dX7_act_73 : decode cX7_act 73 = .ok (.goto 4, 3) := by decide +kernel
theorem dX7_act_76 : decode cX7_act 76 = .ok (.iconst (-1), 1) := by decide +kernel
theorem dX7_act_77 : decode cX7_act 77 = .ok (.ireturn, 1) := by decide +kernel
set_option maxRecDepth 20000 in
theorem ggX7_scrap_X1_size : GoodIn wsX7_scrap wsX1_size := goodIn_r _ [6, 7, 8, 9, 10, 11, 12, 13, 40, 41, 42, 43, 44, 45, 46, 47] (by decide +kernel) (by decide +kernel)
set_option maxRecDepth 20000 in
theorem gX7_scrap_X1_size : GoodIn wsX7_scrap (wsV RX7 150 RX1 yX1_size wsX1_size) := goodIn_app (goodIn_of _ (by decide +kernel)) ggX7_scrap_X1_size
set_option maxRecDepth 20000 in
theorem ggX7_scrap_X1_empty : GoodIn wsX7_scrap wsX1_empty := goodIn_r _ [17, 7, 18, 19, 20, 21, 22, 23, 11, 24, 13, 40, 41, 42, 43, 44, 45, 46, 47] (by decide +kernel) (by decide +kernel)
set_option maxRecDepth 20000 in
theorem gX7_scrap_X1_empty : GoodIn wsX7_scrap (wsV RX7 318 RX1 yX1_empty wsX1_empty) := goodIn_app (goodIn_of _ (by decide +kernel)) ggX7_scrap_X1_empty
theorem dX7_scrap_0 : decode cX7_scrap 0 = .ok (.aload_n 0, 1) := by decide +kernel
theorem dX7_scrap_1 : decode cX7_scrap 1 = .ok (.getfield 81, 3) := by decide +kernel
theorem dX7_scrap_4 : decode cX7_scrap 4 = .ok (.invokevirtual 150, 3) := by decide +kernel
theorem dX7_scrap_7 : decode cX7_scrap 7 = .ok (.istore_n 1, 1) := by decide +kernel
theorem dX7_scrap_8 : decode cX7_scrap 8 = .ok (.aload_n 0, 1) := by decide +kernel
theorem dX7_scrap_9 : decode cX7_scrap 9 = .ok (.getfield 81, 3) := by decide +kernel
theorem dX7_scrap_12 : decode cX7_scrap 12 = .ok (.invokevirtual 318, 3) := by decide +kernel
theorem dX7_scrap_15 : decode cX7_scrap 15 = .ok (.iload_n 1, 1) := by decide +kernel
theorem dX7_scrap_16 : decode cX7_scrap 16 = .ok (.ireturn, 1) := by decide +kernel
set_option maxRecDepth 20000 in
theorem ggX7_go_X1_size : GoodIn wsX7_go wsX1_size := goodIn_r _ [7, 8, 9, 10, 11, 12, 13, 14, 106, 107, 108, 109, 110, 111, 112, 113] (by decide +kernel) (by decide +kernel)
set_option maxRecDepth 20000 in
theorem gX7_go_X1_size : GoodIn wsX7_go (wsV RX7 150 RX1 yX1_size wsX1_size) := goodIn_app (goodIn_of _ (by decide +kernel)) ggX7_go_X1_size
set_option maxRecDepth 20000 in
theorem ggX7_go_X7_areHeaps : GoodIn wsX7_go wsX7_areHeaps := goodIn_r _ [18, 19, 20, 17, 21] (by decide +kernel) (by decide +kernel)
set_option maxRecDepth 20000 in
theorem gX7_go_X7_areHeaps : GoodIn wsX7_go (va_wsS RX7 319 yX7_areHeaps wsX7_areHeaps) := goodIn_app (goodIn_of _ (by decide +kernel)) ggX7_go_X7_areHeaps
set_option maxRecDepth 20000 in
theorem ggX7_go_X7_isStepCount : GoodIn wsX7_go wsX7_isStepCount := goodIn_r _ [24, 25] (by decide +kernel) (by decide +kernel)
set_option maxRecDepth 20000 in
theorem gX7_go_X7_isStepCount : GoodIn wsX7_go (va_wsS RX7 197 yX7_isStepCount wsX7_isStepCount) := goodIn_app (goodIn_of _ (by decide +kernel)) ggX7_go_X7_isStepCount
set_option maxRecDepth 20000 in
theorem ggX7_go_X1_fill : GoodIn wsX7_go wsX1_fill := goodIn_r _ [29, 30, 31, 32, 33, 12, 34, 14, 35, 36, 37, 38, 39, 106, 107, 108, 109, 110, 111, 112, 113] (by decide +kernel) (by decide +kernel)
set_option maxRecDepth 20000 in
theorem gX7_go_X1_fill : GoodIn wsX7_go (wsV RX7 322 RX1 yX1_fill wsX1_fill) := goodIn_app (goodIn_of _ (by decide +kernel)) ggX7_go_X1_fill
set_option maxRecDepth 20000 in
theorem ggX7_go_X1_work : GoodIn wsX7_go wsX1_work := goodIn_r _ [43, 44, 45, 4, 5, 6, 7, 8, 9, 10, 11, 12, 13, 14, 46, 47, 48, 49, 50, 51, 52, 53, 39, 54, 55, 56, 57, 58, 59, 60, 61, 30, 62, 63, 64, 65, 66, 67, 68, 69, 70, 71, 72, 73, 74, 75, 76, 77, 78, 79, 80, 106, 107, 108, 109, 110, 111, 112, 113] (by decide +kernel) (by decide +kernel)
set_option maxRecDepth 20000 in
theorem gX7_go_X1_work : GoodIn wsX7_go (wsV RX7 326 RX1 yX1_work wsX1_work) := goodIn_app (goodIn_of _ (by decide +kernel)) ggX7_go_X1_work
set_option maxRecDepth 20000 in
theorem ggX7_go_X2_empty : GoodIn wsX7_go wsX2_empty := goodIn_r _ [34, 14, 112, 113] (by decide +kernel) (by decide +kernel)
set_option maxRecDepth 20000 in
theorem gX7_go_X2_empty : GoodIn wsX7_go (wsV RX7 208 RX2 yX2_empty wsX2_empty) := goodIn_app (goodIn_of _ (by decide +kernel)) ggX7_go_X2_empty
set_option maxRecDepth 20000 in
theorem ggX7_go_X1_inHeap : GoodIn wsX7_go wsX1_inHeap := goodIn_r _ [85, 30, 50, 51, 52, 12, 53, 39, 54, 55, 56, 57, 14, 106, 107, 108, 109, 110, 111, 112, 113] (by decide +kernel) (by decide +kernel)
set_option maxRecDepth 20000 in
theorem gX7_go_X1_inHeap : GoodIn wsX7_go (wsV RX7 329 RX1 yX1_inHeap wsX1_inHeap) := goodIn_app (goodIn_of _ (by decide +kernel)) ggX7_go_X1_inHeap
set_option maxRecDepth 20000 in
theorem ggX7_go_X2_add : GoodIn wsX7_go wsX2_add := goodIn_r _ [38, 14, 39, 112, 113] (by decide +kernel) (by decide +kernel)
set_option maxRecDepth 20000 in
theorem gX7_go_X2_add : GoodIn wsX7_go (wsV RX7 213 RX2 yX2_add wsX2_add) := goodIn_app (goodIn_of _ (by decide +kernel)) ggX7_go_X2_add
set_option maxRecDepth 20000 in
theorem ggX7_go_X1_done : GoodIn wsX7_go wsX1_done := goodIn_r _ [90, 44, 106, 107, 108, 109, 110, 111] (by decide +kernel) (by decide +kernel)
set_option maxRecDepth 20000 in
theorem gX7_go_X1_done : GoodIn wsX7_go (wsV RX7 332 RX1 yX1_done wsX1_done) := goodIn_app (goodIn_of _ (by decide +kernel)) ggX7_go_X1_done
theorem dX7_go_0 : decode cX7_go 0 = .ok (.aload_n 0, 1) := by decide +kernel
theorem dX7_go_1 : decode cX7_go 1 = .ok (.getfield 81, 3) := by decide +kernel
theorem dX7_go_4 : decode cX7_go 4 = .ok (.invokevirtual 150, 3) := by decide +kernel
theorem dX7_go_7 : decode cX7_go 7 = .ok (.ifCond .eq 22, 3) := by decide +kernel
theorem dX7_go_10 : decode cX7_go 10 = .ok (.iload_n 1, 1) := by decide +kernel
theorem dX7_go_11 : decode cX7_go 11 = .ok (.iload_n 2, 1) := by decide +kernel
theorem dX7_go_12 : decode cX7_go 12 = .ok (.iload_n 3, 1) := by decide +kernel
theorem dX7_go_13 : decode cX7_go 13 = .ok (.iload 4, 2) := by decide +kernel
theorem dX7_go_15 : decode cX7_go 15 = .ok (.invokestatic 319, 3) := by decide +kernel
theorem dX7_go_18 : decode cX7_go 18 = .ok (.ifCond .eq 11, 3) := by decide +kernel
theorem dX7_go_21 : decode cX7_go 21 = .ok (.iload 5, 2) := by decide +kernel
theorem dX7_go_23 : decode cX7_go 23 = .ok (.invokestatic 197, 3) := by decide +kernel
theorem dX7_go_26 : decode cX7_go 26 = .ok (.ifCond .ne 5, 3) := by decide +kernel
theorem dX7_go_29 : decode cX7_go 29 = .ok (.iconst (-1), 1) := by decide +kernel
theorem dX7_go_30 : decode cX7_go 30 = .ok (.ireturn, 1) := by decide +kernel
theorem dX7_go_31 : decode cX7_go 31 = .ok (.aload_n 0, 1) := by decide +kernel
theorem dX7_go_32 : decode cX7_go 32 = .ok (.getfield 81, 3) := by decide +kernel
theorem dX7_go_35 : decode cX7_go 35 = .ok (.iload_n 1, 1) := by decide +kernel
theorem dX7_go_36 : decode cX7_go 36 = .ok (.iload_n 2, 1) := by decide +kernel
theorem dX7_go_37 : decode cX7_go 37 = .ok (.iload_n 3, 1) := by decide +kernel
theorem dX7_go_38 : decode cX7_go 38 = .ok (.iload 4, 2) := by decide +kernel
theorem dX7_go_40 : decode cX7_go 40 = .ok (.invokevirtual 322, 3) := by decide +kernel
theorem dX7_go_43 : decode cX7_go 43 = .ok (.aload_n 0, 1) := by decide +kernel
theorem dX7_go_44 : decode cX7_go 44 = .ok (.getfield 81, 3) := by decide +kernel
theorem dX7_go_47 : decode cX7_go 47 = .ok (.iload 5, 2) := by decide +kernel
theorem dX7_go_49 : decode cX7_go 49 = .ok (.invokevirtual 326, 3) := by decide +kernel
theorem dX7_go_52 : decode cX7_go 52 = .ok (.istore 6, 2) := by decide +kernel
theorem dX7_go_54 : decode cX7_go 54 = .ok (.aload_n 0, 1) := by decide +kernel
theorem dX7_go_55 : decode cX7_go 55 = .ok (.getfield 45, 3) := by decide +kernel
theorem dX7_go_58 : decode cX7_go 58 = .ok (.invokevirtual 208, 3) := by decide +kernel
theorem dX7_go_61 : decode cX7_go 61 = .ok (.iconst 0, 1) := by decide +kernel
theorem dX7_go_62 : decode cX7_go 62 = .ok (.istore 7, 2) := by decide +kernel
theorem dX7_go_64 : decode cX7_go 64 = .ok (.iload 7, 2) := by decide +kernel
theorem dX7_go_66 : decode cX7_go 66 = .ok (.iconst 4, 1) := by decide +kernel
theorem dX7_go_67 : decode cX7_go 67 = .ok (.if_icmp .ge 26, 3) := by decide +kernel
theorem dX7_go_70 : decode cX7_go 70 = .ok (.aload_n 0, 1) := by decide +kernel
theorem dX7_go_71 : decode cX7_go 71 = .ok (.getfield 45, 3) := by decide +kernel
theorem dX7_go_74 : decode cX7_go 74 = .ok (.aload_n 0, 1) := by decide +kernel
theorem dX7_go_75 : decode cX7_go 75 = .ok (.getfield 81, 3) := by decide +kernel
theorem dX7_go_78 : decode cX7_go 78 = .ok (.iload 7, 2) := by decide +kernel
theorem dX7_go_80 : decode cX7_go 80 = .ok (.invokevirtual 329, 3) := by decide +kernel
theorem dX7_go_83 : decode cX7_go 83 = .ok (.invokevirtual 213, 3) := by decide +kernel
theorem dX7_go_86 : decode cX7_go 86 = .ok (.pop, 1) := by decide +kernel
theorem dX7_go_87 : decode cX7_go 87 = .ok (.iinc 7 1, 3) := by decide +kernel
theorem dX7_go_90 : decode cX7_go 90 = .ok (.goto (-26), 3) := by decide +kernel
theorem dX7_go_93 : decode cX7_go 93 = .ok (.aload_n 0, 1) := by decide +kernel
theorem dX7_go_94 : decode cX7_go 94 = .ok (.getfield 45, 3) := by decide +kernel
theorem dX7_go_97 : decode cX7_go 97 = .ok (.aload_n 0, 1) := by decide +kernel
theorem dX7_go_98 : decode cX7_go 98 = .ok (.getfield 81, 3) := by decide +kernel
theorem dX7_go_101 : decode cX7_go 101 = .ok (.invokevirtual 332, 3) := by decide +kernel
theorem dX7_go_104 : decode cX7_go 104 = .ok (.i2l, 1) := by decide +kernel
theorem dX7_go_105 : decode cX7_go 105 = .ok (.invokevirtual 213, 3) := by decide +kernel
theorem dX7_go_108 : decode cX7_go 108 = .ok (.pop, 1) := by decide +kernel
theorem dX7_go_109 : decode cX7_go 109 = .ok (.iload 6, 2) := by decide +kernel
theorem dX7_go_111 : decode cX7_go 111 = .ok (.ireturn, 1) := by decide +kernel
set_option maxRecDepth 20000 in
theorem ggX7_made_X1_size : GoodIn wsX7_made wsX1_size := goodIn_r _ [8, 9, 10, 11, 12, 13, 14, 15, 105, 106, 107, 108, 109, 110, 111, 112] (by decide +kernel) (by decide +kernel)
set_option maxRecDepth 20000 in
theorem gX7_made_X1_size : GoodIn wsX7_made (wsV RX7 150 RX1 yX1_size wsX1_size) := goodIn_app (goodIn_of _ (by decide +kernel)) ggX7_made_X1_size
set_option maxRecDepth 20000 in
theorem ggX7_made_X1_fractionsNeeded : GoodIn wsX7_made wsX1_fractionsNeeded := goodIn_r _ [19, 20, 5, 6, 7, 8, 9, 10, 11, 12, 13, 14, 15, 21, 22, 23, 24, 25, 26, 27, 28, 29, 30, 31, 32, 33, 105, 106, 107, 108, 109, 110, 111, 112] (by decide +kernel) (by decide +kernel)
set_option maxRecDepth 20000 in
theorem gX7_made_X1_fractionsNeeded : GoodIn wsX7_made (wsV RX7 335 RX1 yX1_fractionsNeeded wsX1_fractionsNeeded) := goodIn_app (goodIn_of _ (by decide +kernel)) ggX7_made_X1_fractionsNeeded
set_option maxRecDepth 20000 in
theorem ggX7_made_X0_empty : GoodIn wsX7_made wsX0_empty := goodIn_r _ [38, 39, 113, 114, 115] (by decide +kernel) (by decide +kernel)
set_option maxRecDepth 20000 in
theorem gX7_made_X0_empty : GoodIn wsX7_made (wsV RX7 137 RX0 yX0_empty wsX0_empty) := goodIn_app (goodIn_of _ (by decide +kernel)) ggX7_made_X0_empty
set_option maxRecDepth 20000 in
theorem ggX7_made_X7_addFractionsOfAct : GoodIn wsX7_made wsX7_addFractionsOfAct := goodIn_ca (goodIn_r _ [44, 1, 2, 45, 46, 47, 7, 48, 49, 25, 26, 27, 13, 28, 29, 30, 31, 32, 33, 15, 50, 51, 43, 52, 53, 54, 55, 56, 57, 58, 59, 60, 61, 62, 63, 64, 65, 22, 23, 24, 9, 66, 67, 68, 69, 70, 71, 37, 72, 39, 73, 74, 75, 76, 77, 78, 79, 80, 81, 82, 83, 84, 85, 90, 91, 92, 93, 94, 95, 96, 97, 98, 99, 100, 101, 102, 103, 104, 105, 106, 107, 108, 109, 110, 111, 112, 113, 114, 115] (by decide +kernel) (by decide +kernel)) (goodIn_sub (fun _ h => List.mem_cons_of_mem _ (List.mem_append_right _ h)) (by decide +kernel))
set_option maxRecDepth 20000 in
theorem gX7_made_X7_addFractionsOfAct : GoodIn wsX7_made (wsV RX7 338 RX7 yX7_addFractionsOfAct wsX7_addFractionsOfAct) := goodIn_app (goodIn_of _ (by decide +kernel)) ggX7_made_X7_addFractionsOfAct
set_option maxRecDepth 20000 in
theorem ggX7_made_X7_goPrime : GoodIn wsX7_made wsX7_goPrime := goodIn_r _ [68, 53, 54, 43, 55, 56] (by decide +kernel) (by decide +kernel)
set_option maxRecDepth 20000 in
theorem gX7_made_X7_goPrime : GoodIn wsX7_made (va_wsS RX7 341 yX7_goPrime wsX7_goPrime) := goodIn_app (goodIn_of _ (by decide +kernel)) ggX7_made_X7_goPrime
set_option maxRecDepth 20000 in
theorem ggX7_made_X7_waitPrime : GoodIn wsX7_made wsX7_waitPrime := goodIn_r _ [52, 53, 54, 43, 55, 56] (by decide +kernel) (by decide +kernel)
set_option maxRecDepth 20000 in
theorem gX7_made_X7_waitPrime : GoodIn wsX7_made (va_wsS RX7 344 yX7_waitPrime wsX7_waitPrime) := goodIn_app (goodIn_of _ (by decide +kernel)) ggX7_made_X7_waitPrime
set_option maxRecDepth 20000 in
theorem ggX7_made_X0_add : GoodIn wsX7_made wsX0_add := goodIn_ca (goodIn_r _ [72, 39, 73, 74, 75, 43, 76, 77, 78, 79, 80, 113, 114, 115] (by decide +kernel) (by decide +kernel)) (goodIn_sub (fun _ h => List.mem_cons_of_mem _ (List.mem_append_right _ h)) (by decide +kernel))
set_option maxRecDepth 20000 in
theorem gX7_made_X0_add : GoodIn wsX7_made (wsV RX7 142 RX0 yX0_add wsX0_add) := goodIn_app (goodIn_of _ (by decide +kernel)) ggX7_made_X0_add
set_option maxRecDepth 20000 in
theorem ggX7_made_X0_size : GoodIn wsX7_made wsX0_size := goodIn_r _ [89, 39, 113, 114, 115] (by decide +kernel) (by decide +kernel)
set_option maxRecDepth 20000 in
theorem gX7_made_X0_size : GoodIn wsX7_made (wsV RX7 146 RX0 yX0_size wsX0_size) := goodIn_app (goodIn_of _ (by decide +kernel)) ggX7_made_X0_size
theorem dX7_made_0 : decode cX7_made 0 = .ok (.aload_n 0, 1) := by decide +kernel
theorem dX7_made_1 : decode cX7_made 1 = .ok (.getfield 81, 3) := by decide +kernel
theorem dX7_made_4 : decode cX7_made 4 = .ok (.invokevirtual 150, 3) := by decide +kernel
theorem dX7_made_7 : decode cX7_made 7 = .ok (.ifCond .eq 15, 3) := by decide +kernel
theorem dX7_made_10 : decode cX7_made 10 = .ok (.aload_n 0, 1) := by decide +kernel
theorem dX7_made_11 : decode cX7_made 11 = .ok (.getfield 81, 3) := by decide +kernel
theorem dX7_made_14 : decode cX7_made 14 = .ok (.invokevirtual 335, 3) := by decide +kernel
theorem dX7_made_17 : decode cX7_made 17 = .ok (.bipush 40, 2) := by decide +kernel
theorem dX7_made_19 : decode cX7_made 19 = .ok (.if_icmp .le 5, 3) := by decide +kernel
theorem dX7_made_22 : decode cX7_made 22 = .ok (.iconst (-1), 1) := by decide +kernel
theorem dX7_made_23 : decode cX7_made 23 = .ok (.ireturn, 1) := by decide +kernel
theorem dX7_made_24 : decode cX7_made 24 = .ok (.aload_n 0, 1) := by decide +kernel
theorem dX7_made_25 : decode cX7_made 25 = .ok (.getfield 29, 3) := by decide +kernel
theorem dX7_made_28 : decode cX7_made 28 = .ok (.invokevirtual 137, 3) := by decide +kernel
theorem dX7_made_31 : decode cX7_made 31 = .ok (.iconst 0, 1) := by decide +kernel
theorem dX7_made_32 : decode cX7_made 32 = .ok (.istore_n 1, 1) := by decide +kernel
theorem dX7_made_33 : decode cX7_made 33 = .ok (.iload_n 1, 1) := by decide +kernel
theorem dX7_made_34 : decode cX7_made 34 = .ok (.aload_n 0, 1) := by decide +kernel
theorem dX7_made_35 : decode cX7_made 35 = .ok (.getfield 81, 3) := by decide +kernel
theorem dX7_made_38 : decode cX7_made 38 = .ok (.invokevirtual 150, 3) := by decide +kernel
theorem dX7_made_41 : decode cX7_made 41 = .ok (.if_icmp .ge 14, 3) := by decide +kernel
theorem dX7_made_44 : decode cX7_made 44 = .ok (.aload_n 0, 1) := by decide +kernel
theorem dX7_made_45 : decode cX7_made 45 = .ok (.iload_n 1, 1) := by decide +kernel
theorem dX7_made_46 : decode cX7_made 46 = .ok (.invokevirtual 338, 3) := by decide +kernel
theorem dX7_made_49 : decode cX7_made 49 = .ok (.iinc 1 1, 3) := by decide +kernel
theorem dX7_made_52 : decode cX7_made 52 = .ok (.goto (-19), 3) := by decide +kernel
theorem dX7_made_55 : decode cX7_made 55 = .ok (.iconst 0, 1) := by decide +kernel
theorem dX7_made_56 : decode cX7_made 56 = .ok (.istore_n 1, 1) := by decide +kernel
theorem dX7_made_57 : decode cX7_made 57 = .ok (.iload_n 1, 1) := by decide +kernel
theorem dX7_made_58 : decode cX7_made 58 = .ok (.aload_n 0, 1) := by decide +kernel
theorem dX7_made_59 : decode cX7_made 59 = .ok (.getfield 81, 3) := by decide +kernel
theorem dX7_made_62 : decode cX7_made 62 = .ok (.invokevirtual 150, 3) := by decide +kernel
theorem dX7_made_65 : decode cX7_made 65 = .ok (.if_icmp .ge 25, 3) := by decide +kernel
theorem dX7_made_68 : decode cX7_made 68 = .ok (.aload_n 0, 1) := by decide +kernel
theorem dX7_made_69 : decode cX7_made 69 = .ok (.getfield 29, 3) := by decide +kernel
theorem dX7_made_72 : decode cX7_made 72 = .ok (.iload_n 1, 1) := by decide +kernel
theorem dX7_made_73 : decode cX7_made 73 = .ok (.invokestatic 341, 3) := by decide +kernel
theorem dX7_made_76 : decode cX7_made 76 = .ok (.iload_n 1, 1) := by decide +kernel
theorem dX7_made_77 : decode cX7_made 77 = .ok (.invokestatic 344, 3) := by decide +kernel
theorem dX7_made_80 : decode cX7_made 80 = .ok (.invokevirtual 142, 3) := by decide +kernel
theorem dX7_made_83 : decode cX7_made 83 = .ok (.pop, 1) := by decide +kernel
theorem dX7_made_84 : decode cX7_made 84 = .ok (.iinc 1 1, 3) := by decide +kernel
theorem dX7_made_87 : decode cX7_made 87 = .ok (.goto (-30), 3) := by decide +kernel
theorem dX7_made_90 : decode cX7_made 90 = .ok (.aload_n 0, 1) := by decide +kernel
theorem dX7_made_91 : decode cX7_made 91 = .ok (.iconst 2, 1) := by decide +kernel
theorem dX7_made_92 : decode cX7_made 92 = .ok (.putfield 9, 3) := by decide +kernel
theorem dX7_made_95 : decode cX7_made 95 = .ok (.aload_n 0, 1) := by decide +kernel
theorem dX7_made_96 : decode cX7_made 96 = .ok (.getfield 29, 3) := by decide +kernel
theorem dX7_made_99 : decode cX7_made 99 = .ok (.invokevirtual 146, 3) := by decide +kernel
theorem dX7_made_102 : decode cX7_made 102 = .ok (.ireturn, 1) := by decide +kernel
set_option maxRecDepth 20000 in
theorem ggX7_begins_X7_areHeaps : GoodIn wsX7_begins wsX7_areHeaps := goodIn_r _ [8, 9, 10, 7, 11] (by decide +kernel) (by decide +kernel)
set_option maxRecDepth 20000 in
theorem gX7_begins_X7_areHeaps : GoodIn wsX7_begins (va_wsS RX7 319 yX7_areHeaps wsX7_areHeaps) := goodIn_app (goodIn_of _ (by decide +kernel)) ggX7_begins_X7_areHeaps
set_option maxRecDepth 20000 in
theorem ggX7_begins_X7_goPrime : GoodIn wsX7_begins wsX7_goPrime := goodIn_r _ [14, 15, 16, 7, 17, 18] (by decide +kernel) (by decide +kernel)
set_option maxRecDepth 20000 in
theorem gX7_begins_X7_goPrime : GoodIn wsX7_begins (va_wsS RX7 341 yX7_goPrime wsX7_goPrime) := goodIn_app (goodIn_of _ (by decide +kernel)) ggX7_begins_X7_goPrime
set_option maxRecDepth 20000 in
theorem ggX7_begins_X7_heapPrime : GoodIn wsX7_begins wsX7_heapPrime := goodIn_r _ [21, 15, 16, 7, 17, 18] (by decide +kernel) (by decide +kernel)
set_option maxRecDepth 20000 in
theorem gX7_begins_X7_heapPrime : GoodIn wsX7_begins (va_wsS RX7 352 yX7_heapPrime wsX7_heapPrime) := goodIn_app (goodIn_of _ (by decide +kernel)) ggX7_begins_X7_heapPrime
set_option maxRecDepth 20000 in
theorem ggX7_begins_X7_timesPower : GoodIn wsX7_begins wsX7_timesPower := goodIn_r _ [24, 25, 26, 27, 7, 28, 29, 30] (by decide +kernel) (by decide +kernel)
set_option maxRecDepth 20000 in
theorem gX7_begins_X7_timesPower : GoodIn wsX7_begins (va_wsS RX7 355 yX7_timesPower wsX7_timesPower) := goodIn_app (goodIn_of _ (by decide +kernel)) ggX7_begins_X7_timesPower
set_option maxRecDepth 20000 in
theorem ggX7_begins_X7_isNumber : GoodIn wsX7_begins wsX7_isNumber := goodIn_r _ [28, 29, 30] (by decide +kernel) (by decide +kernel)
set_option maxRecDepth 20000 in
theorem gX7_begins_X7_isNumber : GoodIn wsX7_begins (va_wsS RX7 178 yX7_isNumber wsX7_isNumber) := goodIn_app (goodIn_of _ (by decide +kernel)) ggX7_begins_X7_isNumber
theorem dX7_begins_0 : decode cX7_begins 0 = .ok (.iload_n 1, 1) := by decide +kernel
theorem dX7_begins_1 : decode cX7_begins 1 = .ok (.iload_n 2, 1) := by decide +kernel
theorem dX7_begins_2 : decode cX7_begins 2 = .ok (.iload_n 3, 1) := by decide +kernel
theorem dX7_begins_3 : decode cX7_begins 3 = .ok (.iload 4, 2) := by decide +kernel
theorem dX7_begins_5 : decode cX7_begins 5 = .ok (.invokestatic 319, 3) := by decide +kernel
theorem dX7_begins_8 : decode cX7_begins 8 = .ok (.ifCond .ne 14, 3) := by decide +kernel
theorem dX7_begins_11 : decode cX7_begins 11 = .ok (.new 347, 3) := by decide +kernel
theorem dX7_begins_14 : decode cX7_begins 14 = .ok (.dup, 1) := by decide +kernel
theorem dX7_begins_15 : decode cX7_begins 15 = .ok (.ldc_w 349, 3) := by decide +kernel
theorem dX7_begins_18 : decode cX7_begins 18 = .ok (.invokespecial 351, 3) := by decide +kernel
theorem dX7_begins_21 : decode cX7_begins 21 = .ok (.athrow, 1) := by decide +kernel
theorem dX7_begins_22 : decode cX7_begins 22 = .ok (.iconst 0, 1) := by decide +kernel
theorem dX7_begins_23 : decode cX7_begins 23 = .ok (.invokestatic 341, 3) := by decide +kernel
theorem dX7_begins_26 : decode cX7_begins 26 = .ok (.iconst 0, 1) := by decide +kernel
theorem dX7_begins_27 : decode cX7_begins 27 = .ok (.invokestatic 352, 3) := by decide +kernel
theorem dX7_begins_30 : decode cX7_begins 30 = .ok (.iload_n 1, 1) := by decide +kernel
theorem dX7_begins_31 : decode cX7_begins 31 = .ok (.invokestatic 355, 3) := by decide +kernel
theorem dX7_begins_34 : decode cX7_begins 34 = .ok (.lstore 5, 2) := by decide +kernel
theorem dX7_begins_36 : decode cX7_begins 36 = .ok (.lload 5, 2) := by decide +kernel
theorem dX7_begins_38 : decode cX7_begins 38 = .ok (.iconst 1, 1) := by decide +kernel
theorem dX7_begins_39 : decode cX7_begins 39 = .ok (.invokestatic 352, 3) := by decide +kernel
theorem dX7_begins_42 : decode cX7_begins 42 = .ok (.iload_n 2, 1) := by decide +kernel
theorem dX7_begins_43 : decode cX7_begins 43 = .ok (.invokestatic 355, 3) := by decide +kernel
theorem dX7_begins_46 : decode cX7_begins 46 = .ok (.lstore 5, 2) := by decide +kernel
theorem dX7_begins_48 : decode cX7_begins 48 = .ok (.lload 5, 2) := by decide +kernel
theorem dX7_begins_50 : decode cX7_begins 50 = .ok (.iconst 2, 1) := by decide +kernel
theorem dX7_begins_51 : decode cX7_begins 51 = .ok (.invokestatic 352, 3) := by decide +kernel
theorem dX7_begins_54 : decode cX7_begins 54 = .ok (.iload_n 3, 1) := by decide +kernel
theorem dX7_begins_55 : decode cX7_begins 55 = .ok (.invokestatic 355, 3) := by decide +kernel
theorem dX7_begins_58 : decode cX7_begins 58 = .ok (.lstore 5, 2) := by decide +kernel
theorem dX7_begins_60 : decode cX7_begins 60 = .ok (.lload 5, 2) := by decide +kernel
theorem dX7_begins_62 : decode cX7_begins 62 = .ok (.iconst 3, 1) := by decide +kernel
theorem dX7_begins_63 : decode cX7_begins 63 = .ok (.invokestatic 352, 3) := by decide +kernel
theorem dX7_begins_66 : decode cX7_begins 66 = .ok (.iload 4, 2) := by decide +kernel
theorem dX7_begins_68 : decode cX7_begins 68 = .ok (.invokestatic 355, 3) := by decide +kernel
theorem dX7_begins_71 : decode cX7_begins 71 = .ok (.lstore 5, 2) := by decide +kernel
theorem dX7_begins_73 : decode cX7_begins 73 = .ok (.lload 5, 2) := by decide +kernel
theorem dX7_begins_75 : decode cX7_begins 75 = .ok (.invokestatic 178, 3) := by decide +kernel
theorem dX7_begins_78 : decode cX7_begins 78 = .ok (.ifCond .ne 13, 3) := by decide +kernel
theorem dX7_begins_81 : decode cX7_begins 81 = .ok (.new 192, 3) := by decide +kernel
theorem dX7_begins_84 : decode cX7_begins 84 = .ok (.dup, 1) := by decide +kernel
theorem dX7_begins_85 : decode cX7_begins 85 = .ok (.ldc 194, 2) := by decide +kernel
theorem dX7_begins_87 : decode cX7_begins 87 = .ok (.invokespecial 196, 3) := by decide +kernel
theorem dX7_begins_90 : decode cX7_begins 90 = .ok (.athrow, 1) := by decide +kernel
theorem dX7_begins_91 : decode cX7_begins 91 = .ok (.lload 5, 2) := by decide +kernel
theorem dX7_begins_93 : decode cX7_begins 93 = .ok (.lreturn, 1) := by decide +kernel
set_option maxRecDepth 20000 in
theorem ggX7_law_X0_size : GoodIn wsX7_law wsX0_size := goodIn_r _ [7, 8, 63, 64, 65] (by decide +kernel) (by decide +kernel)
set_option maxRecDepth 20000 in
theorem gX7_law_X0_size : GoodIn wsX7_law (wsV RX7 146 RX0 yX0_size wsX0_size) := goodIn_app (goodIn_of _ (by decide +kernel)) ggX7_law_X0_size
set_option maxRecDepth 20000 in
theorem ggX7_law_X0_isEverFirst : GoodIn wsX7_law wsX0_isEverFirst := goodIn_ca (goodIn_r _ [12, 13, 14, 15, 6, 16, 17, 18, 19, 20, 21, 8, 22, 23, 24, 25, 63, 64, 65] (by decide +kernel) (by decide +kernel)) (goodIn_sub (fun _ h => List.mem_cons_of_mem _ (List.mem_append_right _ h)) (by decide +kernel))
set_option maxRecDepth 20000 in
theorem gX7_law_X0_isEverFirst : GoodIn wsX7_law (wsV RX7 359 RX0 yX0_isEverFirst wsX0_isEverFirst) := goodIn_app (goodIn_of _ (by decide +kernel)) ggX7_law_X0_isEverFirst
set_option maxRecDepth 20000 in
theorem ggX7_law_X0_over : GoodIn wsX7_law wsX0_over := goodIn_r _ [29, 30, 18, 19, 20, 6, 21, 8, 63, 64, 65] (by decide +kernel) (by decide +kernel)
set_option maxRecDepth 20000 in
theorem gX7_law_X0_over : GoodIn wsX7_law (wsV RX7 159 RX0 yX0_over wsX0_over) := goodIn_app (goodIn_of _ (by decide +kernel)) ggX7_law_X0_over
set_option maxRecDepth 20000 in
theorem ggX7_law_X7_weight : GoodIn wsX7_law wsX7_weight := goodIn_ca (goodIn_r _ [34, 35, 36, 37, 38, 33, 39, 40, 41, 42, 43, 44, 45, 46] (by decide +kernel) (by decide +kernel)) (goodIn_sub (fun _ h => List.mem_cons_of_mem _ (List.mem_append_right _ h)) (by decide +kernel))
set_option maxRecDepth 20000 in
theorem gX7_law_X7_weight : GoodIn wsX7_law (va_wsS RX7 362 yX7_weight wsX7_weight) := goodIn_app (goodIn_of _ (by decide +kernel)) ggX7_law_X7_weight
set_option maxRecDepth 20000 in
theorem ggX7_law_X0_under : GoodIn wsX7_law wsX0_under := goodIn_r _ [16, 17, 18, 19, 20, 6, 21, 8, 63, 64, 65] (by decide +kernel) (by decide +kernel)
set_option maxRecDepth 20000 in
theorem gX7_law_X0_under : GoodIn wsX7_law (wsV RX7 162 RX0 yX0_under wsX0_under) := goodIn_app (goodIn_of _ (by decide +kernel)) ggX7_law_X0_under
theorem dX7_law_0 : decode cX7_law 0 = .ok (.aload_n 0, 1) := by decide +kernel
theorem dX7_law_1 : decode cX7_law 1 = .ok (.getfield 9, 3) := by decide +kernel
theorem dX7_law_4 : decode cX7_law 4 = .ok (.iconst 2, 1) := by decide +kernel
theorem dX7_law_5 : decode cX7_law 5 = .ok (.if_icmp .eq 6, 3) := by decide +kernel
theorem dX7_law_8 : decode cX7_law 8 = .ok (.bipush (-2), 2) := by decide +kernel
theorem dX7_law_10 : decode cX7_law 10 = .ok (.ireturn, 1) := by decide +kernel
theorem dX7_law_11 : decode cX7_law 11 = .ok (.iconst 0, 1) := by decide +kernel
theorem dX7_law_12 : decode cX7_law 12 = .ok (.istore 6, 2) := by decide +kernel
theorem dX7_law_14 : decode cX7_law 14 = .ok (.iload 6, 2) := by decide +kernel
theorem dX7_law_16 : decode cX7_law 16 = .ok (.aload_n 0, 1) := by decide +kernel
theorem dX7_law_17 : decode cX7_law 17 = .ok (.getfield 29, 3) := by decide +kernel
theorem dX7_law_20 : decode cX7_law 20 = .ok (.invokevirtual 146, 3) := by decide +kernel
theorem dX7_law_23 : decode cX7_law 23 = .ok (.if_icmp .ge 66, 3) := by decide +kernel
theorem dX7_law_26 : decode cX7_law 26 = .ok (.aload_n 0, 1) := by decide +kernel
theorem dX7_law_27 : decode cX7_law 27 = .ok (.getfield 29, 3) := by decide +kernel
theorem dX7_law_30 : decode cX7_law 30 = .ok (.iload 6, 2) := by decide +kernel
theorem dX7_law_32 : decode cX7_law 32 = .ok (.invokevirtual 359, 3) := by decide +kernel
theorem dX7_law_35 : decode cX7_law 35 = .ok (.ifCond .eq 48, 3) := by decide +kernel
theorem dX7_law_38 : decode cX7_law 38 = .ok (.aload_n 0, 1) := by decide +kernel
theorem dX7_law_39 : decode cX7_law 39 = .ok (.getfield 29, 3) := by decide +kernel
theorem dX7_law_42 : decode cX7_law 42 = .ok (.iload 6, 2) := by decide +kernel
theorem dX7_law_44 : decode cX7_law 44 = .ok (.invokevirtual 159, 3) := by decide +kernel
theorem dX7_law_47 : decode cX7_law 47 = .ok (.iload_n 1, 1) := by decide +kernel
theorem dX7_law_48 : decode cX7_law 48 = .ok (.iload_n 2, 1) := by decide +kernel
theorem dX7_law_49 : decode cX7_law 49 = .ok (.iload_n 3, 1) := by decide +kernel
theorem dX7_law_50 : decode cX7_law 50 = .ok (.iload 4, 2) := by decide +kernel
theorem dX7_law_52 : decode cX7_law 52 = .ok (.iload 5, 2) := by decide +kernel
theorem dX7_law_54 : decode cX7_law 54 = .ok (.invokestatic 362, 3) := by decide +kernel
theorem dX7_law_57 : decode cX7_law 57 = .ok (.aload_n 0, 1) := by decide +kernel
theorem dX7_law_58 : decode cX7_law 58 = .ok (.getfield 29, 3) := by decide +kernel
theorem dX7_law_61 : decode cX7_law 61 = .ok (.iload 6, 2) := by decide +kernel
theorem dX7_law_63 : decode cX7_law 63 = .ok (.invokevirtual 162, 3) := by decide +kernel
theorem dX7_law_66 : decode cX7_law 66 = .ok (.iload_n 1, 1) := by decide +kernel
theorem dX7_law_67 : decode cX7_law 67 = .ok (.iload_n 2, 1) := by decide +kernel
theorem dX7_law_68 : decode cX7_law 68 = .ok (.iload_n 3, 1) := by decide +kernel
theorem dX7_law_69 : decode cX7_law 69 = .ok (.iload 4, 2) := by decide +kernel
theorem dX7_law_71 : decode cX7_law 71 = .ok (.iload 5, 2) := by decide +kernel
theorem dX7_law_73 : decode cX7_law 73 = .ok (.invokestatic 362, 3) := by decide +kernel
theorem dX7_law_76 : decode cX7_law 76 = .ok (.lcmp, 1) := by decide +kernel
theorem dX7_law_77 : decode cX7_law 77 = .ok (.ifCond .eq 6, 3) := by decide +kernel
theorem dX7_law_80 : decode cX7_law 80 = .ok (.iload 6, 2) := by decide +kernel
theorem dX7_law_82 : decode cX7_law 82 = .ok (.ireturn, 1) := by decide +kernel
theorem dX7_law_83 : decode cX7_law 83 = .ok (.iinc 6 1, 3) := by decide +kernel
theorem dX7_law_86 : decode cX7_law 86 = .ok (.goto (-72), 3) := by decide +kernel
theorem dX7_law_89 : decode cX7_law 89 = .ok (.iconst (-1), 1) := by decide +kernel
theorem dX7_law_90 : decode cX7_law 90 = .ok (.ireturn, 1) := by decide +kernel
set_option maxRecDepth 20000 in
theorem ggX7_row_X2_has : GoodIn wsX7_row wsX2_has := goodIn_r _ [8, 9, 10, 31, 32] (by decide +kernel) (by decide +kernel)
set_option maxRecDepth 20000 in
theorem gX7_row_X2_has : GoodIn wsX7_row (wsV RX7 366 RX2 yX2_has wsX2_has) := goodIn_app (goodIn_of _ (by decide +kernel)) ggX7_row_X2_has
set_option maxRecDepth 20000 in
theorem ggX7_row_X2_at : GoodIn wsX7_row wsX2_at := goodIn_r _ [14, 10, 15, 5, 6, 7, 8, 9, 31, 32] (by decide +kernel) (by decide +kernel)
set_option maxRecDepth 20000 in
theorem gX7_row_X2_at : GoodIn wsX7_row (wsV RX7 369 RX2 yX2_at wsX2_at) := goodIn_app (goodIn_of _ (by decide +kernel)) ggX7_row_X2_at
theorem dX7_row_0 : decode cX7_row 0 = .ok (.aload_n 0, 1) := by decide +kernel
theorem dX7_row_1 : decode cX7_row 1 = .ok (.getfield 45, 3) := by decide +kernel
theorem dX7_row_4 : decode cX7_row 4 = .ok (.iload_n 1, 1) := by decide +kernel
theorem dX7_row_5 : decode cX7_row 5 = .ok (.invokevirtual 366, 3) := by decide +kernel
theorem dX7_row_8 : decode cX7_row 8 = .ok (.ifCond .ne 14, 3) := by decide +kernel
theorem dX7_row_11 : decode cX7_row 11 = .ok (.new 165, 3) := by decide +kernel
theorem dX7_row_14 : decode cX7_row 14 = .ok (.dup, 1) := by decide +kernel
theorem dX7_row_15 : decode cX7_row 15 = .ok (.ldc_w 367, 3) := by decide +kernel
theorem dX7_row_18 : decode cX7_row 18 = .ok (.invokespecial 169, 3) := by decide +kernel
theorem dX7_row_21 : decode cX7_row 21 = .ok (.athrow, 1) := by decide +kernel
theorem dX7_row_22 : decode cX7_row 22 = .ok (.aload_n 0, 1) := by decide +kernel
theorem dX7_row_23 : decode cX7_row 23 = .ok (.getfield 45, 3) := by decide +kernel
theorem dX7_row_26 : decode cX7_row 26 = .ok (.iload_n 1, 1) := by decide +kernel
theorem dX7_row_27 : decode cX7_row 27 = .ok (.invokevirtual 369, 3) := by decide +kernel
theorem dX7_row_30 : decode cX7_row 30 = .ok (.lreturn, 1) := by decide +kernel
theorem dX7_isNumber_0 : decode cX7_isNumber 0 = .ok (.lload_n 0, 1) := by decide +kernel
theorem dX7_isNumber_1 : decode cX7_isNumber 1 = .ok (.ldc2_w 372, 3) := by decide +kernel
theorem dX7_isNumber_4 : decode cX7_isNumber 4 = .ok (.lcmp, 1) := by decide +kernel
theorem dX7_isNumber_5 : decode cX7_isNumber 5 = .ok (.ifCond .lt 15, 3) := by decide +kernel
theorem dX7_isNumber_8 : decode cX7_isNumber 8 = .ok (.lload_n 0, 1) := by decide +kernel
theorem dX7_isNumber_9 : decode cX7_isNumber 9 = .ok (.ldc2_w 374, 3) := by decide +kernel
theorem dX7_isNumber_12 : decode cX7_isNumber 12 = .ok (.lcmp, 1) := by decide +kernel
theorem dX7_isNumber_13 : decode cX7_isNumber 13 = .ok (.ifCond .gt 7, 3) := by decide +kernel
theorem dX7_isNumber_16 : decode cX7_isNumber 16 = .ok (.iconst 1, 1) := by decide +kernel
theorem dX7_isNumber_17 : decode cX7_isNumber 17 = .ok (.goto 4, 3) := by decide +kernel
theorem dX7_isNumber_20 : decode cX7_isNumber 20 = .ok (.iconst 0, 1) := by decide +kernel
theorem dX7_isNumber_21 : decode cX7_isNumber 21 = .ok (.ireturn, 1) := by decide +kernel
theorem dX7_isStepCount_0 : decode cX7_isStepCount 0 = .ok (.iload_n 0, 1) := by decide +kernel
theorem dX7_isStepCount_1 : decode cX7_isStepCount 1 = .ok (.ifCond .lt 14, 3) := by decide +kernel
theorem dX7_isStepCount_4 : decode cX7_isStepCount 4 = .ok (.iload_n 0, 1) := by decide +kernel
theorem dX7_isStepCount_5 : decode cX7_isStepCount 5 = .ok (.ldc_w 281, 3) := by decide +kernel
theorem dX7_isStepCount_8 : decode cX7_isStepCount 8 = .ok (.if_icmp .gt 7, 3) := by decide +kernel
theorem dX7_isStepCount_11 : decode cX7_isStepCount 11 = .ok (.iconst 1, 1) := by decide +kernel
theorem dX7_isStepCount_12 : decode cX7_isStepCount 12 = .ok (.goto 4, 3) := by decide +kernel
theorem dX7_isStepCount_15 : decode cX7_isStepCount 15 = .ok (.iconst 0, 1) := by decide +kernel
theorem dX7_isStepCount_16 : decode cX7_isStepCount 16 = .ok (.ireturn, 1) := by decide +kernel
theorem dX7_isActNumber_0 : decode cX7_isActNumber 0 = .ok (.iload_n 0, 1) := by decide +kernel
theorem dX7_isActNumber_1 : decode cX7_isActNumber 1 = .ok (.ifCond .lt 13, 3) := by decide +kernel
theorem dX7_isActNumber_4 : decode cX7_isActNumber 4 = .ok (.iload_n 0, 1) := by decide +kernel
theorem dX7_isActNumber_5 : decode cX7_isActNumber 5 = .ok (.bipush 12, 2) := by decide +kernel
theorem dX7_isActNumber_7 : decode cX7_isActNumber 7 = .ok (.if_icmp .ge 7, 3) := by decide +kernel
theorem dX7_isActNumber_10 : decode cX7_isActNumber 10 = .ok (.iconst 1, 1) := by decide +kernel
theorem dX7_isActNumber_11 : decode cX7_isActNumber 11 = .ok (.goto 4, 3) := by decide +kernel
theorem dX7_isActNumber_14 : decode cX7_isActNumber 14 = .ok (.iconst 0, 1) := by decide +kernel
theorem dX7_isActNumber_15 : decode cX7_isActNumber 15 = .ok (.ireturn, 1) := by decide +kernel
set_option maxRecDepth 20000 in
theorem ggX7_areHeaps_X7_isHeap : GoodIn wsX7_areHeaps wsX7_isHeap := goodIn_r _ [4] (by decide +kernel) (by decide +kernel)
set_option maxRecDepth 20000 in
theorem gX7_areHeaps_X7_isHeap : GoodIn wsX7_areHeaps (va_wsS RX7 376 yX7_isHeap wsX7_isHeap) := goodIn_app (goodIn_of _ (by decide +kernel)) ggX7_areHeaps_X7_isHeap
theorem dX7_areHeaps_0 : decode cX7_areHeaps 0 = .ok (.iload_n 0, 1) := by decide +kernel
theorem dX7_areHeaps_1 : decode cX7_areHeaps 1 = .ok (.invokestatic 376, 3) := by decide +kernel
theorem dX7_areHeaps_4 : decode cX7_areHeaps 4 = .ok (.ifCond .eq 28, 3) := by decide +kernel
theorem dX7_areHeaps_7 : decode cX7_areHeaps 7 = .ok (.iload_n 1, 1) := by decide +kernel
theorem dX7_areHeaps_8 : decode cX7_areHeaps 8 = .ok (.invokestatic 376, 3) := by decide +kernel
theorem dX7_areHeaps_11 : decode cX7_areHeaps 11 = .ok (.ifCond .eq 21, 3) := by decide +kernel
theorem dX7_areHeaps_14 : decode cX7_areHeaps 14 = .ok (.iload_n 2, 1) := by decide +kernel
theorem dX7_areHeaps_15 : decode cX7_areHeaps 15 = .ok (.invokestatic 376, 3) := by decide +kernel
theorem dX7_areHeaps_18 : decode cX7_areHeaps 18 = .ok (.ifCond .eq 14, 3) := by decide +kernel
theorem dX7_areHeaps_21 : decode cX7_areHeaps 21 = .ok (.iload_n 3, 1) := by decide +kernel
theorem dX7_areHeaps_22 : decode cX7_areHeaps 22 = .ok (.invokestatic 376, 3) := by decide +kernel
theorem dX7_areHeaps_25 : decode cX7_areHeaps 25 = .ok (.ifCond .eq 7, 3) := by decide +kernel
theorem dX7_areHeaps_28 : decode cX7_areHeaps 28 = .ok (.iconst 1, 1) := by decide +kernel
theorem dX7_areHeaps_29 : decode cX7_areHeaps 29 = .ok (.goto 4, 3) := by decide +kernel
theorem dX7_areHeaps_32 : decode cX7_areHeaps 32 = .ok (.iconst 0, 1) := by decide +kernel
theorem dX7_areHeaps_33 : decode cX7_areHeaps 33 = .ok (.ireturn, 1) := by decide +kernel
theorem dX7_isHeap_0 : decode cX7_isHeap 0 = .ok (.iload_n 0, 1) := by decide +kernel
theorem dX7_isHeap_1 : decode cX7_isHeap 1 = .ok (.ifCond .lt 14, 3) := by decide +kernel
theorem dX7_isHeap_4 : decode cX7_isHeap 4 = .ok (.iload_n 0, 1) := by decide +kernel
theorem dX7_isHeap_5 : decode cX7_isHeap 5 = .ok (.sipush 1000, 3) := by decide +kernel
theorem dX7_isHeap_8 : decode cX7_isHeap 8 = .ok (.if_icmp .gt 7, 3) := by decide +kernel
theorem dX7_isHeap_11 : decode cX7_isHeap 11 = .ok (.iconst 1, 1) := by decide +kernel
theorem dX7_isHeap_12 : decode cX7_isHeap 12 = .ok (.goto 4, 3) := by decide +kernel
theorem dX7_isHeap_15 : decode cX7_isHeap 15 = .ok (.iconst 0, 1) := by decide +kernel
theorem dX7_isHeap_16 : decode cX7_isHeap 16 = .ok (.ireturn, 1) := by decide +kernel
theorem dX7_commonDivisor_0 : decode cX7_commonDivisor 0 = .ok (.lload_n 0, 1) := by decide +kernel
theorem dX7_commonDivisor_1 : decode cX7_commonDivisor 1 = .ok (.invokestatic 293, 3) := by decide +kernel
theorem dX7_commonDivisor_4 : decode cX7_commonDivisor 4 = .ok (.lstore 4, 2) := by decide +kernel
theorem dX7_commonDivisor_6 : decode cX7_commonDivisor 6 = .ok (.lload_n 2, 1) := by decide +kernel
theorem dX7_commonDivisor_7 : decode cX7_commonDivisor 7 = .ok (.invokestatic 293, 3) := by decide +kernel
theorem dX7_commonDivisor_10 : decode cX7_commonDivisor 10 = .ok (.lstore 6, 2) := by decide +kernel
theorem dX7_commonDivisor_12 : decode cX7_commonDivisor 12 = .ok (.iconst 0, 1) := by decide +kernel
theorem dX7_commonDivisor_13 : decode cX7_commonDivisor 13 = .ok (.istore 8, 2) := by decide +kernel
theorem dX7_commonDivisor_15 : decode cX7_commonDivisor 15 = .ok (.iload 8, 2) := by decide +kernel
theorem dX7_commonDivisor_17 : decode cX7_commonDivisor 17 = .ok (.sipush 1000, 3) := by decide +kernel
theorem dX7_commonDivisor_20 : decode cX7_commonDivisor 20 = .ok (.if_icmp .ge 31, 3) := by decide +kernel
theorem dX7_commonDivisor_23 : decode cX7_commonDivisor 23 = .ok (.lload 6, 2) := by decide +kernel
theorem dX7_commonDivisor_25 : decode cX7_commonDivisor 25 = .ok (.lconst 0, 1) := by decide +kernel
theorem dX7_commonDivisor_26 : decode cX7_commonDivisor 26 = .ok (.lcmp, 1) := by decide +kernel
theorem dX7_commonDivisor_27 : decode cX7_commonDivisor 27 = .ok (.ifCond .eq 24, 3) := by decide +kernel
theorem dX7_commonDivisor_30 : decode cX7_commonDivisor 30 = .ok (.lload 4, 2) := by decide +kernel
theorem dX7_commonDivisor_32 : decode cX7_commonDivisor 32 = .ok (.lload 6, 2) := by decide +kernel
theorem dX7_commonDivisor_34 : decode cX7_commonDivisor 34 = .ok (.lrem, 1) := by decide +kernel
theorem dX7_commonDivisor_35 : decode cX7_commonDivisor 35 = .ok (.lstore 9, 2) := by decide +kernel
theorem dX7_commonDivisor_37 : decode cX7_commonDivisor 37 = .ok (.lload 6, 2) := by decide +kernel
theorem dX7_commonDivisor_39 : decode cX7_commonDivisor 39 = .ok (.lstore 4, 2) := by decide +kernel
theorem dX7_commonDivisor_41 : decode cX7_commonDivisor 41 = .ok (.lload 9, 2) := by decide +kernel
theorem dX7_commonDivisor_43 : decode cX7_commonDivisor 43 = .ok (.lstore 6, 2) := by decide +kernel
theorem dX7_commonDivisor_45 : decode cX7_commonDivisor 45 = .ok (.iinc 8 1, 3) := by decide +kernel
theorem dX7_commonDivisor_48 : decode cX7_commonDivisor 48 = .ok (.goto (-33), 3) := by decide +kernel
theorem dX7_commonDivisor_51 : decode cX7_commonDivisor 51 = .ok (.lload 4, 2) := by decide +kernel
theorem dX7_commonDivisor_53 : decode cX7_commonDivisor 53 = .ok (.lconst 0, 1) := by decide +kernel
theorem dX7_commonDivisor_54 : decode cX7_commonDivisor 54 = .ok (.lcmp, 1) := by decide +kernel
theorem dX7_commonDivisor_55 : decode cX7_commonDivisor 55 = .ok (.ifCond .ne 7, 3) := by decide +kernel
theorem dX7_commonDivisor_58 : decode cX7_commonDivisor 58 = .ok (.lconst 1, 1) := by decide +kernel
theorem dX7_commonDivisor_59 : decode cX7_commonDivisor 59 = .ok (.goto 5, 3) := by decide +kernel
theorem dX7_commonDivisor_62 : decode cX7_commonDivisor 62 = .ok (.lload 4, 2) := by decide +kernel
theorem dX7_commonDivisor_64 : decode cX7_commonDivisor 64 = .ok (.lreturn, 1) := by decide +kernel
theorem dX7_power_0 : decode cX7_power 0 = .ok (.iconst 1, 1) := by decide +kernel
theorem dX7_power_1 : decode cX7_power 1 = .ok (.istore_n 2, 1) := by decide +kernel
theorem dX7_power_2 : decode cX7_power 2 = .ok (.iconst 0, 1) := by decide +kernel
theorem dX7_power_3 : decode cX7_power 3 = .ok (.istore_n 3, 1) := by decide +kernel
theorem dX7_power_4 : decode cX7_power 4 = .ok (.iload_n 3, 1) := by decide +kernel
theorem dX7_power_5 : decode cX7_power 5 = .ok (.iload_n 1, 1) := by decide +kernel
theorem dX7_power_6 : decode cX7_power 6 = .ok (.if_icmp .ge 20, 3) := by decide +kernel
theorem dX7_power_9 : decode cX7_power 9 = .ok (.iload_n 2, 1) := by decide +kernel
theorem dX7_power_10 : decode cX7_power 10 = .ok (.sipush 20000, 3) := by decide +kernel
theorem dX7_power_13 : decode cX7_power 13 = .ok (.if_icmp .gt 13, 3) := by decide +kernel
theorem dX7_power_16 : decode cX7_power 16 = .ok (.iload_n 2, 1) := by decide +kernel
theorem dX7_power_17 : decode cX7_power 17 = .ok (.iload_n 0, 1) := by decide +kernel
theorem dX7_power_18 : decode cX7_power 18 = .ok (.imul, 1) := by decide +kernel
theorem dX7_power_19 : decode cX7_power 19 = .ok (.istore_n 2, 1) := by decide +kernel
theorem dX7_power_20 : decode cX7_power 20 = .ok (.iinc 3 1, 3) := by decide +kernel
theorem dX7_power_23 : decode cX7_power 23 = .ok (.goto (-19), 3) := by decide +kernel
theorem dX7_power_26 : decode cX7_power 26 = .ok (.iload_n 2, 1) := by decide +kernel
theorem dX7_power_27 : decode cX7_power 27 = .ok (.ireturn, 1) := by decide +kernel
set_option maxRecDepth 20000 in
theorem ggX7_refuseWrongStart_X7_isStepCount : GoodIn wsX7_refuseWrongStart wsX7_isStepCount := goodIn_r _ [11, 12] (by decide +kernel) (by decide +kernel)
set_option maxRecDepth 20000 in
theorem gX7_refuseWrongStart_X7_isStepCount : GoodIn wsX7_refuseWrongStart (va_wsS RX7 197 yX7_isStepCount wsX7_isStepCount) := goodIn_app (goodIn_of _ (by decide +kernel)) ggX7_refuseWrongStart_X7_isStepCount
set_option maxRecDepth 20000 in
theorem ggX7_refuseWrongStart_X7_isNumber : GoodIn wsX7_refuseWrongStart wsX7_isNumber := goodIn_r _ [15, 16, 17] (by decide +kernel) (by decide +kernel)
set_option maxRecDepth 20000 in
theorem gX7_refuseWrongStart_X7_isNumber : GoodIn wsX7_refuseWrongStart (va_wsS RX7 178 yX7_isNumber wsX7_isNumber) := goodIn_app (goodIn_of _ (by decide +kernel)) ggX7_refuseWrongStart_X7_isNumber
theorem dX7_refuseWrongStart_0 : decode cX7_refuseWrongStart 0 = .ok (.iload_n 3, 1) := by decide +kernel
theorem dX7_refuseWrongStart_1 : decode cX7_refuseWrongStart 1 = .ok (.invokestatic 197, 3) := by decide +kernel
theorem dX7_refuseWrongStart_4 : decode cX7_refuseWrongStart 4 = .ok (.ifCond .ne 14, 3) := by decide +kernel
theorem dX7_refuseWrongStart_7 : decode cX7_refuseWrongStart 7 = .ok (.new 347, 3) := by decide +kernel
theorem dX7_refuseWrongStart_10 : decode cX7_refuseWrongStart 10 = .ok (.dup, 1) := by decide +kernel
theorem dX7_refuseWrongStart_11 : decode cX7_refuseWrongStart 11 = .ok (.ldc_w 379, 3) := by decide +kernel
theorem dX7_refuseWrongStart_14 : decode cX7_refuseWrongStart 14 = .ok (.invokespecial 351, 3) := by decide +kernel
theorem dX7_refuseWrongStart_17 : decode cX7_refuseWrongStart 17 = .ok (.athrow, 1) := by decide +kernel
theorem dX7_refuseWrongStart_18 : decode cX7_refuseWrongStart 18 = .ok (.aload_n 0, 1) := by decide +kernel
theorem dX7_refuseWrongStart_19 : decode cX7_refuseWrongStart 19 = .ok (.getfield 9, 3) := by decide +kernel
theorem dX7_refuseWrongStart_22 : decode cX7_refuseWrongStart 22 = .ok (.ifCond .ne 14, 3) := by decide +kernel
theorem dX7_refuseWrongStart_25 : decode cX7_refuseWrongStart 25 = .ok (.new 122, 3) := by decide +kernel
theorem dX7_refuseWrongStart_28 : decode cX7_refuseWrongStart 28 = .ok (.dup, 1) := by decide +kernel
theorem dX7_refuseWrongStart_29 : decode cX7_refuseWrongStart 29 = .ok (.ldc_w 381, 3) := by decide +kernel
theorem dX7_refuseWrongStart_32 : decode cX7_refuseWrongStart 32 = .ok (.invokespecial 126, 3) := by decide +kernel
theorem dX7_refuseWrongStart_35 : decode cX7_refuseWrongStart 35 = .ok (.athrow, 1) := by decide +kernel
theorem dX7_refuseWrongStart_36 : decode cX7_refuseWrongStart 36 = .ok (.lload_n 1, 1) := by decide +kernel
theorem dX7_refuseWrongStart_37 : decode cX7_refuseWrongStart 37 = .ok (.invokestatic 178, 3) := by decide +kernel
theorem dX7_refuseWrongStart_40 : decode cX7_refuseWrongStart 40 = .ok (.ifCond .ne 14, 3) := by decide +kernel
theorem dX7_refuseWrongStart_43 : decode cX7_refuseWrongStart 43 = .ok (.new 192, 3) := by decide +kernel
theorem dX7_refuseWrongStart_46 : decode cX7_refuseWrongStart 46 = .ok (.dup, 1) := by decide +kernel
theorem dX7_refuseWrongStart_47 : decode cX7_refuseWrongStart 47 = .ok (.ldc_w 383, 3) := by decide +kernel
theorem dX7_refuseWrongStart_50 : decode cX7_refuseWrongStart 50 = .ok (.invokespecial 196, 3) := by decide +kernel
theorem dX7_refuseWrongStart_53 : decode cX7_refuseWrongStart 53 = .ok (.athrow, 1) := by decide +kernel
theorem dX7_refuseWrongStart_54 : decode cX7_refuseWrongStart 54 = .ok (.return_, 1) := by decide +kernel
set_option maxRecDepth 20000 in
theorem ggX7_after_X5_after : GoodIn wsX7_after wsX5_after := goodIn_ca (goodIn_r _ [8, 9, 10, 11, 12, 7, 13, 14, 15, 16, 17, 18, 19, 20, 21, 22, 23, 24, 25, 26, 27, 28, 29, 30, 31, 32, 33, 34, 35, 36, 37, 38, 39, 40, 41, 42, 85, 86, 87, 88] (by decide +kernel) (by decide +kernel)) (goodIn_sub (fun _ h => List.mem_cons_of_mem _ (List.mem_append_right _ h)) (by decide +kernel))
set_option maxRecDepth 20000 in
theorem gX7_after_X5_after : GoodIn wsX7_after (wsV RX7 385 RX5 yX5_after wsX5_after) := goodIn_app (goodIn_of _ (by decide +kernel)) ggX7_after_X5_after
set_option maxRecDepth 20000 in
theorem ggX7_after_X0_after : GoodIn wsX7_after wsX0_after := goodIn_ca (goodIn_r _ [47, 48, 49, 50, 51, 52, 53, 46, 54, 55, 56, 57, 58, 59, 60, 61, 62, 63, 64, 65, 66, 67, 68, 69, 89, 90, 91] (by decide +kernel) (by decide +kernel)) (goodIn_sub (fun _ h => List.mem_cons_of_mem _ (List.mem_append_right _ h)) (by decide +kernel))
set_option maxRecDepth 20000 in
theorem gX7_after_X0_after : GoodIn wsX7_after (wsV RX7 386 RX0 yX0_after wsX0_after) := goodIn_app (goodIn_of _ (by decide +kernel)) ggX7_after_X0_after
theorem dX7_after_0 : decode cX7_after 0 = .ok (.aload_n 0, 1) := by decide +kernel
theorem dX7_after_1 : decode cX7_after 1 = .ok (.getfield 9, 3) := by decide +kernel
theorem dX7_after_4 : decode cX7_after 4 = .ok (.iconst 1, 1) := by decide +kernel
theorem dX7_after_5 : decode cX7_after 5 = .ok (.if_icmp .ne 14, 3) := by decide +kernel
theorem dX7_after_8 : decode cX7_after 8 = .ok (.aload_n 0, 1) := by decide +kernel
theorem dX7_after_9 : decode cX7_after 9 = .ok (.getfield 16, 3) := by decide +kernel
theorem dX7_after_12 : decode cX7_after 12 = .ok (.lload_n 1, 1) := by decide +kernel
theorem dX7_after_13 : decode cX7_after 13 = .ok (.invokevirtual 385, 3) := by decide +kernel
theorem dX7_after_16 : decode cX7_after 16 = .ok (.goto 11, 3) := by decide +kernel
theorem dX7_after_19 : decode cX7_after 19 = .ok (.aload_n 0, 1) := by decide +kernel
theorem dX7_after_20 : decode cX7_after 20 = .ok (.getfield 29, 3) := by decide +kernel
theorem dX7_after_23 : decode cX7_after 23 = .ok (.lload_n 1, 1) := by decide +kernel
theorem dX7_after_24 : decode cX7_after 24 = .ok (.invokevirtual 386, 3) := by decide +kernel
theorem dX7_after_27 : decode cX7_after 27 = .ok (.lreturn, 1) := by decide +kernel
set_option maxRecDepth 20000 in
theorem ggX7_stepsTillBelow_X7_after : GoodIn wsX7_stepsTillBelow wsX7_after := goodIn_ca (goodIn_r _ [5, 6, 7, 8, 9, 10, 11, 12, 13, 14, 15, 16, 17, 18, 19, 20, 21, 22, 23, 24, 25, 26, 27, 28, 29, 30, 31, 32, 33, 34, 35, 36, 37, 38, 39, 40, 41, 42, 43, 4, 44, 45, 46, 47, 48, 49, 50, 51, 52, 53, 54, 55, 56, 57, 58, 59, 60, 61, 62, 63, 64, 65, 66, 67, 68, 69, 70, 71, 72, 73, 75, 76, 77, 78, 79, 80, 81, 82, 83, 84, 85, 86, 87, 88, 89, 90, 91, 92, 93, 94, 95, 96] (by decide +kernel) (by decide +kernel)) (goodIn_sub (fun _ h => List.mem_cons_of_mem _ (List.mem_append_right _ h)) (by decide +kernel))
set_option maxRecDepth 20000 in
theorem gX7_stepsTillBelow_X7_after : GoodIn wsX7_stepsTillBelow (wsV RX7 182 RX7 yX7_after wsX7_after) := goodIn_app (goodIn_of _ (by decide +kernel)) ggX7_stepsTillBelow_X7_after
set_option maxRecDepth 20000 in
theorem ggX7_stepsTillBelow_X7_isNumber : GoodIn wsX7_stepsTillBelow wsX7_isNumber := goodIn_r _ [44, 45, 46] (by decide +kernel) (by decide +kernel)
set_option maxRecDepth 20000 in
theorem gX7_stepsTillBelow_X7_isNumber : GoodIn wsX7_stepsTillBelow (va_wsS RX7 178 yX7_isNumber wsX7_isNumber) := goodIn_app (goodIn_of _ (by decide +kernel)) ggX7_stepsTillBelow_X7_isNumber
theorem dX7_stepsTillBelow_0 : decode cX7_stepsTillBelow 0 = .ok (.lload_n 1, 1) := by decide +kernel
theorem dX7_stepsTillBelow_1 : decode cX7_stepsTillBelow 1 = .ok (.lstore 4, 2) := by decide +kernel
theorem dX7_stepsTillBelow_3 : decode cX7_stepsTillBelow 3 = .ok (.iconst 1, 1) := by decide +kernel
theorem dX7_stepsTillBelow_4 : decode cX7_stepsTillBelow 4 = .ok (.istore 6, 2) := by decide +kernel
theorem dX7_stepsTillBelow_6 : decode cX7_stepsTillBelow 6 = .ok (.iload 6, 2) := by decide +kernel
theorem dX7_stepsTillBelow_8 : decode cX7_stepsTillBelow 8 = .ok (.iload_n 3, 1) := by decide +kernel
theorem dX7_stepsTillBelow_9 : decode cX7_stepsTillBelow 9 = .ok (.if_icmp .gt 37, 3) := by decide +kernel
theorem dX7_stepsTillBelow_12 : decode cX7_stepsTillBelow 12 = .ok (.aload_n 0, 1) := by decide +kernel
theorem dX7_stepsTillBelow_13 : decode cX7_stepsTillBelow 13 = .ok (.lload 4, 2) := by decide +kernel
theorem dX7_stepsTillBelow_15 : decode cX7_stepsTillBelow 15 = .ok (.invokevirtual 182, 3) := by decide +kernel
theorem dX7_stepsTillBelow_18 : decode cX7_stepsTillBelow 18 = .ok (.lstore 4, 2) := by decide +kernel
theorem dX7_stepsTillBelow_20 : decode cX7_stepsTillBelow 20 = .ok (.lload 4, 2) := by decide +kernel
theorem dX7_stepsTillBelow_22 : decode cX7_stepsTillBelow 22 = .ok (.invokestatic 178, 3) := by decide +kernel
theorem dX7_stepsTillBelow_25 : decode cX7_stepsTillBelow 25 = .ok (.ifCond .ne 5, 3) := by decide +kernel
theorem dX7_stepsTillBelow_28 : decode cX7_stepsTillBelow 28 = .ok (.iconst (-1), 1) := by decide +kernel
theorem dX7_stepsTillBelow_29 : decode cX7_stepsTillBelow 29 = .ok (.ireturn, 1) := by decide +kernel
theorem dX7_stepsTillBelow_30 : decode cX7_stepsTillBelow 30 = .ok (.lload 4, 2) := by decide +kernel
theorem dX7_stepsTillBelow_32 : decode cX7_stepsTillBelow 32 = .ok (.lload_n 1, 1) := by decide +kernel
theorem dX7_stepsTillBelow_33 : decode cX7_stepsTillBelow 33 = .ok (.lcmp, 1) := by decide +kernel
theorem dX7_stepsTillBelow_34 : decode cX7_stepsTillBelow 34 = .ok (.ifCond .ge 6, 3) := by decide +kernel
theorem dX7_stepsTillBelow_37 : decode cX7_stepsTillBelow 37 = .ok (.iload 6, 2) := by decide +kernel
theorem dX7_stepsTillBelow_39 : decode cX7_stepsTillBelow 39 = .ok (.ireturn, 1) := by decide +kernel
theorem dX7_stepsTillBelow_40 : decode cX7_stepsTillBelow 40 = .ok (.iinc 6 1, 3) := by decide +kernel
theorem dX7_stepsTillBelow_43 : decode cX7_stepsTillBelow 43 = .ok (.goto (-37), 3) := by decide +kernel
theorem dX7_stepsTillBelow_46 : decode cX7_stepsTillBelow 46 = .ok (.bipush (-2), 2) := by decide +kernel
theorem dX7_stepsTillBelow_48 : decode cX7_stepsTillBelow 48 = .ok (.ireturn, 1) := by decide +kernel
set_option maxRecDepth 20000 in
theorem ggX7_signOf_X5_restOf : GoodIn wsX7_signOf wsX5_restOf := goodIn_r _ [8, 9, 10, 11, 12, 13, 44, 45, 46, 47] (by decide +kernel) (by decide +kernel)
set_option maxRecDepth 20000 in
theorem gX7_signOf_X5_restOf : GoodIn wsX7_signOf (wsV RX7 309 RX5 yX5_restOf wsX5_restOf) := goodIn_app (goodIn_of _ (by decide +kernel)) ggX7_signOf_X5_restOf
set_option maxRecDepth 20000 in
theorem ggX7_signOf_X0_firstFit : GoodIn wsX7_signOf wsX0_firstFit := goodIn_ca (goodIn_r _ [18, 19, 20, 21, 22, 17, 23, 24, 25, 26, 27, 28, 48, 49, 50] (by decide +kernel) (by decide +kernel)) (goodIn_sub (fun _ h => List.mem_cons_of_mem _ (List.mem_append_right _ h)) (by decide +kernel))
set_option maxRecDepth 20000 in
theorem gX7_signOf_X0_firstFit : GoodIn wsX7_signOf (wsV RX7 387 RX0 yX0_firstFit wsX0_firstFit) := goodIn_app (goodIn_of _ (by decide +kernel)) ggX7_signOf_X0_firstFit
theorem dX7_signOf_0 : decode cX7_signOf 0 = .ok (.aload_n 0, 1) := by decide +kernel
theorem dX7_signOf_1 : decode cX7_signOf 1 = .ok (.getfield 9, 3) := by decide +kernel
theorem dX7_signOf_4 : decode cX7_signOf 4 = .ok (.iconst 1, 1) := by decide +kernel
theorem dX7_signOf_5 : decode cX7_signOf 5 = .ok (.if_icmp .ne 14, 3) := by decide +kernel
theorem dX7_signOf_8 : decode cX7_signOf 8 = .ok (.aload_n 0, 1) := by decide +kernel
theorem dX7_signOf_9 : decode cX7_signOf 9 = .ok (.getfield 16, 3) := by decide +kernel
theorem dX7_signOf_12 : decode cX7_signOf 12 = .ok (.lload_n 1, 1) := by decide +kernel
theorem dX7_signOf_13 : decode cX7_signOf 13 = .ok (.invokevirtual 309, 3) := by decide +kernel
theorem dX7_signOf_16 : decode cX7_signOf 16 = .ok (.goto 11, 3) := by decide +kernel
theorem dX7_signOf_19 : decode cX7_signOf 19 = .ok (.aload_n 0, 1) := by decide +kernel
theorem dX7_signOf_20 : decode cX7_signOf 20 = .ok (.getfield 29, 3) := by decide +kernel
theorem dX7_signOf_23 : decode cX7_signOf 23 = .ok (.lload_n 1, 1) := by decide +kernel
theorem dX7_signOf_24 : decode cX7_signOf 24 = .ok (.invokevirtual 387, 3) := by decide +kernel
theorem dX7_signOf_27 : decode cX7_signOf 27 = .ok (.ireturn, 1) := by decide +kernel
set_option maxRecDepth 20000 in
theorem ggX7_shapeTold_X2_size : GoodIn wsX7_shapeTold wsX2_size := goodIn_r _ [8, 9, 94, 95] (by decide +kernel) (by decide +kernel)
set_option maxRecDepth 20000 in
theorem gX7_shapeTold_X2_size : GoodIn wsX7_shapeTold (wsV RX7 149 RX2 yX2_size wsX2_size) := goodIn_app (goodIn_of _ (by decide +kernel)) ggX7_shapeTold_X2_size
set_option maxRecDepth 20000 in
theorem ggX7_shapeTold_X2_at : GoodIn wsX7_shapeTold wsX2_at := goodIn_r _ [13, 14, 15, 16, 17, 7, 18, 9, 94, 95] (by decide +kernel) (by decide +kernel)
set_option maxRecDepth 20000 in
theorem gX7_shapeTold_X2_at : GoodIn wsX7_shapeTold (wsV RX7 369 RX2 yX2_at wsX2_at) := goodIn_app (goodIn_of _ (by decide +kernel)) ggX7_shapeTold_X2_at
set_option maxRecDepth 20000 in
theorem ggX7_shapeTold_X5_measure : GoodIn wsX7_shapeTold wsX5_measure := goodIn_r _ [23, 24, 96, 97, 98, 99] (by decide +kernel) (by decide +kernel)
set_option maxRecDepth 20000 in
theorem gX7_shapeTold_X5_measure : GoodIn wsX7_shapeTold (wsV RX7 99 RX5 yX5_measure wsX5_measure) := goodIn_app (goodIn_of _ (by decide +kernel)) ggX7_shapeTold_X5_measure
set_option maxRecDepth 20000 in
theorem ggX7_shapeTold_X7_shapeWord : GoodIn wsX7_shapeTold wsX7_shapeWord := goodIn_ca (goodIn_r _ [29, 30, 3, 4, 5, 6, 7, 8, 9, 10, 11, 12, 13, 14, 15, 16, 17, 18, 31, 32, 33, 34, 35, 36, 37, 38, 39, 40, 41, 42, 43, 44, 22, 45, 46, 47, 48, 49, 50, 24, 51, 52, 53, 54, 55, 56, 57, 58, 59, 60, 61, 62, 63, 64, 65, 28, 66, 67, 68, 69, 70, 71, 72, 73, 74, 75, 76, 77, 78, 79, 80, 81, 82, 83, 84, 85, 86, 87, 88, 89, 90, 91, 92, 93, 94, 95, 100, 101, 102, 96, 97, 98, 99] (by decide +kernel) (by decide +kernel)) (goodIn_sub (fun _ h => List.mem_cons_of_mem _ (List.mem_append_right _ h)) (by decide +kernel))
set_option maxRecDepth 20000 in
theorem gX7_shapeTold_X7_shapeWord : GoodIn wsX7_shapeTold (wsV RX7 247 RX7 yX7_shapeWord wsX7_shapeWord) := goodIn_app (goodIn_of _ (by decide +kernel)) ggX7_shapeTold_X7_shapeWord
theorem dX7_shapeTold_0 : decode cX7_shapeTold 0 = .ok (.aload_n 0, 1) := by decide +kernel
theorem dX7_shapeTold_1 : decode cX7_shapeTold 1 = .ok (.getfield 9, 3) := by decide +kernel
theorem dX7_shapeTold_4 : decode cX7_shapeTold 4 = .ok (.iconst 1, 1) := by decide +kernel
theorem dX7_shapeTold_5 : decode cX7_shapeTold 5 = .ok (.if_icmp .ne 13, 3) := by decide +kernel
theorem dX7_shapeTold_8 : decode cX7_shapeTold 8 = .ok (.aload_n 0, 1) := by decide +kernel
theorem dX7_shapeTold_9 : decode cX7_shapeTold 9 = .ok (.getfield 55, 3) := by decide +kernel
theorem dX7_shapeTold_12 : decode cX7_shapeTold 12 = .ok (.invokevirtual 149, 3) := by decide +kernel
theorem dX7_shapeTold_15 : decode cX7_shapeTold 15 = .ok (.ifCond .ne 5, 3) := by decide +kernel
theorem dX7_shapeTold_18 : decode cX7_shapeTold 18 = .ok (.iconst (-1), 1) := by decide +kernel
theorem dX7_shapeTold_19 : decode cX7_shapeTold 19 = .ok (.ireturn, 1) := by decide +kernel
theorem dX7_shapeTold_20 : decode cX7_shapeTold 20 = .ok (.iconst 0, 1) := by decide +kernel
theorem dX7_shapeTold_21 : decode cX7_shapeTold 21 = .ok (.istore_n 1, 1) := by decide +kernel
theorem dX7_shapeTold_22 : decode cX7_shapeTold 22 = .ok (.iload_n 1, 1) := by decide +kernel
theorem dX7_shapeTold_23 : decode cX7_shapeTold 23 = .ok (.aload_n 0, 1) := by decide +kernel
theorem dX7_shapeTold_24 : decode cX7_shapeTold 24 = .ok (.getfield 55, 3) := by decide +kernel
theorem dX7_shapeTold_27 : decode cX7_shapeTold 27 = .ok (.invokevirtual 149, 3) := by decide +kernel
theorem dX7_shapeTold_30 : decode cX7_shapeTold 30 = .ok (.if_icmp .ge 31, 3) := by decide +kernel
theorem dX7_shapeTold_33 : decode cX7_shapeTold 33 = .ok (.aload_n 0, 1) := by decide +kernel
theorem dX7_shapeTold_34 : decode cX7_shapeTold 34 = .ok (.getfield 55, 3) := by decide +kernel
theorem dX7_shapeTold_37 : decode cX7_shapeTold 37 = .ok (.iload_n 1, 1) := by decide +kernel
theorem dX7_shapeTold_38 : decode cX7_shapeTold 38 = .ok (.invokevirtual 369, 3) := by decide +kernel
theorem dX7_shapeTold_41 : decode cX7_shapeTold 41 = .ok (.aload_n 0, 1) := by decide +kernel
theorem dX7_shapeTold_42 : decode cX7_shapeTold 42 = .ok (.getfield 16, 3) := by decide +kernel
theorem dX7_shapeTold_45 : decode cX7_shapeTold 45 = .ok (.invokevirtual 99, 3) := by decide +kernel
theorem dX7_shapeTold_48 : decode cX7_shapeTold 48 = .ok (.i2l, 1) := by decide +kernel
theorem dX7_shapeTold_49 : decode cX7_shapeTold 49 = .ok (.lcmp, 1) := by decide +kernel
theorem dX7_shapeTold_50 : decode cX7_shapeTold 50 = .ok (.ifCond .lt 5, 3) := by decide +kernel
theorem dX7_shapeTold_53 : decode cX7_shapeTold 53 = .ok (.iconst (-1), 1) := by decide +kernel
theorem dX7_shapeTold_54 : decode cX7_shapeTold 54 = .ok (.ireturn, 1) := by decide +kernel
theorem dX7_shapeTold_55 : decode cX7_shapeTold 55 = .ok (.iinc 1 1, 3) := by decide +kernel
theorem dX7_shapeTold_58 : decode cX7_shapeTold 58 = .ok (.goto (-36), 3) := by decide +kernel
theorem dX7_shapeTold_61 : decode cX7_shapeTold 61 = .ok (.aload_n 0, 1) := by decide +kernel
theorem dX7_shapeTold_62 : decode cX7_shapeTold 62 = .ok (.aload_n 0, 1) := by decide +kernel
theorem dX7_shapeTold_63 : decode cX7_shapeTold 63 = .ok (.getfield 55, 3) := by decide +kernel
theorem dX7_shapeTold_66 : decode cX7_shapeTold 66 = .ok (.iconst 0, 1) := by decide +kernel
theorem dX7_shapeTold_67 : decode cX7_shapeTold 67 = .ok (.invokevirtual 247, 3) := by decide +kernel
theorem dX7_shapeTold_70 : decode cX7_shapeTold 70 = .ok (.ifCond .eq 7, 3) := by decide +kernel
theorem dX7_shapeTold_73 : decode cX7_shapeTold 73 = .ok (.iconst 1, 1) := by decide +kernel
theorem dX7_shapeTold_74 : decode cX7_shapeTold 74 = .ok (.goto 5, 3) := by decide +kernel
theorem dX7_shapeTold_77 : decode cX7_shapeTold 77 = .ok (.bipush (-2), 2) := by decide +kernel
theorem dX7_shapeTold_79 : decode cX7_shapeTold 79 = .ok (.ireturn, 1) := by decide +kernel
set_option maxRecDepth 20000 in
theorem ggX7_shapeWord_X2_size : GoodIn wsX7_shapeWord wsX2_size := goodIn_r _ [7, 8, 84, 85] (by decide +kernel) (by decide +kernel)
set_option maxRecDepth 20000 in
theorem gX7_shapeWord_X2_size : GoodIn wsX7_shapeWord (wsV RX7 149 RX2 yX2_size wsX2_size) := goodIn_app (goodIn_of _ (by decide +kernel)) ggX7_shapeWord_X2_size
set_option maxRecDepth 20000 in
theorem ggX7_shapeWord_X2_at : GoodIn wsX7_shapeWord wsX2_at := goodIn_r _ [12, 13, 14, 15, 16, 6, 17, 8, 84, 85] (by decide +kernel) (by decide +kernel)
set_option maxRecDepth 20000 in
theorem gX7_shapeWord_X2_at : GoodIn wsX7_shapeWord (wsV RX7 369 RX2 yX2_at wsX2_at) := goodIn_app (goodIn_of _ (by decide +kernel)) ggX7_shapeWord_X2_at
set_option maxRecDepth 20000 in
theorem ggX7_shapeWord_X4_extend : GoodIn wsX7_shapeWord wsX4_extend := goodIn_ca (goodIn_r _ [22, 23, 24, 25, 26, 27, 21, 28, 29, 30, 31, 32, 33, 34, 35, 36, 37, 38, 39, 40, 41, 42, 43, 44, 45, 46, 47, 48, 49, 50, 51, 52, 53, 54, 55, 56, 57, 58, 59, 60, 61, 62, 63, 64, 65, 66, 67, 68, 86, 87, 88, 89, 90, 91, 92] (by decide +kernel) (by decide +kernel)) (goodIn_sub (fun _ h => List.mem_cons_of_mem _ (List.mem_append_right _ h)) (by decide +kernel))
set_option maxRecDepth 20000 in
theorem gX7_shapeWord_X4_extend : GoodIn wsX7_shapeWord (wsV RX7 390 RX4 yX4_extend wsX4_extend) := goodIn_app (goodIn_of _ (by decide +kernel)) ggX7_shapeWord_X4_extend
theorem dX7_shapeWord_0 : decode cX7_shapeWord 0 = .ok (.iload_n 2, 1) := by decide +kernel
theorem dX7_shapeWord_1 : decode cX7_shapeWord 1 = .ok (.istore_n 3, 1) := by decide +kernel
theorem dX7_shapeWord_2 : decode cX7_shapeWord 2 = .ok (.iload_n 3, 1) := by decide +kernel
theorem dX7_shapeWord_3 : decode cX7_shapeWord 3 = .ok (.aload_n 1, 1) := by decide +kernel
theorem dX7_shapeWord_4 : decode cX7_shapeWord 4 = .ok (.invokevirtual 149, 3) := by decide +kernel
theorem dX7_shapeWord_7 : decode cX7_shapeWord 7 = .ok (.if_icmp .ge 32, 3) := by decide +kernel
theorem dX7_shapeWord_10 : decode cX7_shapeWord 10 = .ok (.aload_n 0, 1) := by decide +kernel
theorem dX7_shapeWord_11 : decode cX7_shapeWord 11 = .ok (.getfield 64, 3) := by decide +kernel
theorem dX7_shapeWord_14 : decode cX7_shapeWord 14 = .ok (.iload_n 3, 1) := by decide +kernel
theorem dX7_shapeWord_15 : decode cX7_shapeWord 15 = .ok (.aload_n 0, 1) := by decide +kernel
theorem dX7_shapeWord_16 : decode cX7_shapeWord 16 = .ok (.getfield 16, 3) := by decide +kernel
theorem dX7_shapeWord_19 : decode cX7_shapeWord 19 = .ok (.aload_n 1, 1) := by decide +kernel
theorem dX7_shapeWord_20 : decode cX7_shapeWord 20 = .ok (.iload_n 3, 1) := by decide +kernel
theorem dX7_shapeWord_21 : decode cX7_shapeWord 21 = .ok (.invokevirtual 369, 3) := by decide +kernel
theorem dX7_shapeWord_24 : decode cX7_shapeWord 24 = .ok (.l2i, 1) := by decide +kernel
theorem dX7_shapeWord_25 : decode cX7_shapeWord 25 = .ok (.invokevirtual 390, 3) := by decide +kernel
theorem dX7_shapeWord_28 : decode cX7_shapeWord 28 = .ok (.ifCond .ne 5, 3) := by decide +kernel
theorem dX7_shapeWord_31 : decode cX7_shapeWord 31 = .ok (.iconst 0, 1) := by decide +kernel
theorem dX7_shapeWord_32 : decode cX7_shapeWord 32 = .ok (.ireturn, 1) := by decide +kernel
theorem dX7_shapeWord_33 : decode cX7_shapeWord 33 = .ok (.iinc 3 1, 3) := by decide +kernel
theorem dX7_shapeWord_36 : decode cX7_shapeWord 36 = .ok (.goto (-34), 3) := by decide +kernel
theorem dX7_shapeWord_39 : decode cX7_shapeWord 39 = .ok (.iconst 1, 1) := by decide +kernel
theorem dX7_shapeWord_40 : decode cX7_shapeWord 40 = .ok (.ireturn, 1) := by decide +kernel
set_option maxRecDepth 20000 in
theorem ggX7_ringNumber_X4_divisor : GoodIn wsX7_ringNumber wsX4_divisor := goodIn_r _ [8, 9, 10, 11, 7, 12, 90, 91, 92] (by decide +kernel) (by decide +kernel)
set_option maxRecDepth 20000 in
theorem gX7_ringNumber_X4_divisor : GoodIn wsX7_ringNumber (wsV RX7 230 RX4 yX4_divisor wsX4_divisor) := goodIn_app (goodIn_of _ (by decide +kernel)) ggX7_ringNumber_X4_divisor
set_option maxRecDepth 20000 in
theorem ggX7_ringNumber_X4_factor : GoodIn wsX7_ringNumber wsX4_factor := goodIn_r _ [16, 17, 10, 11, 7, 12, 90, 91, 92] (by decide +kernel) (by decide +kernel)
set_option maxRecDepth 20000 in
theorem gX7_ringNumber_X4_factor : GoodIn wsX7_ringNumber (wsV RX7 224 RX4 yX4_factor wsX4_factor) := goodIn_app (goodIn_of _ (by decide +kernel)) ggX7_ringNumber_X4_factor
set_option maxRecDepth 20000 in
theorem ggX7_ringNumber_X4_addend : GoodIn wsX7_ringNumber wsX4_addend := goodIn_r _ [21, 22, 10, 11, 7, 12, 90, 91, 92] (by decide +kernel) (by decide +kernel)
set_option maxRecDepth 20000 in
theorem gX7_ringNumber_X4_addend : GoodIn wsX7_ringNumber (wsV RX7 227 RX4 yX4_addend wsX4_addend) := goodIn_app (goodIn_of _ (by decide +kernel)) ggX7_ringNumber_X4_addend
set_option maxRecDepth 20000 in
theorem ggX7_ringNumber_X7_isNumber : GoodIn wsX7_ringNumber wsX7_isNumber := goodIn_r _ [26, 27, 28] (by decide +kernel) (by decide +kernel)
set_option maxRecDepth 20000 in
theorem gX7_ringNumber_X7_isNumber : GoodIn wsX7_ringNumber (va_wsS RX7 178 yX7_isNumber wsX7_isNumber) := goodIn_app (goodIn_of _ (by decide +kernel)) ggX7_ringNumber_X7_isNumber
set_option maxRecDepth 20000 in
theorem ggX7_ringNumber_X5_restOf : GoodIn wsX7_ringNumber wsX5_restOf := goodIn_r _ [33, 34, 35, 36, 37, 38, 93, 94, 95, 96] (by decide +kernel) (by decide +kernel)
set_option maxRecDepth 20000 in
theorem gX7_ringNumber_X5_restOf : GoodIn wsX7_ringNumber (wsV RX7 309 RX5 yX5_restOf wsX5_restOf) := goodIn_app (goodIn_of _ (by decide +kernel)) ggX7_ringNumber_X5_restOf
set_option maxRecDepth 20000 in
theorem ggX7_ringNumber_X2_at : GoodIn wsX7_ringNumber wsX2_at := goodIn_r _ [43, 44, 45, 46, 47, 42, 48, 49, 97, 98] (by decide +kernel) (by decide +kernel)
set_option maxRecDepth 20000 in
theorem gX7_ringNumber_X2_at : GoodIn wsX7_ringNumber (wsV RX7 369 RX2 yX2_at wsX2_at) := goodIn_app (goodIn_of _ (by decide +kernel)) ggX7_ringNumber_X2_at
set_option maxRecDepth 20000 in
theorem ggX7_ringNumber_X5_after : GoodIn wsX7_ringNumber wsX5_after := goodIn_ca (goodIn_r _ [53, 54, 55, 30, 31, 32, 33, 34, 35, 36, 37, 38, 56, 57, 58, 59, 60, 61, 62, 63, 64, 65, 66, 67, 68, 69, 70, 71, 72, 73, 74, 24, 25, 26, 27, 28, 93, 94, 95, 96] (by decide +kernel) (by decide +kernel)) (goodIn_sub (fun _ h => List.mem_cons_of_mem _ (List.mem_append_right _ h)) (by decide +kernel))
set_option maxRecDepth 20000 in
theorem gX7_ringNumber_X5_after : GoodIn wsX7_ringNumber (wsV RX7 385 RX5 yX5_after wsX5_after) := goodIn_app (goodIn_of _ (by decide +kernel)) ggX7_ringNumber_X5_after
theorem dX7_ringNumber_0 : decode cX7_ringNumber 0 = .ok (.aload_n 0, 1) := by decide +kernel
theorem dX7_ringNumber_1 : decode cX7_ringNumber 1 = .ok (.getfield 64, 3) := by decide +kernel
theorem dX7_ringNumber_4 : decode cX7_ringNumber 4 = .ok (.iload_n 2, 1) := by decide +kernel
theorem dX7_ringNumber_5 : decode cX7_ringNumber 5 = .ok (.invokevirtual 230, 3) := by decide +kernel
theorem dX7_ringNumber_8 : decode cX7_ringNumber 8 = .ok (.aload_n 0, 1) := by decide +kernel
theorem dX7_ringNumber_9 : decode cX7_ringNumber 9 = .ok (.getfield 64, 3) := by decide +kernel
theorem dX7_ringNumber_12 : decode cX7_ringNumber 12 = .ok (.iload_n 2, 1) := by decide +kernel
theorem dX7_ringNumber_13 : decode cX7_ringNumber 13 = .ok (.invokevirtual 224, 3) := by decide +kernel
theorem dX7_ringNumber_16 : decode cX7_ringNumber 16 = .ok (.lsub, 1) := by decide +kernel
theorem dX7_ringNumber_17 : decode cX7_ringNumber 17 = .ok (.lstore_n 3, 1) := by decide +kernel
theorem dX7_ringNumber_18 : decode cX7_ringNumber 18 = .ok (.lload_n 3, 1) := by decide +kernel
theorem dX7_ringNumber_19 : decode cX7_ringNumber 19 = .ok (.lconst 0, 1) := by decide +kernel
theorem dX7_ringNumber_20 : decode cX7_ringNumber 20 = .ok (.lcmp, 1) := by decide +kernel
theorem dX7_ringNumber_21 : decode cX7_ringNumber 21 = .ok (.ifCond .eq 18, 3) := by decide +kernel
theorem dX7_ringNumber_24 : decode cX7_ringNumber 24 = .ok (.aload_n 0, 1) := by decide +kernel
theorem dX7_ringNumber_25 : decode cX7_ringNumber 25 = .ok (.getfield 64, 3) := by decide +kernel
theorem dX7_ringNumber_28 : decode cX7_ringNumber 28 = .ok (.iload_n 2, 1) := by decide +kernel
theorem dX7_ringNumber_29 : decode cX7_ringNumber 29 = .ok (.invokevirtual 227, 3) := by decide +kernel
theorem dX7_ringNumber_32 : decode cX7_ringNumber 32 = .ok (.lload_n 3, 1) := by decide +kernel
theorem dX7_ringNumber_33 : decode cX7_ringNumber 33 = .ok (.lrem, 1) := by decide +kernel
theorem dX7_ringNumber_34 : decode cX7_ringNumber 34 = .ok (.lconst 0, 1) := by decide +kernel
theorem dX7_ringNumber_35 : decode cX7_ringNumber 35 = .ok (.lcmp, 1) := by decide +kernel
theorem dX7_ringNumber_36 : decode cX7_ringNumber 36 = .ok (.ifCond .eq 7, 3) := by decide +kernel
theorem dX7_ringNumber_39 : decode cX7_ringNumber 39 = .ok (.ldc2_w 190, 3) := by decide +kernel
theorem dX7_ringNumber_42 : decode cX7_ringNumber 42 = .ok (.lreturn, 1) := by decide +kernel
theorem dX7_ringNumber_43 : decode cX7_ringNumber 43 = .ok (.aload_n 0, 1) := by decide +kernel
theorem dX7_ringNumber_44 : decode cX7_ringNumber 44 = .ok (.getfield 64, 3) := by decide +kernel
theorem dX7_ringNumber_47 : decode cX7_ringNumber 47 = .ok (.iload_n 2, 1) := by decide +kernel
theorem dX7_ringNumber_48 : decode cX7_ringNumber 48 = .ok (.invokevirtual 227, 3) := by decide +kernel
theorem dX7_ringNumber_51 : decode cX7_ringNumber 51 = .ok (.lload_n 3, 1) := by decide +kernel
theorem dX7_ringNumber_52 : decode cX7_ringNumber 52 = .ok (.ldiv, 1) := by decide +kernel
theorem dX7_ringNumber_53 : decode cX7_ringNumber 53 = .ok (.lstore 5, 2) := by decide +kernel
theorem dX7_ringNumber_55 : decode cX7_ringNumber 55 = .ok (.lload 5, 2) := by decide +kernel
theorem dX7_ringNumber_57 : decode cX7_ringNumber 57 = .ok (.lstore 7, 2) := by decide +kernel
theorem dX7_ringNumber_59 : decode cX7_ringNumber 59 = .ok (.iconst 0, 1) := by decide +kernel
theorem dX7_ringNumber_60 : decode cX7_ringNumber 60 = .ok (.istore 9, 2) := by decide +kernel
theorem dX7_ringNumber_62 : decode cX7_ringNumber 62 = .ok (.iload 9, 2) := by decide +kernel
theorem dX7_ringNumber_64 : decode cX7_ringNumber 64 = .ok (.iload_n 2, 1) := by decide +kernel
theorem dX7_ringNumber_65 : decode cX7_ringNumber 65 = .ok (.if_icmp .ge 52, 3) := by decide +kernel
theorem dX7_ringNumber_68 : decode cX7_ringNumber 68 = .ok (.lload 7, 2) := by decide +kernel
theorem dX7_ringNumber_70 : decode cX7_ringNumber 70 = .ok (.invokestatic 178, 3) := by decide +kernel
theorem dX7_ringNumber_73 : decode cX7_ringNumber 73 = .ok (.ifCond .eq 23, 3) := by decide +kernel
theorem dX7_ringNumber_76 : decode cX7_ringNumber 76 = .ok (.aload_n 0, 1) := by decide +kernel
theorem dX7_ringNumber_77 : decode cX7_ringNumber 77 = .ok (.getfield 16, 3) := by decide +kernel
theorem dX7_ringNumber_80 : decode cX7_ringNumber 80 = .ok (.lload 7, 2) := by decide +kernel
theorem dX7_ringNumber_82 : decode cX7_ringNumber 82 = .ok (.invokevirtual 309, 3) := by decide +kernel
theorem dX7_ringNumber_85 : decode cX7_ringNumber 85 = .ok (.i2l, 1) := by decide +kernel
theorem dX7_ringNumber_86 : decode cX7_ringNumber 86 = .ok (.aload_n 1, 1) := by decide +kernel
theorem dX7_ringNumber_87 : decode cX7_ringNumber 87 = .ok (.iload 9, 2) := by decide +kernel
theorem dX7_ringNumber_89 : decode cX7_ringNumber 89 = .ok (.invokevirtual 369, 3) := by decide +kernel
theorem dX7_ringNumber_92 : decode cX7_ringNumber 92 = .ok (.lcmp, 1) := by decide +kernel
theorem dX7_ringNumber_93 : decode cX7_ringNumber 93 = .ok (.ifCond .eq 7, 3) := by decide +kernel
theorem dX7_ringNumber_96 : decode cX7_ringNumber 96 = .ok (.ldc2_w 190, 3) := by decide +kernel
theorem dX7_ringNumber_99 : decode cX7_ringNumber 99 = .ok (.lreturn, 1) := by decide +kernel
theorem dX7_ringNumber_100 : decode cX7_ringNumber 100 = .ok (.aload_n 0, 1) := by decide +kernel
theorem dX7_ringNumber_101 : decode cX7_ringNumber 101 = .ok (.getfield 16, 3) := by decide +kernel
theorem dX7_ringNumber_104 : decode cX7_ringNumber 104 = .ok (.lload 7, 2) := by decide +kernel
theorem dX7_ringNumber_106 : decode cX7_ringNumber 106 = .ok (.invokevirtual 385, 3) := by decide +kernel
theorem dX7_ringNumber_109 : decode cX7_ringNumber 109 = .ok (.lstore 7, 2) := by decide +kernel
theorem dX7_ringNumber_111 : decode cX7_ringNumber 111 = .ok (.iinc 9 1, 3) := by decide +kernel
theorem dX7_ringNumber_114 : decode cX7_ringNumber 114 = .ok (.goto (-52), 3) := by decide +kernel
theorem dX7_ringNumber_117 : decode cX7_ringNumber 117 = .ok (.lload 7, 2) := by decide +kernel
theorem dX7_ringNumber_119 : decode cX7_ringNumber 119 = .ok (.lload 5, 2) := by decide +kernel
theorem dX7_ringNumber_121 : decode cX7_ringNumber 121 = .ok (.lcmp, 1) := by decide +kernel
theorem dX7_ringNumber_122 : decode cX7_ringNumber 122 = .ok (.ifCond .ne 8, 3) := by decide +kernel
theorem dX7_ringNumber_125 : decode cX7_ringNumber 125 = .ok (.lload 5, 2) := by decide +kernel
theorem dX7_ringNumber_127 : decode cX7_ringNumber 127 = .ok (.goto 6, 3) := by decide +kernel
theorem dX7_ringNumber_130 : decode cX7_ringNumber 130 = .ok (.ldc2_w 190, 3) := by decide +kernel
theorem dX7_ringNumber_133 : decode cX7_ringNumber 133 = .ok (.lreturn, 1) := by decide +kernel
set_option maxRecDepth 20000 in
theorem ggX7_isLeastOfRing_X5_after : GoodIn wsX7_isLeastOfRing wsX5_after := goodIn_ca (goodIn_r _ [6, 7, 8, 9, 10, 5, 11, 12, 13, 14, 15, 16, 17, 18, 19, 20, 21, 22, 23, 24, 25, 26, 27, 28, 29, 30, 31, 32, 33, 34, 35, 36, 37, 38, 39, 40, 56, 57, 58, 59] (by decide +kernel) (by decide +kernel)) (goodIn_sub (fun _ h => List.mem_cons_of_mem _ (List.mem_append_right _ h)) (by decide +kernel))
set_option maxRecDepth 20000 in
theorem gX7_isLeastOfRing_X5_after : GoodIn wsX7_isLeastOfRing (wsV RX7 385 RX5 yX5_after wsX5_after) := goodIn_app (goodIn_of _ (by decide +kernel)) ggX7_isLeastOfRing_X5_after
theorem dX7_isLeastOfRing_0 : decode cX7_isLeastOfRing 0 = .ok (.lload_n 1, 1) := by decide +kernel
theorem dX7_isLeastOfRing_1 : decode cX7_isLeastOfRing 1 = .ok (.lstore 4, 2) := by decide +kernel
theorem dX7_isLeastOfRing_3 : decode cX7_isLeastOfRing 3 = .ok (.iconst 1, 1) := by decide +kernel
theorem dX7_isLeastOfRing_4 : decode cX7_isLeastOfRing 4 = .ok (.istore 6, 2) := by decide +kernel
theorem dX7_isLeastOfRing_6 : decode cX7_isLeastOfRing 6 = .ok (.iload 6, 2) := by decide +kernel
theorem dX7_isLeastOfRing_8 : decode cX7_isLeastOfRing 8 = .ok (.iload_n 3, 1) := by decide +kernel
theorem dX7_isLeastOfRing_9 : decode cX7_isLeastOfRing 9 = .ok (.if_icmp .ge 29, 3) := by decide +kernel
theorem dX7_isLeastOfRing_12 : decode cX7_isLeastOfRing 12 = .ok (.aload_n 0, 1) := by decide +kernel
theorem dX7_isLeastOfRing_13 : decode cX7_isLeastOfRing 13 = .ok (.getfield 16, 3) := by decide +kernel
theorem dX7_isLeastOfRing_16 : decode cX7_isLeastOfRing 16 = .ok (.lload 4, 2) := by decide +kernel
theorem dX7_isLeastOfRing_18 : decode cX7_isLeastOfRing 18 = .ok (.invokevirtual 385, 3) := by decide +kernel
theorem dX7_isLeastOfRing_21 : decode cX7_isLeastOfRing 21 = .ok (.lstore 4, 2) := by decide +kernel
theorem dX7_isLeastOfRing_23 : decode cX7_isLeastOfRing 23 = .ok (.lload 4, 2) := by decide +kernel
theorem dX7_isLeastOfRing_25 : decode cX7_isLeastOfRing 25 = .ok (.lload_n 1, 1) := by decide +kernel
theorem dX7_isLeastOfRing_26 : decode cX7_isLeastOfRing 26 = .ok (.lcmp, 1) := by decide +kernel
theorem dX7_isLeastOfRing_27 : decode cX7_isLeastOfRing 27 = .ok (.ifCond .gt 5, 3) := by decide +kernel
theorem dX7_isLeastOfRing_30 : decode cX7_isLeastOfRing 30 = .ok (.iconst 0, 1) := by decide +kernel
theorem dX7_isLeastOfRing_31 : decode cX7_isLeastOfRing 31 = .ok (.ireturn, 1) := by decide +kernel
theorem dX7_isLeastOfRing_32 : decode cX7_isLeastOfRing 32 = .ok (.iinc 6 1, 3) := by decide +kernel
theorem dX7_isLeastOfRing_35 : decode cX7_isLeastOfRing 35 = .ok (.goto (-29), 3) := by decide +kernel
theorem dX7_isLeastOfRing_38 : decode cX7_isLeastOfRing 38 = .ok (.iconst 1, 1) := by decide +kernel
theorem dX7_isLeastOfRing_39 : decode cX7_isLeastOfRing 39 = .ok (.ireturn, 1) := by decide +kernel
set_option maxRecDepth 20000 in
theorem ggX7_firstWord_X2_zeros : GoodIn wsX7_firstWord wsX2_zeros := goodIn_r _ [6, 7, 8, 9, 10, 5, 11, 12, 28, 29] (by decide +kernel) (by decide +kernel)
set_option maxRecDepth 20000 in
theorem gX7_firstWord_X2_zeros : GoodIn wsX7_firstWord (wsV RX7 394 RX2 yX2_zeros wsX2_zeros) := goodIn_app (goodIn_of _ (by decide +kernel)) ggX7_firstWord_X2_zeros
theorem dX7_firstWord_0 : decode cX7_firstWord 0 = .ok (.aload_n 0, 1) := by decide +kernel
theorem dX7_firstWord_1 : decode cX7_firstWord 1 = .ok (.getfield 58, 3) := by decide +kernel
theorem dX7_firstWord_4 : decode cX7_firstWord 4 = .ok (.iload_n 1, 1) := by decide +kernel
theorem dX7_firstWord_5 : decode cX7_firstWord 5 = .ok (.invokevirtual 394, 3) := by decide +kernel
theorem dX7_firstWord_8 : decode cX7_firstWord 8 = .ok (.iconst 0, 1) := by decide +kernel
theorem dX7_firstWord_9 : decode cX7_firstWord 9 = .ok (.ireturn, 1) := by decide +kernel
set_option maxRecDepth 20000 in
theorem ggX7_nextWord_X2_at : GoodIn wsX7_nextWord wsX2_at := goodIn_r _ [7, 8, 9, 10, 11, 6, 12, 13, 39, 40] (by decide +kernel) (by decide +kernel)
set_option maxRecDepth 20000 in
theorem gX7_nextWord_X2_at : GoodIn wsX7_nextWord (wsV RX7 369 RX2 yX2_at wsX2_at) := goodIn_app (goodIn_of _ (by decide +kernel)) ggX7_nextWord_X2_at
set_option maxRecDepth 20000 in
theorem ggX7_nextWord_X5_measure : GoodIn wsX7_nextWord wsX5_measure := goodIn_r _ [18, 19, 41, 42, 43, 44] (by decide +kernel) (by decide +kernel)
set_option maxRecDepth 20000 in
theorem gX7_nextWord_X5_measure : GoodIn wsX7_nextWord (wsV RX7 99 RX5 yX5_measure wsX5_measure) := goodIn_app (goodIn_of _ (by decide +kernel)) ggX7_nextWord_X5_measure
set_option maxRecDepth 20000 in
theorem ggX7_nextWord_X2_put : GoodIn wsX7_nextWord wsX2_put := goodIn_r _ [23, 8, 9, 10, 11, 6, 12, 13, 39, 40] (by decide +kernel) (by decide +kernel)
set_option maxRecDepth 20000 in
theorem gX7_nextWord_X2_put : GoodIn wsX7_nextWord (wsV RX7 397 RX2 yX2_put wsX2_put) := goodIn_app (goodIn_of _ (by decide +kernel)) ggX7_nextWord_X2_put
theorem dX7_nextWord_0 : decode cX7_nextWord 0 = .ok (.iload_n 1, 1) := by decide +kernel
theorem dX7_nextWord_1 : decode cX7_nextWord 1 = .ok (.iconst 1, 1) := by decide +kernel
theorem dX7_nextWord_2 : decode cX7_nextWord 2 = .ok (.isub, 1) := by decide +kernel
theorem dX7_nextWord_3 : decode cX7_nextWord 3 = .ok (.istore_n 2, 1) := by decide +kernel
theorem dX7_nextWord_4 : decode cX7_nextWord 4 = .ok (.iload_n 2, 1) := by decide +kernel
theorem dX7_nextWord_5 : decode cX7_nextWord 5 = .ok (.ifCond .le 40, 3) := by decide +kernel
theorem dX7_nextWord_8 : decode cX7_nextWord 8 = .ok (.aload_n 0, 1) := by decide +kernel
theorem dX7_nextWord_9 : decode cX7_nextWord 9 = .ok (.getfield 58, 3) := by decide +kernel
theorem dX7_nextWord_12 : decode cX7_nextWord 12 = .ok (.iload_n 2, 1) := by decide +kernel
theorem dX7_nextWord_13 : decode cX7_nextWord 13 = .ok (.invokevirtual 369, 3) := by decide +kernel
theorem dX7_nextWord_16 : decode cX7_nextWord 16 = .ok (.aload_n 0, 1) := by decide +kernel
theorem dX7_nextWord_17 : decode cX7_nextWord 17 = .ok (.getfield 16, 3) := by decide +kernel
theorem dX7_nextWord_20 : decode cX7_nextWord 20 = .ok (.invokevirtual 99, 3) := by decide +kernel
theorem dX7_nextWord_23 : decode cX7_nextWord 23 = .ok (.iconst 1, 1) := by decide +kernel
theorem dX7_nextWord_24 : decode cX7_nextWord 24 = .ok (.isub, 1) := by decide +kernel
theorem dX7_nextWord_25 : decode cX7_nextWord 25 = .ok (.i2l, 1) := by decide +kernel
theorem dX7_nextWord_26 : decode cX7_nextWord 26 = .ok (.lcmp, 1) := by decide +kernel
theorem dX7_nextWord_27 : decode cX7_nextWord 27 = .ok (.ifCond .ne 18, 3) := by decide +kernel
theorem dX7_nextWord_30 : decode cX7_nextWord 30 = .ok (.aload_n 0, 1) := by decide +kernel
theorem dX7_nextWord_31 : decode cX7_nextWord 31 = .ok (.getfield 58, 3) := by decide +kernel
theorem dX7_nextWord_34 : decode cX7_nextWord 34 = .ok (.iload_n 2, 1) := by decide +kernel
theorem dX7_nextWord_35 : decode cX7_nextWord 35 = .ok (.lconst 0, 1) := by decide +kernel
theorem dX7_nextWord_36 : decode cX7_nextWord 36 = .ok (.invokevirtual 397, 3) := by decide +kernel
theorem dX7_nextWord_39 : decode cX7_nextWord 39 = .ok (.iinc 2 (-1), 3) := by decide +kernel
theorem dX7_nextWord_42 : decode cX7_nextWord 42 = .ok (.goto (-38), 3) := by decide +kernel
theorem dX7_nextWord_45 : decode cX7_nextWord 45 = .ok (.aload_n 0, 1) := by decide +kernel
theorem dX7_nextWord_46 : decode cX7_nextWord 46 = .ok (.getfield 58, 3) := by decide +kernel
theorem dX7_nextWord_49 : decode cX7_nextWord 49 = .ok (.iload_n 2, 1) := by decide +kernel
theorem dX7_nextWord_50 : decode cX7_nextWord 50 = .ok (.aload_n 0, 1) := by decide +kernel
theorem dX7_nextWord_51 : decode cX7_nextWord 51 = .ok (.getfield 58, 3) := by decide +kernel
theorem dX7_nextWord_54 : decode cX7_nextWord 54 = .ok (.iload_n 2, 1) := by decide +kernel
theorem dX7_nextWord_55 : decode cX7_nextWord 55 = .ok (.invokevirtual 369, 3) := by decide +kernel
theorem dX7_nextWord_58 : decode cX7_nextWord 58 = .ok (.lconst 1, 1) := by decide +kernel
theorem dX7_nextWord_59 : decode cX7_nextWord 59 = .ok (.ladd, 1) := by decide +kernel
theorem dX7_nextWord_60 : decode cX7_nextWord 60 = .ok (.invokevirtual 397, 3) := by decide +kernel
theorem dX7_nextWord_63 : decode cX7_nextWord 63 = .ok (.iload_n 2, 1) := by decide +kernel
theorem dX7_nextWord_64 : decode cX7_nextWord 64 = .ok (.ireturn, 1) := by decide +kernel
set_option maxRecDepth 20000 in
theorem ggX7_fallOfClass_X5_restOf : GoodIn wsX7_fallOfClass wsX5_restOf := goodIn_r _ [7, 8, 9, 10, 11, 12, 97, 98, 99, 100] (by decide +kernel) (by decide +kernel)
set_option maxRecDepth 20000 in
theorem gX7_fallOfClass_X5_restOf : GoodIn wsX7_fallOfClass (wsV RX7 309 RX5 yX5_restOf wsX5_restOf) := goodIn_app (goodIn_of _ (by decide +kernel)) ggX7_fallOfClass_X5_restOf
set_option maxRecDepth 20000 in
theorem ggX7_fallOfClass_X4_extend : GoodIn wsX7_fallOfClass wsX4_extend := goodIn_ca (goodIn_r _ [17, 18, 19, 20, 21, 22, 16, 23, 24, 25, 26, 6, 27, 28, 29, 30, 31, 32, 8, 33, 34, 35, 36, 37, 38, 39, 40, 41, 42, 43, 44, 45, 46, 47, 48, 49, 50, 51, 52, 53, 54, 55, 56, 57, 58, 59, 60, 61, 101, 102, 103, 97, 98, 99, 100] (by decide +kernel) (by decide +kernel)) (goodIn_sub (fun _ h => List.mem_cons_of_mem _ (List.mem_append_right _ h)) (by decide +kernel))
set_option maxRecDepth 20000 in
theorem gX7_fallOfClass_X4_extend : GoodIn wsX7_fallOfClass (wsV RX7 390 RX4 yX4_extend wsX4_extend) := goodIn_app (goodIn_of _ (by decide +kernel)) ggX7_fallOfClass_X4_extend
set_option maxRecDepth 20000 in
theorem ggX7_fallOfClass_X5_after : GoodIn wsX7_fallOfClass wsX5_after := goodIn_ca (goodIn_r _ [65, 66, 67, 4, 5, 6, 7, 8, 9, 10, 11, 12, 68, 25, 26, 27, 28, 29, 30, 31, 32, 69, 34, 35, 36, 37, 70, 39, 40, 41, 42, 47, 48, 49, 50, 51, 97, 98, 99, 100] (by decide +kernel) (by decide +kernel)) (goodIn_sub (fun _ h => List.mem_cons_of_mem _ (List.mem_append_right _ h)) (by decide +kernel))
set_option maxRecDepth 20000 in
theorem gX7_fallOfClass_X5_after : GoodIn wsX7_fallOfClass (wsV RX7 385 RX5 yX5_after wsX5_after) := goodIn_app (goodIn_of _ (by decide +kernel)) ggX7_fallOfClass_X5_after
set_option maxRecDepth 20000 in
theorem ggX7_fallOfClass_X5_a : GoodIn wsX7_fallOfClass wsX5_a := goodIn_r _ [27, 28, 29, 30, 31, 6, 32, 8, 97, 98, 99, 100] (by decide +kernel) (by decide +kernel)
set_option maxRecDepth 20000 in
theorem gX7_fallOfClass_X5_a : GoodIn wsX7_fallOfClass (wsV RX7 266 RX5 yX5_a wsX5_a) := goodIn_app (goodIn_of _ (by decide +kernel)) ggX7_fallOfClass_X5_a
set_option maxRecDepth 20000 in
theorem ggX7_fallOfClass_X5_d : GoodIn wsX7_fallOfClass wsX5_d := goodIn_r _ [41, 42, 29, 30, 31, 6, 32, 8, 97, 98, 99, 100] (by decide +kernel) (by decide +kernel)
set_option maxRecDepth 20000 in
theorem gX7_fallOfClass_X5_d : GoodIn wsX7_fallOfClass (wsV RX7 299 RX5 yX5_d wsX5_d) := goodIn_app (goodIn_of _ (by decide +kernel)) ggX7_fallOfClass_X5_d
set_option maxRecDepth 20000 in
theorem ggX7_fallOfClass_X7_isNumber : GoodIn wsX7_fallOfClass wsX7_isNumber := goodIn_r _ [49, 50, 51] (by decide +kernel) (by decide +kernel)
set_option maxRecDepth 20000 in
theorem gX7_fallOfClass_X7_isNumber : GoodIn wsX7_fallOfClass (va_wsS RX7 178 yX7_isNumber wsX7_isNumber) := goodIn_app (goodIn_of _ (by decide +kernel)) ggX7_fallOfClass_X7_isNumber
set_option maxRecDepth 20000 in
theorem ggX7_fallOfClass_X4_factor : GoodIn wsX7_fallOfClass wsX4_factor := goodIn_r _ [77, 18, 21, 22, 16, 23, 101, 102, 103] (by decide +kernel) (by decide +kernel)
set_option maxRecDepth 20000 in
theorem gX7_fallOfClass_X4_factor : GoodIn wsX7_fallOfClass (wsV RX7 224 RX4 yX4_factor wsX4_factor) := goodIn_app (goodIn_of _ (by decide +kernel)) ggX7_fallOfClass_X4_factor
set_option maxRecDepth 20000 in
theorem ggX7_fallOfClass_X4_divisor : GoodIn wsX7_fallOfClass wsX4_divisor := goodIn_r _ [81, 20, 21, 22, 16, 23, 101, 102, 103] (by decide +kernel) (by decide +kernel)
set_option maxRecDepth 20000 in
theorem gX7_fallOfClass_X4_divisor : GoodIn wsX7_fallOfClass (wsV RX7 230 RX4 yX4_divisor wsX4_divisor) := goodIn_app (goodIn_of _ (by decide +kernel)) ggX7_fallOfClass_X4_divisor
theorem dX7_fallOfClass_0 : decode cX7_fallOfClass 0 = .ok (.iload_n 1, 1) := by decide +kernel
theorem dX7_fallOfClass_1 : decode cX7_fallOfClass 1 = .ok (.i2l, 1) := by decide +kernel
theorem dX7_fallOfClass_2 : decode cX7_fallOfClass 2 = .ok (.lstore 4, 2) := by decide +kernel
theorem dX7_fallOfClass_4 : decode cX7_fallOfClass 4 = .ok (.iload_n 2, 1) := by decide +kernel
theorem dX7_fallOfClass_5 : decode cX7_fallOfClass 5 = .ok (.i2l, 1) := by decide +kernel
theorem dX7_fallOfClass_6 : decode cX7_fallOfClass 6 = .ok (.lstore 6, 2) := by decide +kernel
theorem dX7_fallOfClass_8 : decode cX7_fallOfClass 8 = .ok (.iconst 0, 1) := by decide +kernel
theorem dX7_fallOfClass_9 : decode cX7_fallOfClass 9 = .ok (.istore 8, 2) := by decide +kernel
theorem dX7_fallOfClass_11 : decode cX7_fallOfClass 11 = .ok (.iload 8, 2) := by decide +kernel
theorem dX7_fallOfClass_13 : decode cX7_fallOfClass 13 = .ok (.iload_n 3, 1) := by decide +kernel
theorem dX7_fallOfClass_14 : decode cX7_fallOfClass 14 = .ok (.if_icmp .ge 111, 3) := by decide +kernel
theorem dX7_fallOfClass_17 : decode cX7_fallOfClass 17 = .ok (.aload_n 0, 1) := by decide +kernel
theorem dX7_fallOfClass_18 : decode cX7_fallOfClass 18 = .ok (.getfield 16, 3) := by decide +kernel
theorem dX7_fallOfClass_21 : decode cX7_fallOfClass 21 = .ok (.lload 6, 2) := by decide +kernel
theorem dX7_fallOfClass_23 : decode cX7_fallOfClass 23 = .ok (.invokevirtual 309, 3) := by decide +kernel
theorem dX7_fallOfClass_26 : decode cX7_fallOfClass 26 = .ok (.ifCond .eq 6, 3) := by decide +kernel
theorem dX7_fallOfClass_29 : decode cX7_fallOfClass 29 = .ok (.bipush (-3), 2) := by decide +kernel
theorem dX7_fallOfClass_31 : decode cX7_fallOfClass 31 = .ok (.ireturn, 1) := by decide +kernel
theorem dX7_fallOfClass_32 : decode cX7_fallOfClass 32 = .ok (.aload_n 0, 1) := by decide +kernel
theorem dX7_fallOfClass_33 : decode cX7_fallOfClass 33 = .ok (.getfield 16, 3) := by decide +kernel
theorem dX7_fallOfClass_36 : decode cX7_fallOfClass 36 = .ok (.lload 4, 2) := by decide +kernel
theorem dX7_fallOfClass_38 : decode cX7_fallOfClass 38 = .ok (.invokevirtual 309, 3) := by decide +kernel
theorem dX7_fallOfClass_41 : decode cX7_fallOfClass 41 = .ok (.istore 9, 2) := by decide +kernel
theorem dX7_fallOfClass_43 : decode cX7_fallOfClass 43 = .ok (.aload_n 0, 1) := by decide +kernel
theorem dX7_fallOfClass_44 : decode cX7_fallOfClass 44 = .ok (.getfield 64, 3) := by decide +kernel
theorem dX7_fallOfClass_47 : decode cX7_fallOfClass 47 = .ok (.iload 8, 2) := by decide +kernel
theorem dX7_fallOfClass_49 : decode cX7_fallOfClass 49 = .ok (.aload_n 0, 1) := by decide +kernel
theorem dX7_fallOfClass_50 : decode cX7_fallOfClass 50 = .ok (.getfield 16, 3) := by decide +kernel
theorem dX7_fallOfClass_53 : decode cX7_fallOfClass 53 = .ok (.iload 9, 2) := by decide +kernel
theorem dX7_fallOfClass_55 : decode cX7_fallOfClass 55 = .ok (.invokevirtual 390, 3) := by decide +kernel
theorem dX7_fallOfClass_58 : decode cX7_fallOfClass 58 = .ok (.istore 10, 2) := by decide +kernel
theorem dX7_fallOfClass_60 : decode cX7_fallOfClass 60 = .ok (.aload_n 0, 1) := by decide +kernel
theorem dX7_fallOfClass_61 : decode cX7_fallOfClass 61 = .ok (.getfield 16, 3) := by decide +kernel
theorem dX7_fallOfClass_64 : decode cX7_fallOfClass 64 = .ok (.lload 4, 2) := by decide +kernel
theorem dX7_fallOfClass_66 : decode cX7_fallOfClass 66 = .ok (.invokevirtual 385, 3) := by decide +kernel
theorem dX7_fallOfClass_69 : decode cX7_fallOfClass 69 = .ok (.lstore 4, 2) := by decide +kernel
theorem dX7_fallOfClass_71 : decode cX7_fallOfClass 71 = .ok (.lload 6, 2) := by decide +kernel
theorem dX7_fallOfClass_73 : decode cX7_fallOfClass 73 = .ok (.aload_n 0, 1) := by decide +kernel
theorem dX7_fallOfClass_74 : decode cX7_fallOfClass 74 = .ok (.getfield 16, 3) := by decide +kernel
theorem dX7_fallOfClass_77 : decode cX7_fallOfClass 77 = .ok (.iload 9, 2) := by decide +kernel
theorem dX7_fallOfClass_79 : decode cX7_fallOfClass 79 = .ok (.invokevirtual 266, 3) := by decide +kernel
theorem dX7_fallOfClass_82 : decode cX7_fallOfClass 82 = .ok (.lmul, 1) := by decide +kernel
theorem dX7_fallOfClass_83 : decode cX7_fallOfClass 83 = .ok (.aload_n 0, 1) := by decide +kernel
theorem dX7_fallOfClass_84 : decode cX7_fallOfClass 84 = .ok (.getfield 16, 3) := by decide +kernel
theorem dX7_fallOfClass_87 : decode cX7_fallOfClass 87 = .ok (.iload 9, 2) := by decide +kernel
theorem dX7_fallOfClass_89 : decode cX7_fallOfClass 89 = .ok (.invokevirtual 299, 3) := by decide +kernel
theorem dX7_fallOfClass_92 : decode cX7_fallOfClass 92 = .ok (.ldiv, 1) := by decide +kernel
theorem dX7_fallOfClass_93 : decode cX7_fallOfClass 93 = .ok (.lstore 6, 2) := by decide +kernel
theorem dX7_fallOfClass_95 : decode cX7_fallOfClass 95 = .ok (.iload 10, 2) := by decide +kernel
theorem dX7_fallOfClass_97 : decode cX7_fallOfClass 97 = .ok (.ifCond .eq 19, 3) := by decide +kernel
theorem dX7_fallOfClass_100 : decode cX7_fallOfClass 100 = .ok (.lload 4, 2) := by decide +kernel
theorem dX7_fallOfClass_102 : decode cX7_fallOfClass 102 = .ok (.invokestatic 178, 3) := by decide +kernel
theorem dX7_fallOfClass_105 : decode cX7_fallOfClass 105 = .ok (.ifCond .eq 11, 3) := by decide +kernel
theorem dX7_fallOfClass_108 : decode cX7_fallOfClass 108 = .ok (.lload 6, 2) := by decide +kernel
theorem dX7_fallOfClass_110 : decode cX7_fallOfClass 110 = .ok (.invokestatic 178, 3) := by decide +kernel
theorem dX7_fallOfClass_113 : decode cX7_fallOfClass 113 = .ok (.ifCond .ne 6, 3) := by decide +kernel
theorem dX7_fallOfClass_116 : decode cX7_fallOfClass 116 = .ok (.bipush (-4), 2) := by decide +kernel
theorem dX7_fallOfClass_118 : decode cX7_fallOfClass 118 = .ok (.ireturn, 1) := by decide +kernel
theorem dX7_fallOfClass_119 : decode cX7_fallOfClass 119 = .ok (.iinc 8 1, 3) := by decide +kernel
theorem dX7_fallOfClass_122 : decode cX7_fallOfClass 122 = .ok (.goto (-111), 3) := by decide +kernel
theorem dX7_fallOfClass_125 : decode cX7_fallOfClass 125 = .ok (.aload_n 0, 1) := by decide +kernel
theorem dX7_fallOfClass_126 : decode cX7_fallOfClass 126 = .ok (.getfield 64, 3) := by decide +kernel
theorem dX7_fallOfClass_129 : decode cX7_fallOfClass 129 = .ok (.iload_n 3, 1) := by decide +kernel
theorem dX7_fallOfClass_130 : decode cX7_fallOfClass 130 = .ok (.invokevirtual 224, 3) := by decide +kernel
theorem dX7_fallOfClass_133 : decode cX7_fallOfClass 133 = .ok (.aload_n 0, 1) := by decide +kernel
theorem dX7_fallOfClass_134 : decode cX7_fallOfClass 134 = .ok (.getfield 64, 3) := by decide +kernel
theorem dX7_fallOfClass_137 : decode cX7_fallOfClass 137 = .ok (.iload_n 3, 1) := by decide +kernel
theorem dX7_fallOfClass_138 : decode cX7_fallOfClass 138 = .ok (.invokevirtual 230, 3) := by decide +kernel
theorem dX7_fallOfClass_141 : decode cX7_fallOfClass 141 = .ok (.lcmp, 1) := by decide +kernel
theorem dX7_fallOfClass_142 : decode cX7_fallOfClass 142 = .ok (.ifCond .ge 7, 3) := by decide +kernel
theorem dX7_fallOfClass_145 : decode cX7_fallOfClass 145 = .ok (.iconst 1, 1) := by decide +kernel
theorem dX7_fallOfClass_146 : decode cX7_fallOfClass 146 = .ok (.goto 4, 3) := by decide +kernel
theorem dX7_fallOfClass_149 : decode cX7_fallOfClass 149 = .ok (.iconst 0, 1) := by decide +kernel
theorem dX7_fallOfClass_150 : decode cX7_fallOfClass 150 = .ok (.ireturn, 1) := by decide +kernel
set_option maxRecDepth 20000 in
theorem ggX7_goBackFromFound_X2_empty : GoodIn wsX7_goBackFromFound wsX2_empty := goodIn_r _ [8, 9, 92, 93] (by decide +kernel) (by decide +kernel)
set_option maxRecDepth 20000 in
theorem gX7_goBackFromFound_X2_empty : GoodIn wsX7_goBackFromFound (wsV RX7 208 RX2 yX2_empty wsX2_empty) := goodIn_app (goodIn_of _ (by decide +kernel)) ggX7_goBackFromFound_X2_empty
set_option maxRecDepth 20000 in
theorem ggX7_goBackFromFound_X2_size : GoodIn wsX7_goBackFromFound wsX2_size := goodIn_r _ [13, 9, 92, 93] (by decide +kernel) (by decide +kernel)
set_option maxRecDepth 20000 in
theorem gX7_goBackFromFound_X2_size : GoodIn wsX7_goBackFromFound (wsV RX7 149 RX2 yX2_size wsX2_size) := goodIn_app (goodIn_of _ (by decide +kernel)) ggX7_goBackFromFound_X2_size
set_option maxRecDepth 20000 in
theorem ggX7_goBackFromFound_X5_measure : GoodIn wsX7_goBackFromFound wsX5_measure := goodIn_r _ [18, 19, 94, 95, 96, 97] (by decide +kernel) (by decide +kernel)
set_option maxRecDepth 20000 in
theorem gX7_goBackFromFound_X5_measure : GoodIn wsX7_goBackFromFound (wsV RX7 99 RX5 yX5_measure wsX5_measure) := goodIn_app (goodIn_of _ (by decide +kernel)) ggX7_goBackFromFound_X5_measure
set_option maxRecDepth 20000 in
theorem ggX7_goBackFromFound_X2_at : GoodIn wsX7_goBackFromFound wsX2_at := goodIn_r _ [23, 24, 25, 26, 27, 7, 28, 9, 92, 93] (by decide +kernel) (by decide +kernel)
set_option maxRecDepth 20000 in
theorem gX7_goBackFromFound_X2_at : GoodIn wsX7_goBackFromFound (wsV RX7 369 RX2 yX2_at wsX2_at) := goodIn_app (goodIn_of _ (by decide +kernel)) ggX7_goBackFromFound_X2_at
set_option maxRecDepth 20000 in
theorem ggX7_goBackFromFound_X5_before : GoodIn wsX7_goBackFromFound wsX5_before := goodIn_ca (goodIn_r _ [32, 33, 34, 35, 36, 17, 37, 38, 39, 40, 41, 42, 19, 43, 44, 45, 46, 47, 48, 49, 50, 51, 52, 53, 54, 55, 56, 57, 58, 59, 60, 61, 62, 63, 64, 65, 94, 95, 96, 97] (by decide +kernel) (by decide +kernel)) (goodIn_sub (fun _ h => List.mem_cons_of_mem _ (List.mem_append_right _ h)) (by decide +kernel))
set_option maxRecDepth 20000 in
theorem gX7_goBackFromFound_X5_before : GoodIn wsX7_goBackFromFound (wsV RX7 263 RX5 yX5_before wsX5_before) := goodIn_app (goodIn_of _ (by decide +kernel)) ggX7_goBackFromFound_X5_before
set_option maxRecDepth 20000 in
theorem ggX7_goBackFromFound_X7_isNumber : GoodIn wsX7_goBackFromFound wsX7_isNumber := goodIn_r _ [55, 56, 57] (by decide +kernel) (by decide +kernel)
set_option maxRecDepth 20000 in
theorem gX7_goBackFromFound_X7_isNumber : GoodIn wsX7_goBackFromFound (va_wsS RX7 178 yX7_isNumber wsX7_isNumber) := goodIn_app (goodIn_of _ (by decide +kernel)) ggX7_goBackFromFound_X7_isNumber
set_option maxRecDepth 20000 in
theorem ggX7_goBackFromFound_X2_add : GoodIn wsX7_goBackFromFound wsX2_add := goodIn_r _ [70, 9, 24, 92, 93] (by decide +kernel) (by decide +kernel)
set_option maxRecDepth 20000 in
theorem gX7_goBackFromFound_X2_add : GoodIn wsX7_goBackFromFound (wsV RX7 213 RX2 yX2_add wsX2_add) := goodIn_app (goodIn_of _ (by decide +kernel)) ggX7_goBackFromFound_X2_add
set_option maxRecDepth 20000 in
theorem ggX7_goBackFromFound_X2_become : GoodIn wsX7_goBackFromFound wsX2_become := goodIn_r _ [74, 9, 75, 21, 22, 7, 23, 24, 25, 26, 27, 28, 76, 68, 69, 70, 92, 93] (by decide +kernel) (by decide +kernel)
set_option maxRecDepth 20000 in
theorem gX7_goBackFromFound_X2_become : GoodIn wsX7_goBackFromFound (wsV RX7 215 RX2 yX2_become wsX2_become) := goodIn_app (goodIn_of _ (by decide +kernel)) ggX7_goBackFromFound_X2_become
theorem dX7_goBackFromFound_0 : decode cX7_goBackFromFound 0 = .ok (.aload_n 0, 1) := by decide +kernel
theorem dX7_goBackFromFound_1 : decode cX7_goBackFromFound 1 = .ok (.getfield 52, 3) := by decide +kernel
theorem dX7_goBackFromFound_4 : decode cX7_goBackFromFound 4 = .ok (.invokevirtual 208, 3) := by decide +kernel
theorem dX7_goBackFromFound_7 : decode cX7_goBackFromFound 7 = .ok (.iconst 0, 1) := by decide +kernel
theorem dX7_goBackFromFound_8 : decode cX7_goBackFromFound 8 = .ok (.istore_n 1, 1) := by decide +kernel
theorem dX7_goBackFromFound_9 : decode cX7_goBackFromFound 9 = .ok (.iload_n 1, 1) := by decide +kernel
theorem dX7_goBackFromFound_10 : decode cX7_goBackFromFound 10 = .ok (.aload_n 0, 1) := by decide +kernel
theorem dX7_goBackFromFound_11 : decode cX7_goBackFromFound 11 = .ok (.getfield 49, 3) := by decide +kernel
theorem dX7_goBackFromFound_14 : decode cX7_goBackFromFound 14 = .ok (.invokevirtual 149, 3) := by decide +kernel
theorem dX7_goBackFromFound_17 : decode cX7_goBackFromFound 17 = .ok (.if_icmp .ge 65, 3) := by decide +kernel
theorem dX7_goBackFromFound_20 : decode cX7_goBackFromFound 20 = .ok (.iconst 0, 1) := by decide +kernel
theorem dX7_goBackFromFound_21 : decode cX7_goBackFromFound 21 = .ok (.istore_n 2, 1) := by decide +kernel
theorem dX7_goBackFromFound_22 : decode cX7_goBackFromFound 22 = .ok (.iload_n 2, 1) := by decide +kernel
theorem dX7_goBackFromFound_23 : decode cX7_goBackFromFound 23 = .ok (.aload_n 0, 1) := by decide +kernel
theorem dX7_goBackFromFound_24 : decode cX7_goBackFromFound 24 = .ok (.getfield 16, 3) := by decide +kernel
theorem dX7_goBackFromFound_27 : decode cX7_goBackFromFound 27 = .ok (.invokevirtual 99, 3) := by decide +kernel
theorem dX7_goBackFromFound_30 : decode cX7_goBackFromFound 30 = .ok (.if_icmp .ge 46, 3) := by decide +kernel
theorem dX7_goBackFromFound_33 : decode cX7_goBackFromFound 33 = .ok (.aload_n 0, 1) := by decide +kernel
theorem dX7_goBackFromFound_34 : decode cX7_goBackFromFound 34 = .ok (.getfield 16, 3) := by decide +kernel
theorem dX7_goBackFromFound_37 : decode cX7_goBackFromFound 37 = .ok (.aload_n 0, 1) := by decide +kernel
theorem dX7_goBackFromFound_38 : decode cX7_goBackFromFound 38 = .ok (.getfield 49, 3) := by decide +kernel
theorem dX7_goBackFromFound_41 : decode cX7_goBackFromFound 41 = .ok (.iload_n 1, 1) := by decide +kernel
theorem dX7_goBackFromFound_42 : decode cX7_goBackFromFound 42 = .ok (.invokevirtual 369, 3) := by decide +kernel
theorem dX7_goBackFromFound_45 : decode cX7_goBackFromFound 45 = .ok (.iload_n 2, 1) := by decide +kernel
theorem dX7_goBackFromFound_46 : decode cX7_goBackFromFound 46 = .ok (.invokevirtual 263, 3) := by decide +kernel
theorem dX7_goBackFromFound_49 : decode cX7_goBackFromFound 49 = .ok (.lstore_n 3, 1) := by decide +kernel
theorem dX7_goBackFromFound_50 : decode cX7_goBackFromFound 50 = .ok (.lload_n 3, 1) := by decide +kernel
theorem dX7_goBackFromFound_51 : decode cX7_goBackFromFound 51 = .ok (.invokestatic 178, 3) := by decide +kernel
theorem dX7_goBackFromFound_54 : decode cX7_goBackFromFound 54 = .ok (.ifCond .eq 16, 3) := by decide +kernel
theorem dX7_goBackFromFound_57 : decode cX7_goBackFromFound 57 = .ok (.aload_n 0, 1) := by decide +kernel
theorem dX7_goBackFromFound_58 : decode cX7_goBackFromFound 58 = .ok (.getfield 52, 3) := by decide +kernel
theorem dX7_goBackFromFound_61 : decode cX7_goBackFromFound 61 = .ok (.lload_n 3, 1) := by decide +kernel
theorem dX7_goBackFromFound_62 : decode cX7_goBackFromFound 62 = .ok (.invokevirtual 213, 3) := by decide +kernel
theorem dX7_goBackFromFound_65 : decode cX7_goBackFromFound 65 = .ok (.ifCond .ne 5, 3) := by decide +kernel
theorem dX7_goBackFromFound_68 : decode cX7_goBackFromFound 68 = .ok (.iconst 0, 1) := by decide +kernel
theorem dX7_goBackFromFound_69 : decode cX7_goBackFromFound 69 = .ok (.ireturn, 1) := by decide +kernel
theorem dX7_goBackFromFound_70 : decode cX7_goBackFromFound 70 = .ok (.iinc 2 1, 3) := by decide +kernel
theorem dX7_goBackFromFound_73 : decode cX7_goBackFromFound 73 = .ok (.goto (-51), 3) := by decide +kernel
theorem dX7_goBackFromFound_76 : decode cX7_goBackFromFound 76 = .ok (.iinc 1 1, 3) := by decide +kernel
theorem dX7_goBackFromFound_79 : decode cX7_goBackFromFound 79 = .ok (.goto (-70), 3) := by decide +kernel
theorem dX7_goBackFromFound_82 : decode cX7_goBackFromFound 82 = .ok (.aload_n 0, 1) := by decide +kernel
theorem dX7_goBackFromFound_83 : decode cX7_goBackFromFound 83 = .ok (.getfield 49, 3) := by decide +kernel
theorem dX7_goBackFromFound_86 : decode cX7_goBackFromFound 86 = .ok (.aload_n 0, 1) := by decide +kernel
theorem dX7_goBackFromFound_87 : decode cX7_goBackFromFound 87 = .ok (.getfield 52, 3) := by decide +kernel
theorem dX7_goBackFromFound_90 : decode cX7_goBackFromFound 90 = .ok (.invokevirtual 215, 3) := by decide +kernel
theorem dX7_goBackFromFound_93 : decode cX7_goBackFromFound 93 = .ok (.iconst 1, 1) := by decide +kernel
theorem dX7_goBackFromFound_94 : decode cX7_goBackFromFound 94 = .ok (.ireturn, 1) := by decide +kernel
set_option maxRecDepth 20000 in
theorem ggX7_turnRest_X5_restThatComesTo : GoodIn wsX7_turnRest wsX5_restThatComesTo := goodIn_ca (goodIn_r _ [8, 9, 10, 11, 12, 13, 14, 15, 16, 7, 17, 18, 19, 20, 21, 22, 23, 24, 25, 26, 27, 28, 29, 30, 31, 32, 33, 34, 35, 36, 37, 38, 39, 40, 41, 42, 43, 71, 72, 73, 74] (by decide +kernel) (by decide +kernel)) (goodIn_sub (fun _ h => List.mem_cons_of_mem _ (List.mem_append_right _ h)) (by decide +kernel))
set_option maxRecDepth 20000 in
theorem gX7_turnRest_X5_restThatComesTo : GoodIn wsX7_turnRest (wsV RX7 401 RX5 yX5_restThatComesTo wsX5_restThatComesTo) := goodIn_app (goodIn_of _ (by decide +kernel)) ggX7_turnRest_X5_restThatComesTo
set_option maxRecDepth 20000 in
theorem ggX7_turnRest_X5_a : GoodIn wsX7_turnRest wsX5_a := goodIn_r _ [21, 22, 23, 24, 25, 7, 26, 9, 71, 72, 73, 74] (by decide +kernel) (by decide +kernel)
set_option maxRecDepth 20000 in
theorem gX7_turnRest_X5_a : GoodIn wsX7_turnRest (wsV RX7 266 RX5 yX5_a wsX5_a) := goodIn_app (goodIn_of _ (by decide +kernel)) ggX7_turnRest_X5_a
set_option maxRecDepth 20000 in
theorem ggX7_turnRest_X5_d : GoodIn wsX7_turnRest wsX5_d := goodIn_r _ [35, 36, 23, 24, 25, 7, 26, 9, 71, 72, 73, 74] (by decide +kernel) (by decide +kernel)
set_option maxRecDepth 20000 in
theorem gX7_turnRest_X5_d : GoodIn wsX7_turnRest (wsV RX7 299 RX5 yX5_d wsX5_d) := goodIn_app (goodIn_of _ (by decide +kernel)) ggX7_turnRest_X5_d
set_option maxRecDepth 20000 in
theorem ggX7_turnRest_X5_b : GoodIn wsX7_turnRest wsX5_b := goodIn_r _ [30, 31, 23, 24, 25, 7, 26, 9, 71, 72, 73, 74] (by decide +kernel) (by decide +kernel)
set_option maxRecDepth 20000 in
theorem gX7_turnRest_X5_b : GoodIn wsX7_turnRest (wsV RX7 306 RX5 yX5_b wsX5_b) := goodIn_app (goodIn_of _ (by decide +kernel)) ggX7_turnRest_X5_b
set_option maxRecDepth 20000 in
theorem ggX7_turnRest_X7_commonDivisor : GoodIn wsX7_turnRest wsX7_commonDivisor := goodIn_ca (goodIn_r _ [50, 51, 42, 12, 43] (by decide +kernel) (by decide +kernel)) (goodIn_sub (fun _ h => List.mem_cons_of_mem _ (List.mem_append_right _ h)) (by decide +kernel))
set_option maxRecDepth 20000 in
theorem gX7_turnRest_X7_commonDivisor : GoodIn wsX7_turnRest (va_wsS RX7 406 yX7_commonDivisor wsX7_commonDivisor) := goodIn_app (goodIn_of _ (by decide +kernel)) ggX7_turnRest_X7_commonDivisor
set_option maxRecDepth 20000 in
theorem ggX7_turnRest_X5_write : GoodIn wsX7_turnRest wsX5_write := goodIn_r _ [55, 22, 31, 36, 23, 24, 25, 7, 26, 9, 71, 72, 73, 74] (by decide +kernel) (by decide +kernel)
set_option maxRecDepth 20000 in
theorem gX7_turnRest_X5_write : GoodIn wsX7_turnRest (wsV RX7 116 RX5 yX5_write wsX5_write) := goodIn_app (goodIn_of _ (by decide +kernel)) ggX7_turnRest_X5_write
theorem dX7_turnRest_0 : decode cX7_turnRest 0 = .ok (.aload_n 0, 1) := by decide +kernel
theorem dX7_turnRest_1 : decode cX7_turnRest 1 = .ok (.getfield 16, 3) := by decide +kernel
theorem dX7_turnRest_4 : decode cX7_turnRest 4 = .ok (.iload_n 1, 1) := by decide +kernel
theorem dX7_turnRest_5 : decode cX7_turnRest 5 = .ok (.i2l, 1) := by decide +kernel
theorem dX7_turnRest_6 : decode cX7_turnRest 6 = .ok (.invokevirtual 401, 3) := by decide +kernel
theorem dX7_turnRest_9 : decode cX7_turnRest 9 = .ok (.istore_n 2, 1) := by decide +kernel
theorem dX7_turnRest_10 : decode cX7_turnRest 10 = .ok (.aload_n 0, 1) := by decide +kernel
theorem dX7_turnRest_11 : decode cX7_turnRest 11 = .ok (.getfield 16, 3) := by decide +kernel
theorem dX7_turnRest_14 : decode cX7_turnRest 14 = .ok (.iload_n 2, 1) := by decide +kernel
theorem dX7_turnRest_15 : decode cX7_turnRest 15 = .ok (.invokevirtual 266, 3) := by decide +kernel
theorem dX7_turnRest_18 : decode cX7_turnRest 18 = .ok (.lconst 0, 1) := by decide +kernel
theorem dX7_turnRest_19 : decode cX7_turnRest 19 = .ok (.lcmp, 1) := by decide +kernel
theorem dX7_turnRest_20 : decode cX7_turnRest 20 = .ok (.ifCond .ge 9, 3) := by decide +kernel
theorem dX7_turnRest_23 : decode cX7_turnRest 23 = .ok (.ldc2_w 404, 3) := by decide +kernel
theorem dX7_turnRest_26 : decode cX7_turnRest 26 = .ok (.goto 4, 3) := by decide +kernel
theorem dX7_turnRest_29 : decode cX7_turnRest 29 = .ok (.lconst 1, 1) := by decide +kernel
theorem dX7_turnRest_30 : decode cX7_turnRest 30 = .ok (.lstore_n 3, 1) := by decide +kernel
theorem dX7_turnRest_31 : decode cX7_turnRest 31 = .ok (.lload_n 3, 1) := by decide +kernel
theorem dX7_turnRest_32 : decode cX7_turnRest 32 = .ok (.aload_n 0, 1) := by decide +kernel
theorem dX7_turnRest_33 : decode cX7_turnRest 33 = .ok (.getfield 16, 3) := by decide +kernel
theorem dX7_turnRest_36 : decode cX7_turnRest 36 = .ok (.iload_n 2, 1) := by decide +kernel
theorem dX7_turnRest_37 : decode cX7_turnRest 37 = .ok (.invokevirtual 299, 3) := by decide +kernel
theorem dX7_turnRest_40 : decode cX7_turnRest 40 = .ok (.lmul, 1) := by decide +kernel
theorem dX7_turnRest_41 : decode cX7_turnRest 41 = .ok (.lstore 5, 2) := by decide +kernel
theorem dX7_turnRest_43 : decode cX7_turnRest 43 = .ok (.lload_n 3, 1) := by decide +kernel
theorem dX7_turnRest_44 : decode cX7_turnRest 44 = .ok (.lneg, 1) := by decide +kernel
theorem dX7_turnRest_45 : decode cX7_turnRest 45 = .ok (.aload_n 0, 1) := by decide +kernel
theorem dX7_turnRest_46 : decode cX7_turnRest 46 = .ok (.getfield 16, 3) := by decide +kernel
theorem dX7_turnRest_49 : decode cX7_turnRest 49 = .ok (.iload_n 2, 1) := by decide +kernel
theorem dX7_turnRest_50 : decode cX7_turnRest 50 = .ok (.invokevirtual 306, 3) := by decide +kernel
theorem dX7_turnRest_53 : decode cX7_turnRest 53 = .ok (.lmul, 1) := by decide +kernel
theorem dX7_turnRest_54 : decode cX7_turnRest 54 = .ok (.lstore 7, 2) := by decide +kernel
theorem dX7_turnRest_56 : decode cX7_turnRest 56 = .ok (.lload_n 3, 1) := by decide +kernel
theorem dX7_turnRest_57 : decode cX7_turnRest 57 = .ok (.aload_n 0, 1) := by decide +kernel
theorem dX7_turnRest_58 : decode cX7_turnRest 58 = .ok (.getfield 16, 3) := by decide +kernel
theorem dX7_turnRest_61 : decode cX7_turnRest 61 = .ok (.iload_n 2, 1) := by decide +kernel
theorem dX7_turnRest_62 : decode cX7_turnRest 62 = .ok (.invokevirtual 266, 3) := by decide +kernel
theorem dX7_turnRest_65 : decode cX7_turnRest 65 = .ok (.lmul, 1) := by decide +kernel
theorem dX7_turnRest_66 : decode cX7_turnRest 66 = .ok (.lstore 9, 2) := by decide +kernel
theorem dX7_turnRest_68 : decode cX7_turnRest 68 = .ok (.lload 5, 2) := by decide +kernel
theorem dX7_turnRest_70 : decode cX7_turnRest 70 = .ok (.lload 7, 2) := by decide +kernel
theorem dX7_turnRest_72 : decode cX7_turnRest 72 = .ok (.invokestatic 406, 3) := by decide +kernel
theorem dX7_turnRest_75 : decode cX7_turnRest 75 = .ok (.lload 9, 2) := by decide +kernel
theorem dX7_turnRest_77 : decode cX7_turnRest 77 = .ok (.invokestatic 406, 3) := by decide +kernel
theorem dX7_turnRest_80 : decode cX7_turnRest 80 = .ok (.lstore 11, 2) := by decide +kernel
theorem dX7_turnRest_82 : decode cX7_turnRest 82 = .ok (.aload_n 0, 1) := by decide +kernel
theorem dX7_turnRest_83 : decode cX7_turnRest 83 = .ok (.getfield 23, 3) := by decide +kernel
theorem dX7_turnRest_86 : decode cX7_turnRest 86 = .ok (.iload_n 1, 1) := by decide +kernel
theorem dX7_turnRest_87 : decode cX7_turnRest 87 = .ok (.iconst 0, 1) := by decide +kernel
theorem dX7_turnRest_88 : decode cX7_turnRest 88 = .ok (.lload 5, 2) := by decide +kernel
theorem dX7_turnRest_90 : decode cX7_turnRest 90 = .ok (.lload 11, 2) := by decide +kernel
theorem dX7_turnRest_92 : decode cX7_turnRest 92 = .ok (.ldiv, 1) := by decide +kernel
theorem dX7_turnRest_93 : decode cX7_turnRest 93 = .ok (.invokevirtual 116, 3) := by decide +kernel
theorem dX7_turnRest_96 : decode cX7_turnRest 96 = .ok (.aload_n 0, 1) := by decide +kernel
theorem dX7_turnRest_97 : decode cX7_turnRest 97 = .ok (.getfield 23, 3) := by decide +kernel
theorem dX7_turnRest_100 : decode cX7_turnRest 100 = .ok (.iload_n 1, 1) := by decide +kernel
theorem dX7_turnRest_101 : decode cX7_turnRest 101 = .ok (.iconst 1, 1) := by decide +kernel
theorem dX7_turnRest_102 : decode cX7_turnRest 102 = .ok (.lload 7, 2) := by decide +kernel
theorem dX7_turnRest_104 : decode cX7_turnRest 104 = .ok (.lload 11, 2) := by decide +kernel
theorem dX7_turnRest_106 : decode cX7_turnRest 106 = .ok (.ldiv, 1) := by decide +kernel
theorem dX7_turnRest_107 : decode cX7_turnRest 107 = .ok (.invokevirtual 116, 3) := by decide +kernel
theorem dX7_turnRest_110 : decode cX7_turnRest 110 = .ok (.aload_n 0, 1) := by decide +kernel
theorem dX7_turnRest_111 : decode cX7_turnRest 111 = .ok (.getfield 23, 3) := by decide +kernel
theorem dX7_turnRest_114 : decode cX7_turnRest 114 = .ok (.iload_n 1, 1) := by decide +kernel
theorem dX7_turnRest_115 : decode cX7_turnRest 115 = .ok (.iconst 2, 1) := by decide +kernel
theorem dX7_turnRest_116 : decode cX7_turnRest 116 = .ok (.lload 9, 2) := by decide +kernel
theorem dX7_turnRest_118 : decode cX7_turnRest 118 = .ok (.lload 11, 2) := by decide +kernel
theorem dX7_turnRest_120 : decode cX7_turnRest 120 = .ok (.ldiv, 1) := by decide +kernel
theorem dX7_turnRest_121 : decode cX7_turnRest 121 = .ok (.invokevirtual 116, 3) := by decide +kernel
theorem dX7_turnRest_124 : decode cX7_turnRest 124 = .ok (.return_, 1) := by decide +kernel
set_option maxRecDepth 20000 in
theorem ggX7_heapPrime_X7_prime : GoodIn wsX7_heapPrime wsX7_prime := goodIn_r _ [4, 5] (by decide +kernel) (by decide +kernel)
set_option maxRecDepth 20000 in
theorem gX7_heapPrime_X7_prime : GoodIn wsX7_heapPrime (va_wsS RX7 409 yX7_prime wsX7_prime) := goodIn_app (goodIn_of _ (by decide +kernel)) ggX7_heapPrime_X7_prime
theorem dX7_heapPrime_0 : decode cX7_heapPrime 0 = .ok (.iload_n 0, 1) := by decide +kernel
theorem dX7_heapPrime_1 : decode cX7_heapPrime 1 = .ok (.invokestatic 409, 3) := by decide +kernel
theorem dX7_heapPrime_4 : decode cX7_heapPrime 4 = .ok (.lreturn, 1) := by decide +kernel
set_option maxRecDepth 20000 in
theorem ggX7_goPrime_X7_prime : GoodIn wsX7_goPrime wsX7_prime := goodIn_r _ [4, 5] (by decide +kernel) (by decide +kernel)
set_option maxRecDepth 20000 in
theorem gX7_goPrime_X7_prime : GoodIn wsX7_goPrime (va_wsS RX7 409 yX7_prime wsX7_prime) := goodIn_app (goodIn_of _ (by decide +kernel)) ggX7_goPrime_X7_prime
theorem dX7_goPrime_0 : decode cX7_goPrime 0 = .ok (.iconst 4, 1) := by decide +kernel
theorem dX7_goPrime_1 : decode cX7_goPrime 1 = .ok (.iconst 2, 1) := by decide +kernel
theorem dX7_goPrime_2 : decode cX7_goPrime 2 = .ok (.iload_n 0, 1) := by decide +kernel
theorem dX7_goPrime_3 : decode cX7_goPrime 3 = .ok (.imul, 1) := by decide +kernel
theorem dX7_goPrime_4 : decode cX7_goPrime 4 = .ok (.iadd, 1) := by decide +kernel
theorem dX7_goPrime_5 : decode cX7_goPrime 5 = .ok (.invokestatic 409, 3) := by decide +kernel
theorem dX7_goPrime_8 : decode cX7_goPrime 8 = .ok (.lreturn, 1) := by decide +kernel
set_option maxRecDepth 20000 in
theorem ggX7_waitPrime_X7_prime : GoodIn wsX7_waitPrime wsX7_prime := goodIn_r _ [4, 5] (by decide +kernel) (by decide +kernel)
set_option maxRecDepth 20000 in
theorem gX7_waitPrime_X7_prime : GoodIn wsX7_waitPrime (va_wsS RX7 409 yX7_prime wsX7_prime) := goodIn_app (goodIn_of _ (by decide +kernel)) ggX7_waitPrime_X7_prime
theorem dX7_waitPrime_0 : decode cX7_waitPrime 0 = .ok (.iconst 4, 1) := by decide +kernel
theorem dX7_waitPrime_1 : decode cX7_waitPrime 1 = .ok (.iconst 2, 1) := by decide +kernel
theorem dX7_waitPrime_2 : decode cX7_waitPrime 2 = .ok (.iload_n 0, 1) := by decide +kernel
theorem dX7_waitPrime_3 : decode cX7_waitPrime 3 = .ok (.imul, 1) := by decide +kernel
theorem dX7_waitPrime_4 : decode cX7_waitPrime 4 = .ok (.iadd, 1) := by decide +kernel
theorem dX7_waitPrime_5 : decode cX7_waitPrime 5 = .ok (.iconst 1, 1) := by decide +kernel
theorem dX7_waitPrime_6 : decode cX7_waitPrime 6 = .ok (.iadd, 1) := by decide +kernel
theorem dX7_waitPrime_7 : decode cX7_waitPrime 7 = .ok (.invokestatic 409, 3) := by decide +kernel
theorem dX7_waitPrime_10 : decode cX7_waitPrime 10 = .ok (.lreturn, 1) := by decide +kernel
theorem dX7_prime_0 : decode cX7_prime 0 = .ok (.iload_n 0, 1) := by decide +kernel
theorem dX7_prime_1 : decode cX7_prime 1 = .ok (.ifCond .lt 20, 3) := by decide +kernel
theorem dX7_prime_4 : decode cX7_prime 4 = .ok (.iload_n 0, 1) := by decide +kernel
theorem dX7_prime_5 : decode cX7_prime 5 = .ok (.getstatic 412, 3) := by decide +kernel
theorem dX7_prime_8 : decode cX7_prime 8 = .ok (.arraylength, 1) := by decide +kernel
theorem dX7_prime_9 : decode cX7_prime 9 = .ok (.if_icmp .ge 12, 3) := by decide +kernel
theorem dX7_prime_12 : decode cX7_prime 12 = .ok (.getstatic 412, 3) := by decide +kernel
theorem dX7_prime_15 : decode cX7_prime 15 = .ok (.iload_n 0, 1) := by decide +kernel
theorem dX7_prime_16 : decode cX7_prime 16 = .ok (.iaload, 1) := by decide +kernel
theorem dX7_prime_17 : decode cX7_prime 17 = .ok (.i2l, 1) := by decide +kernel
theorem dX7_prime_18 : decode cX7_prime 18 = .ok (.goto 4, 3) := by decide +kernel
theorem dX7_prime_21 : decode cX7_prime 21 = .ok (.lconst 1, 1) := by decide +kernel
theorem dX7_prime_22 : decode cX7_prime 22 = .ok (.lreturn, 1) := by decide +kernel
set_option maxRecDepth 20000 in
theorem ggX7_addFractionsOfAct_X1_next : GoodIn wsX7_addFractionsOfAct wsX1_next := goodIn_r _ [7, 8, 9, 10, 11, 12, 13, 14, 15, 16, 17, 18, 19, 78, 79, 80, 81, 82, 83, 84, 85] (by decide +kernel) (by decide +kernel)
set_option maxRecDepth 20000 in
theorem gX7_addFractionsOfAct_X1_next : GoodIn wsX7_addFractionsOfAct (wsV RX7 416 RX1 yX1_next wsX1_next) := goodIn_app (goodIn_of _ (by decide +kernel)) ggX7_addFractionsOfAct_X1_next
set_option maxRecDepth 20000 in
theorem ggX7_addFractionsOfAct_X7_waitPrime : GoodIn wsX7_addFractionsOfAct wsX7_waitPrime := goodIn_r _ [23, 24, 25, 22, 26, 27] (by decide +kernel) (by decide +kernel)
set_option maxRecDepth 20000 in
theorem gX7_addFractionsOfAct_X7_waitPrime : GoodIn wsX7_addFractionsOfAct (va_wsS RX7 344 yX7_waitPrime wsX7_waitPrime) := goodIn_app (goodIn_of _ (by decide +kernel)) ggX7_addFractionsOfAct_X7_waitPrime
set_option maxRecDepth 20000 in
theorem ggX7_addFractionsOfAct_X1_heap : GoodIn wsX7_addFractionsOfAct wsX1_heap := goodIn_r _ [31, 32, 9, 10, 11, 12, 13, 14, 15, 16, 17, 18, 19, 78, 79, 80, 81, 82, 83, 84, 85] (by decide +kernel) (by decide +kernel)
set_option maxRecDepth 20000 in
theorem gX7_addFractionsOfAct_X1_heap : GoodIn wsX7_addFractionsOfAct (wsV RX7 419 RX1 yX1_heap wsX1_heap) := goodIn_app (goodIn_of _ (by decide +kernel)) ggX7_addFractionsOfAct_X1_heap
set_option maxRecDepth 20000 in
theorem ggX7_addFractionsOfAct_X7_heapPrime : GoodIn wsX7_addFractionsOfAct wsX7_heapPrime := goodIn_r _ [35, 24, 25, 22, 26, 27] (by decide +kernel) (by decide +kernel)
set_option maxRecDepth 20000 in
theorem gX7_addFractionsOfAct_X7_heapPrime : GoodIn wsX7_addFractionsOfAct (va_wsS RX7 352 yX7_heapPrime wsX7_heapPrime) := goodIn_app (goodIn_of _ (by decide +kernel)) ggX7_addFractionsOfAct_X7_heapPrime
set_option maxRecDepth 20000 in
theorem ggX7_addFractionsOfAct_X1_kind : GoodIn wsX7_addFractionsOfAct wsX1_kind := goodIn_r _ [39, 40, 9, 10, 11, 12, 13, 14, 15, 16, 17, 18, 19, 78, 79, 80, 81, 82, 83, 84, 85] (by decide +kernel) (by decide +kernel)
set_option maxRecDepth 20000 in
theorem gX7_addFractionsOfAct_X1_kind : GoodIn wsX7_addFractionsOfAct (wsV RX7 422 RX1 yX1_kind wsX1_kind) := goodIn_app (goodIn_of _ (by decide +kernel)) ggX7_addFractionsOfAct_X1_kind
set_option maxRecDepth 20000 in
theorem ggX7_addFractionsOfAct_X7_goPrime : GoodIn wsX7_addFractionsOfAct wsX7_goPrime := goodIn_r _ [43, 24, 25, 22, 26, 27] (by decide +kernel) (by decide +kernel)
set_option maxRecDepth 20000 in
theorem gX7_addFractionsOfAct_X7_goPrime : GoodIn wsX7_addFractionsOfAct (va_wsS RX7 341 yX7_goPrime wsX7_goPrime) := goodIn_app (goodIn_of _ (by decide +kernel)) ggX7_addFractionsOfAct_X7_goPrime
set_option maxRecDepth 20000 in
theorem ggX7_addFractionsOfAct_X0_add : GoodIn wsX7_addFractionsOfAct wsX0_add := goodIn_ca (goodIn_r _ [48, 49, 50, 51, 52, 22, 53, 54, 55, 56, 57, 86, 87, 88] (by decide +kernel) (by decide +kernel)) (goodIn_sub (fun _ h => List.mem_cons_of_mem _ (List.mem_append_right _ h)) (by decide +kernel))
set_option maxRecDepth 20000 in
theorem gX7_addFractionsOfAct_X0_add : GoodIn wsX7_addFractionsOfAct (wsV RX7 142 RX0 yX0_add wsX0_add) := goodIn_app (goodIn_of _ (by decide +kernel)) ggX7_addFractionsOfAct_X0_add
set_option maxRecDepth 20000 in
theorem ggX7_addFractionsOfAct_X1_otherwise : GoodIn wsX7_addFractionsOfAct wsX1_otherwise := goodIn_r _ [61, 62, 9, 10, 11, 12, 13, 14, 15, 16, 17, 18, 19, 78, 79, 80, 81, 82, 83, 84, 85] (by decide +kernel) (by decide +kernel)
set_option maxRecDepth 20000 in
theorem gX7_addFractionsOfAct_X1_otherwise : GoodIn wsX7_addFractionsOfAct (wsV RX7 425 RX1 yX1_otherwise wsX1_otherwise) := goodIn_app (goodIn_of _ (by decide +kernel)) ggX7_addFractionsOfAct_X1_otherwise
theorem dX7_addFractionsOfAct_0 : decode cX7_addFractionsOfAct 0 = .ok (.aload_n 0, 1) := by decide +kernel
theorem dX7_addFractionsOfAct_1 : decode cX7_addFractionsOfAct 1 = .ok (.getfield 81, 3) := by decide +kernel
theorem dX7_addFractionsOfAct_4 : decode cX7_addFractionsOfAct 4 = .ok (.iload_n 1, 1) := by decide +kernel
theorem dX7_addFractionsOfAct_5 : decode cX7_addFractionsOfAct 5 = .ok (.invokevirtual 416, 3) := by decide +kernel
theorem dX7_addFractionsOfAct_8 : decode cX7_addFractionsOfAct 8 = .ok (.invokestatic 344, 3) := by decide +kernel
theorem dX7_addFractionsOfAct_11 : decode cX7_addFractionsOfAct 11 = .ok (.lstore_n 2, 1) := by decide +kernel
theorem dX7_addFractionsOfAct_12 : decode cX7_addFractionsOfAct 12 = .ok (.aload_n 0, 1) := by decide +kernel
theorem dX7_addFractionsOfAct_13 : decode cX7_addFractionsOfAct 13 = .ok (.getfield 81, 3) := by decide +kernel
theorem dX7_addFractionsOfAct_16 : decode cX7_addFractionsOfAct 16 = .ok (.iload_n 1, 1) := by decide +kernel
theorem dX7_addFractionsOfAct_17 : decode cX7_addFractionsOfAct 17 = .ok (.invokevirtual 419, 3) := by decide +kernel
theorem dX7_addFractionsOfAct_20 : decode cX7_addFractionsOfAct 20 = .ok (.invokestatic 352, 3) := by decide +kernel
theorem dX7_addFractionsOfAct_23 : decode cX7_addFractionsOfAct 23 = .ok (.lstore 4, 2) := by decide +kernel
theorem dX7_addFractionsOfAct_25 : decode cX7_addFractionsOfAct 25 = .ok (.aload_n 0, 1) := by decide +kernel
theorem dX7_addFractionsOfAct_26 : decode cX7_addFractionsOfAct 26 = .ok (.getfield 81, 3) := by decide +kernel
theorem dX7_addFractionsOfAct_29 : decode cX7_addFractionsOfAct 29 = .ok (.iload_n 1, 1) := by decide +kernel
theorem dX7_addFractionsOfAct_30 : decode cX7_addFractionsOfAct 30 = .ok (.invokevirtual 422, 3) := by decide +kernel
theorem dX7_addFractionsOfAct_33 : decode cX7_addFractionsOfAct 33 = .ok (.lookupswitch 88 #[(0, 27), (1, 46)], 27) := by decide +kernel
theorem dX7_addFractionsOfAct_60 : decode cX7_addFractionsOfAct 60 = .ok (.aload_n 0, 1) := by decide +kernel
theorem dX7_addFractionsOfAct_61 : decode cX7_addFractionsOfAct 61 = .ok (.getfield 29, 3) := by decide +kernel
theorem dX7_addFractionsOfAct_64 : decode cX7_addFractionsOfAct 64 = .ok (.lload_n 2, 1) := by decide +kernel
theorem dX7_addFractionsOfAct_65 : decode cX7_addFractionsOfAct 65 = .ok (.lload 4, 2) := by decide +kernel
theorem dX7_addFractionsOfAct_67 : decode cX7_addFractionsOfAct 67 = .ok (.lmul, 1) := by decide +kernel
theorem dX7_addFractionsOfAct_68 : decode cX7_addFractionsOfAct 68 = .ok (.iload_n 1, 1) := by decide +kernel
theorem dX7_addFractionsOfAct_69 : decode cX7_addFractionsOfAct 69 = .ok (.invokestatic 341, 3) := by decide +kernel
theorem dX7_addFractionsOfAct_72 : decode cX7_addFractionsOfAct 72 = .ok (.invokevirtual 142, 3) := by decide +kernel
theorem dX7_addFractionsOfAct_75 : decode cX7_addFractionsOfAct 75 = .ok (.pop, 1) := by decide +kernel
theorem dX7_addFractionsOfAct_76 : decode cX7_addFractionsOfAct 76 = .ok (.goto 58, 3) := by decide +kernel
theorem dX7_addFractionsOfAct_79 : decode cX7_addFractionsOfAct 79 = .ok (.aload_n 0, 1) := by decide +kernel
theorem dX7_addFractionsOfAct_80 : decode cX7_addFractionsOfAct 80 = .ok (.getfield 29, 3) := by decide +kernel
theorem dX7_addFractionsOfAct_83 : decode cX7_addFractionsOfAct 83 = .ok (.lload_n 2, 1) := by decide +kernel
theorem dX7_addFractionsOfAct_84 : decode cX7_addFractionsOfAct 84 = .ok (.iload_n 1, 1) := by decide +kernel
theorem dX7_addFractionsOfAct_85 : decode cX7_addFractionsOfAct 85 = .ok (.invokestatic 341, 3) := by decide +kernel
theorem dX7_addFractionsOfAct_88 : decode cX7_addFractionsOfAct 88 = .ok (.lload 4, 2) := by decide +kernel
theorem dX7_addFractionsOfAct_90 : decode cX7_addFractionsOfAct 90 = .ok (.lmul, 1) := by decide +kernel
theorem dX7_addFractionsOfAct_91 : decode cX7_addFractionsOfAct 91 = .ok (.invokevirtual 142, 3) := by decide +kernel
theorem dX7_addFractionsOfAct_94 : decode cX7_addFractionsOfAct 94 = .ok (.pop, 1) := by decide +kernel
theorem dX7_addFractionsOfAct_95 : decode cX7_addFractionsOfAct 95 = .ok (.aload_n 0, 1) := by decide +kernel
theorem dX7_addFractionsOfAct_96 : decode cX7_addFractionsOfAct 96 = .ok (.getfield 29, 3) := by decide +kernel
theorem dX7_addFractionsOfAct_99 : decode cX7_addFractionsOfAct 99 = .ok (.aload_n 0, 1) := by decide +kernel
theorem dX7_addFractionsOfAct_100 : decode cX7_addFractionsOfAct 100 = .ok (.getfield 81, 3) := by decide +kernel
theorem dX7_addFractionsOfAct_103 : decode cX7_addFractionsOfAct 103 = .ok (.iload_n 1, 1) := by decide +kernel
theorem dX7_addFractionsOfAct_104 : decode cX7_addFractionsOfAct 104 = .ok (.invokevirtual 425, 3) := by decide +kernel
theorem dX7_addFractionsOfAct_107 : decode cX7_addFractionsOfAct 107 = .ok (.invokestatic 344, 3) := by decide +kernel
theorem dX7_addFractionsOfAct_110 : decode cX7_addFractionsOfAct 110 = .ok (.iload_n 1, 1) := by decide +kernel
theorem dX7_addFractionsOfAct_111 : decode cX7_addFractionsOfAct 111 = .ok (.invokestatic 341, 3) := by decide +kernel
theorem dX7_addFractionsOfAct_114 : decode cX7_addFractionsOfAct 114 = .ok (.invokevirtual 142, 3) := by decide +kernel
theorem dX7_addFractionsOfAct_117 : decode cX7_addFractionsOfAct 117 = .ok (.pop, 1) := by decide +kernel
theorem dX7_addFractionsOfAct_118 : decode cX7_addFractionsOfAct 118 = .ok (.goto 16, 3) := by decide +kernel
theorem dX7_addFractionsOfAct_121 : decode cX7_addFractionsOfAct 121 = .ok (.aload_n 0, 1) := by decide +kernel
theorem dX7_addFractionsOfAct_122 : decode cX7_addFractionsOfAct 122 = .ok (.getfield 29, 3) := by decide +kernel
theorem dX7_addFractionsOfAct_125 : decode cX7_addFractionsOfAct 125 = .ok (.lconst 1, 1) := by decide +kernel
theorem dX7_addFractionsOfAct_126 : decode cX7_addFractionsOfAct 126 = .ok (.iload_n 1, 1) := by decide +kernel
theorem dX7_addFractionsOfAct_127 : decode cX7_addFractionsOfAct 127 = .ok (.invokestatic 341, 3) := by decide +kernel
theorem dX7_addFractionsOfAct_130 : decode cX7_addFractionsOfAct 130 = .ok (.invokevirtual 142, 3) := by decide +kernel
theorem dX7_addFractionsOfAct_133 : decode cX7_addFractionsOfAct 133 = .ok (.pop, 1) := by decide +kernel
theorem dX7_addFractionsOfAct_134 : decode cX7_addFractionsOfAct 134 = .ok (.return_, 1) := by decide +kernel
set_option maxRecDepth 20000 in
theorem ggX7_timesPower_X7_isNumber : GoodIn wsX7_timesPower wsX7_isNumber := goodIn_r _ [5, 6, 7] (by decide +kernel) (by decide +kernel)
set_option maxRecDepth 20000 in
theorem gX7_timesPower_X7_isNumber : GoodIn wsX7_timesPower (va_wsS RX7 178 yX7_isNumber wsX7_isNumber) := goodIn_app (goodIn_of _ (by decide +kernel)) ggX7_timesPower_X7_isNumber
theorem dX7_timesPower_0 : decode cX7_timesPower 0 = .ok (.lload_n 0, 1) := by decide +kernel
theorem dX7_timesPower_1 : decode cX7_timesPower 1 = .ok (.lstore 5, 2) := by decide +kernel
theorem dX7_timesPower_3 : decode cX7_timesPower 3 = .ok (.iconst 0, 1) := by decide +kernel
theorem dX7_timesPower_4 : decode cX7_timesPower 4 = .ok (.istore 7, 2) := by decide +kernel
theorem dX7_timesPower_6 : decode cX7_timesPower 6 = .ok (.iload 7, 2) := by decide +kernel
theorem dX7_timesPower_8 : decode cX7_timesPower 8 = .ok (.iload 4, 2) := by decide +kernel
theorem dX7_timesPower_10 : decode cX7_timesPower 10 = .ok (.if_icmp .ge 23, 3) := by decide +kernel
theorem dX7_timesPower_13 : decode cX7_timesPower 13 = .ok (.lload 5, 2) := by decide +kernel
theorem dX7_timesPower_15 : decode cX7_timesPower 15 = .ok (.invokestatic 178, 3) := by decide +kernel
theorem dX7_timesPower_18 : decode cX7_timesPower 18 = .ok (.ifCond .eq 15, 3) := by decide +kernel
theorem dX7_timesPower_21 : decode cX7_timesPower 21 = .ok (.lload 5, 2) := by decide +kernel
theorem dX7_timesPower_23 : decode cX7_timesPower 23 = .ok (.lload_n 2, 1) := by decide +kernel
theorem dX7_timesPower_24 : decode cX7_timesPower 24 = .ok (.lmul, 1) := by decide +kernel
theorem dX7_timesPower_25 : decode cX7_timesPower 25 = .ok (.lstore 5, 2) := by decide +kernel
theorem dX7_timesPower_27 : decode cX7_timesPower 27 = .ok (.iinc 7 1, 3) := by decide +kernel
theorem dX7_timesPower_30 : decode cX7_timesPower 30 = .ok (.goto (-24), 3) := by decide +kernel
theorem dX7_timesPower_33 : decode cX7_timesPower 33 = .ok (.lload 5, 2) := by decide +kernel
theorem dX7_timesPower_35 : decode cX7_timesPower 35 = .ok (.invokestatic 178, 3) := by decide +kernel
theorem dX7_timesPower_38 : decode cX7_timesPower 38 = .ok (.ifCond .eq 8, 3) := by decide +kernel
theorem dX7_timesPower_41 : decode cX7_timesPower 41 = .ok (.lload 5, 2) := by decide +kernel
theorem dX7_timesPower_43 : decode cX7_timesPower 43 = .ok (.goto 6, 3) := by decide +kernel
theorem dX7_timesPower_46 : decode cX7_timesPower 46 = .ok (.ldc2_w 190, 3) := by decide +kernel
theorem dX7_timesPower_49 : decode cX7_timesPower 49 = .ok (.lreturn, 1) := by decide +kernel
set_option maxRecDepth 20000 in
theorem ggX7_weight_X7_weightOfPrime : GoodIn wsX7_weight wsX7_weightOfPrime := goodIn_r _ [6, 7, 8, 5, 9, 10, 11, 12, 13] (by decide +kernel) (by decide +kernel)
set_option maxRecDepth 20000 in
theorem gX7_weight_X7_weightOfPrime : GoodIn wsX7_weight (va_wsS RX7 430 yX7_weightOfPrime wsX7_weightOfPrime) := goodIn_app (goodIn_of _ (by decide +kernel)) ggX7_weight_X7_weightOfPrime
theorem dX7_weight_0 : decode cX7_weight 0 = .ok (.lconst 0, 1) := by decide +kernel
theorem dX7_weight_1 : decode cX7_weight 1 = .ok (.lstore 7, 2) := by decide +kernel
theorem dX7_weight_3 : decode cX7_weight 3 = .ok (.lload_n 0, 1) := by decide +kernel
theorem dX7_weight_4 : decode cX7_weight 4 = .ok (.lstore 9, 2) := by decide +kernel
theorem dX7_weight_6 : decode cX7_weight 6 = .ok (.ldc2_w 428, 3) := by decide +kernel
theorem dX7_weight_9 : decode cX7_weight 9 = .ok (.lstore 11, 2) := by decide +kernel
theorem dX7_weight_11 : decode cX7_weight 11 = .ok (.lload 11, 2) := by decide +kernel
theorem dX7_weight_13 : decode cX7_weight 13 = .ok (.lload 11, 2) := by decide +kernel
theorem dX7_weight_15 : decode cX7_weight 15 = .ok (.lmul, 1) := by decide +kernel
theorem dX7_weight_16 : decode cX7_weight 16 = .ok (.ldc2_w 140, 3) := by decide +kernel
theorem dX7_weight_19 : decode cX7_weight 19 = .ok (.lcmp, 1) := by decide +kernel
theorem dX7_weight_20 : decode cX7_weight 20 = .ok (.ifCond .gt 89, 3) := by decide +kernel
theorem dX7_weight_23 : decode cX7_weight 23 = .ok (.lload 11, 2) := by decide +kernel
theorem dX7_weight_25 : decode cX7_weight 25 = .ok (.lload 11, 2) := by decide +kernel
theorem dX7_weight_27 : decode cX7_weight 27 = .ok (.lmul, 1) := by decide +kernel
theorem dX7_weight_28 : decode cX7_weight 28 = .ok (.lload 9, 2) := by decide +kernel
theorem dX7_weight_30 : decode cX7_weight 30 = .ok (.lcmp, 1) := by decide +kernel
theorem dX7_weight_31 : decode cX7_weight 31 = .ok (.ifCond .gt 78, 3) := by decide +kernel
theorem dX7_weight_34 : decode cX7_weight 34 = .ok (.iconst 0, 1) := by decide +kernel
theorem dX7_weight_35 : decode cX7_weight 35 = .ok (.istore 13, 2) := by decide +kernel
theorem dX7_weight_37 : decode cX7_weight 37 = .ok (.iload 13, 2) := by decide +kernel
theorem dX7_weight_39 : decode cX7_weight 39 = .ok (.bipush 64, 2) := by decide +kernel
theorem dX7_weight_41 : decode cX7_weight 41 = .ok (.if_icmp .ge 44, 3) := by decide +kernel
theorem dX7_weight_44 : decode cX7_weight 44 = .ok (.lload 9, 2) := by decide +kernel
theorem dX7_weight_46 : decode cX7_weight 46 = .ok (.lload 11, 2) := by decide +kernel
theorem dX7_weight_48 : decode cX7_weight 48 = .ok (.lrem, 1) := by decide +kernel
theorem dX7_weight_49 : decode cX7_weight 49 = .ok (.lconst 0, 1) := by decide +kernel
theorem dX7_weight_50 : decode cX7_weight 50 = .ok (.lcmp, 1) := by decide +kernel
theorem dX7_weight_51 : decode cX7_weight 51 = .ok (.ifCond .ne 34, 3) := by decide +kernel
theorem dX7_weight_54 : decode cX7_weight 54 = .ok (.lload 9, 2) := by decide +kernel
theorem dX7_weight_56 : decode cX7_weight 56 = .ok (.lload 11, 2) := by decide +kernel
theorem dX7_weight_58 : decode cX7_weight 58 = .ok (.ldiv, 1) := by decide +kernel
theorem dX7_weight_59 : decode cX7_weight 59 = .ok (.lstore 9, 2) := by decide +kernel
theorem dX7_weight_61 : decode cX7_weight 61 = .ok (.lload 7, 2) := by decide +kernel
theorem dX7_weight_63 : decode cX7_weight 63 = .ok (.lload 11, 2) := by decide +kernel
theorem dX7_weight_65 : decode cX7_weight 65 = .ok (.iload_n 2, 1) := by decide +kernel
theorem dX7_weight_66 : decode cX7_weight 66 = .ok (.iload_n 3, 1) := by decide +kernel
theorem dX7_weight_67 : decode cX7_weight 67 = .ok (.iload 4, 2) := by decide +kernel
theorem dX7_weight_69 : decode cX7_weight 69 = .ok (.iload 5, 2) := by decide +kernel
theorem dX7_weight_71 : decode cX7_weight 71 = .ok (.iload 6, 2) := by decide +kernel
theorem dX7_weight_73 : decode cX7_weight 73 = .ok (.invokestatic 430, 3) := by decide +kernel
theorem dX7_weight_76 : decode cX7_weight 76 = .ok (.ladd, 1) := by decide +kernel
theorem dX7_weight_77 : decode cX7_weight 77 = .ok (.lstore 7, 2) := by decide +kernel
theorem dX7_weight_79 : decode cX7_weight 79 = .ok (.iinc 13 1, 3) := by decide +kernel
theorem dX7_weight_82 : decode cX7_weight 82 = .ok (.goto (-45), 3) := by decide +kernel
theorem dX7_weight_85 : decode cX7_weight 85 = .ok (.lload 11, 2) := by decide +kernel
theorem dX7_weight_87 : decode cX7_weight 87 = .ok (.lload 11, 2) := by decide +kernel
theorem dX7_weight_89 : decode cX7_weight 89 = .ok (.ldc2_w 428, 3) := by decide +kernel
theorem dX7_weight_92 : decode cX7_weight 92 = .ok (.lcmp, 1) := by decide +kernel
theorem dX7_weight_93 : decode cX7_weight 93 = .ok (.ifCond .ne 7, 3) := by decide +kernel
theorem dX7_weight_96 : decode cX7_weight 96 = .ok (.lconst 1, 1) := by decide +kernel
theorem dX7_weight_97 : decode cX7_weight 97 = .ok (.goto 6, 3) := by decide +kernel
theorem dX7_weight_100 : decode cX7_weight 100 = .ok (.ldc2_w 428, 3) := by decide +kernel
theorem dX7_weight_103 : decode cX7_weight 103 = .ok (.ladd, 1) := by decide +kernel
theorem dX7_weight_104 : decode cX7_weight 104 = .ok (.lstore 11, 2) := by decide +kernel
theorem dX7_weight_106 : decode cX7_weight 106 = .ok (.goto (-95), 3) := by decide +kernel
theorem dX7_weight_109 : decode cX7_weight 109 = .ok (.lload 9, 2) := by decide +kernel
theorem dX7_weight_111 : decode cX7_weight 111 = .ok (.lconst 1, 1) := by decide +kernel
theorem dX7_weight_112 : decode cX7_weight 112 = .ok (.lcmp, 1) := by decide +kernel
theorem dX7_weight_113 : decode cX7_weight 113 = .ok (.ifCond .le 22, 3) := by decide +kernel
theorem dX7_weight_116 : decode cX7_weight 116 = .ok (.lload 7, 2) := by decide +kernel
theorem dX7_weight_118 : decode cX7_weight 118 = .ok (.lload 9, 2) := by decide +kernel
theorem dX7_weight_120 : decode cX7_weight 120 = .ok (.iload_n 2, 1) := by decide +kernel
theorem dX7_weight_121 : decode cX7_weight 121 = .ok (.iload_n 3, 1) := by decide +kernel
theorem dX7_weight_122 : decode cX7_weight 122 = .ok (.iload 4, 2) := by decide +kernel
theorem dX7_weight_124 : decode cX7_weight 124 = .ok (.iload 5, 2) := by decide +kernel
theorem dX7_weight_126 : decode cX7_weight 126 = .ok (.iload 6, 2) := by decide +kernel
theorem dX7_weight_128 : decode cX7_weight 128 = .ok (.invokestatic 430, 3) := by decide +kernel
theorem dX7_weight_131 : decode cX7_weight 131 = .ok (.ladd, 1) := by decide +kernel
theorem dX7_weight_132 : decode cX7_weight 132 = .ok (.goto 5, 3) := by decide +kernel
theorem dX7_weight_135 : decode cX7_weight 135 = .ok (.lload 7, 2) := by decide +kernel
theorem dX7_weight_137 : decode cX7_weight 137 = .ok (.lreturn, 1) := by decide +kernel
set_option maxRecDepth 20000 in
theorem ggX7_weightOfPrime_X7_heapPrime : GoodIn wsX7_weightOfPrime wsX7_heapPrime := goodIn_r _ [4, 5, 6, 3, 7, 8] (by decide +kernel) (by decide +kernel)
set_option maxRecDepth 20000 in
theorem gX7_weightOfPrime_X7_heapPrime : GoodIn wsX7_weightOfPrime (va_wsS RX7 352 yX7_heapPrime wsX7_heapPrime) := goodIn_app (goodIn_of _ (by decide +kernel)) ggX7_weightOfPrime_X7_heapPrime
theorem dX7_weightOfPrime_0 : decode cX7_weightOfPrime 0 = .ok (.lload_n 0, 1) := by decide +kernel
theorem dX7_weightOfPrime_1 : decode cX7_weightOfPrime 1 = .ok (.iconst 0, 1) := by decide +kernel
theorem dX7_weightOfPrime_2 : decode cX7_weightOfPrime 2 = .ok (.invokestatic 352, 3) := by decide +kernel
theorem dX7_weightOfPrime_5 : decode cX7_weightOfPrime 5 = .ok (.lcmp, 1) := by decide +kernel
theorem dX7_weightOfPrime_6 : decode cX7_weightOfPrime 6 = .ok (.ifCond .ne 6, 3) := by decide +kernel
theorem dX7_weightOfPrime_9 : decode cX7_weightOfPrime 9 = .ok (.iload_n 2, 1) := by decide +kernel
theorem dX7_weightOfPrime_10 : decode cX7_weightOfPrime 10 = .ok (.i2l, 1) := by decide +kernel
theorem dX7_weightOfPrime_11 : decode cX7_weightOfPrime 11 = .ok (.lreturn, 1) := by decide +kernel
theorem dX7_weightOfPrime_12 : decode cX7_weightOfPrime 12 = .ok (.lload_n 0, 1) := by decide +kernel
theorem dX7_weightOfPrime_13 : decode cX7_weightOfPrime 13 = .ok (.iconst 1, 1) := by decide +kernel
theorem dX7_weightOfPrime_14 : decode cX7_weightOfPrime 14 = .ok (.invokestatic 352, 3) := by decide +kernel
theorem dX7_weightOfPrime_17 : decode cX7_weightOfPrime 17 = .ok (.lcmp, 1) := by decide +kernel
theorem dX7_weightOfPrime_18 : decode cX7_weightOfPrime 18 = .ok (.ifCond .ne 6, 3) := by decide +kernel
theorem dX7_weightOfPrime_21 : decode cX7_weightOfPrime 21 = .ok (.iload_n 3, 1) := by decide +kernel
theorem dX7_weightOfPrime_22 : decode cX7_weightOfPrime 22 = .ok (.i2l, 1) := by decide +kernel
theorem dX7_weightOfPrime_23 : decode cX7_weightOfPrime 23 = .ok (.lreturn, 1) := by decide +kernel
theorem dX7_weightOfPrime_24 : decode cX7_weightOfPrime 24 = .ok (.lload_n 0, 1) := by decide +kernel
theorem dX7_weightOfPrime_25 : decode cX7_weightOfPrime 25 = .ok (.iconst 2, 1) := by decide +kernel
theorem dX7_weightOfPrime_26 : decode cX7_weightOfPrime 26 = .ok (.invokestatic 352, 3) := by decide +kernel
theorem dX7_weightOfPrime_29 : decode cX7_weightOfPrime 29 = .ok (.lcmp, 1) := by decide +kernel
theorem dX7_weightOfPrime_30 : decode cX7_weightOfPrime 30 = .ok (.ifCond .ne 7, 3) := by decide +kernel
theorem dX7_weightOfPrime_33 : decode cX7_weightOfPrime 33 = .ok (.iload 4, 2) := by decide +kernel
theorem dX7_weightOfPrime_35 : decode cX7_weightOfPrime 35 = .ok (.i2l, 1) := by decide +kernel
theorem dX7_weightOfPrime_36 : decode cX7_weightOfPrime 36 = .ok (.lreturn, 1) := by decide +kernel
theorem dX7_weightOfPrime_37 : decode cX7_weightOfPrime 37 = .ok (.lload_n 0, 1) := by decide +kernel
theorem dX7_weightOfPrime_38 : decode cX7_weightOfPrime 38 = .ok (.iconst 3, 1) := by decide +kernel
theorem dX7_weightOfPrime_39 : decode cX7_weightOfPrime 39 = .ok (.invokestatic 352, 3) := by decide +kernel
theorem dX7_weightOfPrime_42 : decode cX7_weightOfPrime 42 = .ok (.lcmp, 1) := by decide +kernel
theorem dX7_weightOfPrime_43 : decode cX7_weightOfPrime 43 = .ok (.ifCond .ne 9, 3) := by decide +kernel
theorem dX7_weightOfPrime_46 : decode cX7_weightOfPrime 46 = .ok (.iload 5, 2) := by decide +kernel
theorem dX7_weightOfPrime_48 : decode cX7_weightOfPrime 48 = .ok (.i2l, 1) := by decide +kernel
theorem dX7_weightOfPrime_49 : decode cX7_weightOfPrime 49 = .ok (.goto 6, 3) := by decide +kernel
theorem dX7_weightOfPrime_52 : decode cX7_weightOfPrime 52 = .ok (.iload 6, 2) := by decide +kernel
theorem dX7_weightOfPrime_54 : decode cX7_weightOfPrime 54 = .ok (.i2l, 1) := by decide +kernel
theorem dX7_weightOfPrime_55 : decode cX7_weightOfPrime 55 = .ok (.lreturn, 1) := by decide +kernel
