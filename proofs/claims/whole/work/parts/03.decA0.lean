theorem dX0_init_0 : decode cX0_init 0 = .ok (.aload_n 0, 1) := by decide +kernel
theorem dX0_init_1 : decode cX0_init 1 = .ok (.invokespecial 3, 3) := by decide +kernel
theorem dX0_init_4 : decode cX0_init 4 = .ok (.aload_n 0, 1) := by decide +kernel
theorem dX0_init_5 : decode cX0_init 5 = .ok (.iconst 0, 1) := by decide +kernel
theorem dX0_init_6 : decode cX0_init 6 = .ok (.putfield 9, 3) := by decide +kernel
theorem dX0_init_9 : decode cX0_init 9 = .ok (.aload_n 0, 1) := by decide +kernel
theorem dX0_init_10 : decode cX0_init 10 = .ok (.bipush 40, 2) := by decide +kernel
theorem dX0_init_12 : decode cX0_init 12 = .ok (.newarray .long, 2) := by decide +kernel
theorem dX0_init_14 : decode cX0_init 14 = .ok (.putfield 15, 3) := by decide +kernel
theorem dX0_init_17 : decode cX0_init 17 = .ok (.aload_n 0, 1) := by decide +kernel
theorem dX0_init_18 : decode cX0_init 18 = .ok (.bipush 40, 2) := by decide +kernel
theorem dX0_init_20 : decode cX0_init 20 = .ok (.newarray .long, 2) := by decide +kernel
theorem dX0_init_22 : decode cX0_init 22 = .ok (.putfield 19, 3) := by decide +kernel
theorem dX0_init_25 : decode cX0_init 25 = .ok (.return_, 1) := by decide +kernel
theorem dX0_size_0 : decode cX0_size 0 = .ok (.aload_n 0, 1) := by decide +kernel
theorem dX0_size_1 : decode cX0_size 1 = .ok (.getfield 9, 3) := by decide +kernel
theorem dX0_size_4 : decode cX0_size 4 = .ok (.ireturn, 1) := by decide +kernel
theorem dX0_has_0 : decode cX0_has 0 = .ok (.iload_n 1, 1) := by decide +kernel
theorem dX0_has_1 : decode cX0_has 1 = .ok (.ifCond .lt 21, 3) := by decide +kernel
theorem dX0_has_4 : decode cX0_has 4 = .ok (.iload_n 1, 1) := by decide +kernel
theorem dX0_has_5 : decode cX0_has 5 = .ok (.aload_n 0, 1) := by decide +kernel
theorem dX0_has_6 : decode cX0_has 6 = .ok (.getfield 9, 3) := by decide +kernel
theorem dX0_has_9 : decode cX0_has 9 = .ok (.if_icmp .ge 13, 3) := by decide +kernel
theorem dX0_has_12 : decode cX0_has 12 = .ok (.iload_n 1, 1) := by decide +kernel
theorem dX0_has_13 : decode cX0_has 13 = .ok (.bipush 40, 2) := by decide +kernel
theorem dX0_has_15 : decode cX0_has 15 = .ok (.if_icmp .ge 7, 3) := by decide +kernel
theorem dX0_has_18 : decode cX0_has 18 = .ok (.iconst 1, 1) := by decide +kernel
theorem dX0_has_19 : decode cX0_has 19 = .ok (.goto 4, 3) := by decide +kernel
theorem dX0_has_22 : decode cX0_has 22 = .ok (.iconst 0, 1) := by decide +kernel
theorem dX0_has_23 : decode cX0_has 23 = .ok (.ireturn, 1) := by decide +kernel
theorem dX0_empty_0 : decode cX0_empty 0 = .ok (.aload_n 0, 1) := by decide +kernel
theorem dX0_empty_1 : decode cX0_empty 1 = .ok (.iconst 0, 1) := by decide +kernel
theorem dX0_empty_2 : decode cX0_empty 2 = .ok (.putfield 9, 3) := by decide +kernel
theorem dX0_empty_5 : decode cX0_empty 5 = .ok (.return_, 1) := by decide +kernel
set_option maxRecDepth 20000 in
theorem ggX0_add_X7_commonDivisor : GoodIn wsX0_add wsX7_commonDivisor := goodIn_ca (goodIn_r _ [6, 7, 8, 9, 10] (by decide +kernel) (by decide +kernel)) (goodIn_sub (fun _ h => List.mem_cons_of_mem _ (List.mem_append_right _ h)) (by decide +kernel))
set_option maxRecDepth 20000 in
theorem gX0_add_X7_commonDivisor_n22 : GoodIn wsX0_add (wsX7_commonDivisor) := ggX0_add_X7_commonDivisor
theorem dX0_add_0 : decode cX0_add 0 = .ok (.aload_n 0, 1) := by decide +kernel
theorem dX0_add_1 : decode cX0_add 1 = .ok (.getfield 9, 3) := by decide +kernel
theorem dX0_add_4 : decode cX0_add 4 = .ok (.ifCond .lt 12, 3) := by decide +kernel
theorem dX0_add_7 : decode cX0_add 7 = .ok (.aload_n 0, 1) := by decide +kernel
theorem dX0_add_8 : decode cX0_add 8 = .ok (.getfield 9, 3) := by decide +kernel
theorem dX0_add_11 : decode cX0_add 11 = .ok (.bipush 40, 2) := by decide +kernel
theorem dX0_add_13 : decode cX0_add 13 = .ok (.if_icmp .lt 5, 3) := by decide +kernel
theorem dX0_add_16 : decode cX0_add 16 = .ok (.iconst 0, 1) := by decide +kernel
theorem dX0_add_17 : decode cX0_add 17 = .ok (.ireturn, 1) := by decide +kernel
theorem dX0_add_18 : decode cX0_add 18 = .ok (.lload_n 1, 1) := by decide +kernel
theorem dX0_add_19 : decode cX0_add 19 = .ok (.lload_n 3, 1) := by decide +kernel
theorem dX0_add_20 : decode cX0_add 20 = .ok (.invokestatic 22, 3) := by decide +kernel
theorem dX0_add_23 : decode cX0_add 23 = .ok (.lstore 5, 2) := by decide +kernel
theorem dX0_add_25 : decode cX0_add 25 = .ok (.aload_n 0, 1) := by decide +kernel
theorem dX0_add_26 : decode cX0_add 26 = .ok (.getfield 15, 3) := by decide +kernel
theorem dX0_add_29 : decode cX0_add 29 = .ok (.aload_n 0, 1) := by decide +kernel
theorem dX0_add_30 : decode cX0_add 30 = .ok (.getfield 9, 3) := by decide +kernel
theorem dX0_add_33 : decode cX0_add 33 = .ok (.lload_n 1, 1) := by decide +kernel
theorem dX0_add_34 : decode cX0_add 34 = .ok (.lload 5, 2) := by decide +kernel
theorem dX0_add_36 : decode cX0_add 36 = .ok (.ldiv, 1) := by decide +kernel
theorem dX0_add_37 : decode cX0_add 37 = .ok (.lastore, 1) := by decide +kernel
theorem dX0_add_38 : decode cX0_add 38 = .ok (.aload_n 0, 1) := by decide +kernel
theorem dX0_add_39 : decode cX0_add 39 = .ok (.getfield 19, 3) := by decide +kernel
theorem dX0_add_42 : decode cX0_add 42 = .ok (.aload_n 0, 1) := by decide +kernel
theorem dX0_add_43 : decode cX0_add 43 = .ok (.getfield 9, 3) := by decide +kernel
theorem dX0_add_46 : decode cX0_add 46 = .ok (.lload_n 3, 1) := by decide +kernel
theorem dX0_add_47 : decode cX0_add 47 = .ok (.lload 5, 2) := by decide +kernel
theorem dX0_add_49 : decode cX0_add 49 = .ok (.ldiv, 1) := by decide +kernel
theorem dX0_add_50 : decode cX0_add 50 = .ok (.lastore, 1) := by decide +kernel
theorem dX0_add_51 : decode cX0_add 51 = .ok (.aload_n 0, 1) := by decide +kernel
theorem dX0_add_52 : decode cX0_add 52 = .ok (.dup, 1) := by decide +kernel
theorem dX0_add_53 : decode cX0_add 53 = .ok (.getfield 9, 3) := by decide +kernel
theorem dX0_add_56 : decode cX0_add 56 = .ok (.iconst 1, 1) := by decide +kernel
theorem dX0_add_57 : decode cX0_add 57 = .ok (.iadd, 1) := by decide +kernel
theorem dX0_add_58 : decode cX0_add 58 = .ok (.putfield 9, 3) := by decide +kernel
theorem dX0_add_61 : decode cX0_add 61 = .ok (.iconst 1, 1) := by decide +kernel
theorem dX0_add_62 : decode cX0_add 62 = .ok (.ireturn, 1) := by decide +kernel
set_option maxRecDepth 20000 in
theorem ggX0_over_X0_has : GoodIn wsX0_over wsX0_has := goodIn_r _ [6, 7, 8, 9, 10] (by decide +kernel) (by decide +kernel)
set_option maxRecDepth 20000 in
theorem gX0_over_X0_has : GoodIn wsX0_over (wsV RX0 26 RX0 yX0_has wsX0_has) := goodIn_app (goodIn_of _ (by decide +kernel)) ggX0_over_X0_has
theorem dX0_over_0 : decode cX0_over 0 = .ok (.aload_n 0, 1) := by decide +kernel
theorem dX0_over_1 : decode cX0_over 1 = .ok (.iload_n 1, 1) := by decide +kernel
theorem dX0_over_2 : decode cX0_over 2 = .ok (.invokevirtual 26, 3) := by decide +kernel
theorem dX0_over_5 : decode cX0_over 5 = .ok (.ifCond .eq 23, 3) := by decide +kernel
theorem dX0_over_8 : decode cX0_over 8 = .ok (.aload_n 0, 1) := by decide +kernel
theorem dX0_over_9 : decode cX0_over 9 = .ok (.getfield 15, 3) := by decide +kernel
theorem dX0_over_12 : decode cX0_over 12 = .ok (.iload_n 1, 1) := by decide +kernel
theorem dX0_over_13 : decode cX0_over 13 = .ok (.laload, 1) := by decide +kernel
theorem dX0_over_14 : decode cX0_over 14 = .ok (.lconst 1, 1) := by decide +kernel
theorem dX0_over_15 : decode cX0_over 15 = .ok (.lcmp, 1) := by decide +kernel
theorem dX0_over_16 : decode cX0_over 16 = .ok (.ifCond .le 12, 3) := by decide +kernel
theorem dX0_over_19 : decode cX0_over 19 = .ok (.aload_n 0, 1) := by decide +kernel
theorem dX0_over_20 : decode cX0_over 20 = .ok (.getfield 15, 3) := by decide +kernel
theorem dX0_over_23 : decode cX0_over 23 = .ok (.iload_n 1, 1) := by decide +kernel
theorem dX0_over_24 : decode cX0_over 24 = .ok (.laload, 1) := by decide +kernel
theorem dX0_over_25 : decode cX0_over 25 = .ok (.goto 4, 3) := by decide +kernel
theorem dX0_over_28 : decode cX0_over 28 = .ok (.lconst 1, 1) := by decide +kernel
theorem dX0_over_29 : decode cX0_over 29 = .ok (.lreturn, 1) := by decide +kernel
set_option maxRecDepth 20000 in
theorem ggX0_under_X0_has : GoodIn wsX0_under wsX0_has := goodIn_r _ [6, 7, 8, 9, 10] (by decide +kernel) (by decide +kernel)
set_option maxRecDepth 20000 in
theorem gX0_under_X0_has : GoodIn wsX0_under (wsV RX0 26 RX0 yX0_has wsX0_has) := goodIn_app (goodIn_of _ (by decide +kernel)) ggX0_under_X0_has
theorem dX0_under_0 : decode cX0_under 0 = .ok (.aload_n 0, 1) := by decide +kernel
theorem dX0_under_1 : decode cX0_under 1 = .ok (.iload_n 1, 1) := by decide +kernel
theorem dX0_under_2 : decode cX0_under 2 = .ok (.invokevirtual 26, 3) := by decide +kernel
theorem dX0_under_5 : decode cX0_under 5 = .ok (.ifCond .eq 23, 3) := by decide +kernel
theorem dX0_under_8 : decode cX0_under 8 = .ok (.aload_n 0, 1) := by decide +kernel
theorem dX0_under_9 : decode cX0_under 9 = .ok (.getfield 19, 3) := by decide +kernel
theorem dX0_under_12 : decode cX0_under 12 = .ok (.iload_n 1, 1) := by decide +kernel
theorem dX0_under_13 : decode cX0_under 13 = .ok (.laload, 1) := by decide +kernel
theorem dX0_under_14 : decode cX0_under 14 = .ok (.lconst 1, 1) := by decide +kernel
theorem dX0_under_15 : decode cX0_under 15 = .ok (.lcmp, 1) := by decide +kernel
theorem dX0_under_16 : decode cX0_under 16 = .ok (.ifCond .le 12, 3) := by decide +kernel
theorem dX0_under_19 : decode cX0_under 19 = .ok (.aload_n 0, 1) := by decide +kernel
theorem dX0_under_20 : decode cX0_under 20 = .ok (.getfield 19, 3) := by decide +kernel
theorem dX0_under_23 : decode cX0_under 23 = .ok (.iload_n 1, 1) := by decide +kernel
theorem dX0_under_24 : decode cX0_under 24 = .ok (.laload, 1) := by decide +kernel
theorem dX0_under_25 : decode cX0_under 25 = .ok (.goto 4, 3) := by decide +kernel
theorem dX0_under_28 : decode cX0_under 28 = .ok (.lconst 1, 1) := by decide +kernel
theorem dX0_under_29 : decode cX0_under 29 = .ok (.lreturn, 1) := by decide +kernel
set_option maxRecDepth 20000 in
theorem ggX0_firstFit_X0_under : GoodIn wsX0_firstFit wsX0_under := goodIn_r _ [6, 7, 8, 9, 10, 5, 11, 1, 12, 13, 14] (by decide +kernel) (by decide +kernel)
set_option maxRecDepth 20000 in
theorem gX0_firstFit_X0_under : GoodIn wsX0_firstFit (wsV RX0 30 RX0 yX0_under wsX0_under) := goodIn_app (goodIn_of _ (by decide +kernel)) ggX0_firstFit_X0_under
theorem dX0_firstFit_0 : decode cX0_firstFit 0 = .ok (.lload_n 1, 1) := by decide +kernel
theorem dX0_firstFit_1 : decode cX0_firstFit 1 = .ok (.lconst 1, 1) := by decide +kernel
theorem dX0_firstFit_2 : decode cX0_firstFit 2 = .ok (.lcmp, 1) := by decide +kernel
theorem dX0_firstFit_3 : decode cX0_firstFit 3 = .ok (.ifCond .ge 5, 3) := by decide +kernel
theorem dX0_firstFit_6 : decode cX0_firstFit 6 = .ok (.iconst (-1), 1) := by decide +kernel
theorem dX0_firstFit_7 : decode cX0_firstFit 7 = .ok (.ireturn, 1) := by decide +kernel
theorem dX0_firstFit_8 : decode cX0_firstFit 8 = .ok (.iconst 0, 1) := by decide +kernel
theorem dX0_firstFit_9 : decode cX0_firstFit 9 = .ok (.istore_n 3, 1) := by decide +kernel
theorem dX0_firstFit_10 : decode cX0_firstFit 10 = .ok (.iload_n 3, 1) := by decide +kernel
theorem dX0_firstFit_11 : decode cX0_firstFit 11 = .ok (.aload_n 0, 1) := by decide +kernel
theorem dX0_firstFit_12 : decode cX0_firstFit 12 = .ok (.getfield 9, 3) := by decide +kernel
theorem dX0_firstFit_15 : decode cX0_firstFit 15 = .ok (.if_icmp .ge 23, 3) := by decide +kernel
theorem dX0_firstFit_18 : decode cX0_firstFit 18 = .ok (.lload_n 1, 1) := by decide +kernel
theorem dX0_firstFit_19 : decode cX0_firstFit 19 = .ok (.aload_n 0, 1) := by decide +kernel
theorem dX0_firstFit_20 : decode cX0_firstFit 20 = .ok (.iload_n 3, 1) := by decide +kernel
theorem dX0_firstFit_21 : decode cX0_firstFit 21 = .ok (.invokevirtual 30, 3) := by decide +kernel
theorem dX0_firstFit_24 : decode cX0_firstFit 24 = .ok (.lrem, 1) := by decide +kernel
theorem dX0_firstFit_25 : decode cX0_firstFit 25 = .ok (.lconst 0, 1) := by decide +kernel
theorem dX0_firstFit_26 : decode cX0_firstFit 26 = .ok (.lcmp, 1) := by decide +kernel
theorem dX0_firstFit_27 : decode cX0_firstFit 27 = .ok (.ifCond .ne 5, 3) := by decide +kernel
theorem dX0_firstFit_30 : decode cX0_firstFit 30 = .ok (.iload_n 3, 1) := by decide +kernel
theorem dX0_firstFit_31 : decode cX0_firstFit 31 = .ok (.ireturn, 1) := by decide +kernel
theorem dX0_firstFit_32 : decode cX0_firstFit 32 = .ok (.iinc 3 1, 3) := by decide +kernel
theorem dX0_firstFit_35 : decode cX0_firstFit 35 = .ok (.goto (-25), 3) := by decide +kernel
theorem dX0_firstFit_38 : decode cX0_firstFit 38 = .ok (.iconst (-1), 1) := by decide +kernel
theorem dX0_firstFit_39 : decode cX0_firstFit 39 = .ok (.ireturn, 1) := by decide +kernel
set_option maxRecDepth 20000 in
theorem ggX0_after_X0_firstFit : GoodIn wsX0_after wsX0_firstFit := goodIn_ca (goodIn_r _ [8, 9, 10, 11, 12, 7, 13, 14, 15, 16, 17, 18, 24, 25, 26] (by decide +kernel) (by decide +kernel)) (goodIn_sub (fun _ h => List.mem_cons_of_mem _ (List.mem_append_right _ h)) (by decide +kernel))
set_option maxRecDepth 20000 in
theorem gX0_after_X0_firstFit : GoodIn wsX0_after (wsV RX0 34 RX0 yX0_firstFit wsX0_firstFit) := goodIn_app (goodIn_of _ (by decide +kernel)) ggX0_after_X0_firstFit
set_option maxRecDepth 20000 in
theorem ggX0_after_X0_under : GoodIn wsX0_after wsX0_under := goodIn_r _ [13, 14, 15, 16, 17, 7, 18, 9, 24, 25, 26] (by decide +kernel) (by decide +kernel)
set_option maxRecDepth 20000 in
theorem gX0_after_X0_under : GoodIn wsX0_after (wsV RX0 30 RX0 yX0_under wsX0_under) := goodIn_app (goodIn_of _ (by decide +kernel)) ggX0_after_X0_under
set_option maxRecDepth 20000 in
theorem ggX0_after_X0_over : GoodIn wsX0_after wsX0_over := goodIn_r _ [22, 23, 15, 16, 17, 7, 18, 9, 24, 25, 26] (by decide +kernel) (by decide +kernel)
set_option maxRecDepth 20000 in
theorem gX0_after_X0_over : GoodIn wsX0_after (wsV RX0 42 RX0 yX0_over wsX0_over) := goodIn_app (goodIn_of _ (by decide +kernel)) ggX0_after_X0_over
theorem dX0_after_0 : decode cX0_after 0 = .ok (.aload_n 0, 1) := by decide +kernel
theorem dX0_after_1 : decode cX0_after 1 = .ok (.lload_n 1, 1) := by decide +kernel
theorem dX0_after_2 : decode cX0_after 2 = .ok (.invokevirtual 34, 3) := by decide +kernel
theorem dX0_after_5 : decode cX0_after 5 = .ok (.istore_n 3, 1) := by decide +kernel
theorem dX0_after_6 : decode cX0_after 6 = .ok (.iload_n 3, 1) := by decide +kernel
theorem dX0_after_7 : decode cX0_after 7 = .ok (.ifCond .ge 7, 3) := by decide +kernel
theorem dX0_after_10 : decode cX0_after 10 = .ok (.ldc2_w 38, 3) := by decide +kernel
theorem dX0_after_13 : decode cX0_after 13 = .ok (.lreturn, 1) := by decide +kernel
theorem dX0_after_14 : decode cX0_after 14 = .ok (.lload_n 1, 1) := by decide +kernel
theorem dX0_after_15 : decode cX0_after 15 = .ok (.aload_n 0, 1) := by decide +kernel
theorem dX0_after_16 : decode cX0_after 16 = .ok (.iload_n 3, 1) := by decide +kernel
theorem dX0_after_17 : decode cX0_after 17 = .ok (.invokevirtual 30, 3) := by decide +kernel
theorem dX0_after_20 : decode cX0_after 20 = .ok (.ldiv, 1) := by decide +kernel
theorem dX0_after_21 : decode cX0_after 21 = .ok (.lstore 4, 2) := by decide +kernel
theorem dX0_after_23 : decode cX0_after 23 = .ok (.lload 4, 2) := by decide +kernel
theorem dX0_after_25 : decode cX0_after 25 = .ok (.ldc2_w 40, 3) := by decide +kernel
theorem dX0_after_28 : decode cX0_after 28 = .ok (.aload_n 0, 1) := by decide +kernel
theorem dX0_after_29 : decode cX0_after 29 = .ok (.iload_n 3, 1) := by decide +kernel
theorem dX0_after_30 : decode cX0_after 30 = .ok (.invokevirtual 42, 3) := by decide +kernel
theorem dX0_after_33 : decode cX0_after 33 = .ok (.ldiv, 1) := by decide +kernel
theorem dX0_after_34 : decode cX0_after 34 = .ok (.lcmp, 1) := by decide +kernel
theorem dX0_after_35 : decode cX0_after 35 = .ok (.ifCond .le 9, 3) := by decide +kernel
theorem dX0_after_38 : decode cX0_after 38 = .ok (.ldc2_w 45, 3) := by decide +kernel
theorem dX0_after_41 : decode cX0_after 41 = .ok (.goto 11, 3) := by decide +kernel
theorem dX0_after_44 : decode cX0_after 44 = .ok (.lload 4, 2) := by decide +kernel
theorem dX0_after_46 : decode cX0_after 46 = .ok (.aload_n 0, 1) := by decide +kernel
theorem dX0_after_47 : decode cX0_after 47 = .ok (.iload_n 3, 1) := by decide +kernel
theorem dX0_after_48 : decode cX0_after 48 = .ok (.invokevirtual 42, 3) := by decide +kernel
theorem dX0_after_51 : decode cX0_after 51 = .ok (.lmul, 1) := by decide +kernel
theorem dX0_after_52 : decode cX0_after 52 = .ok (.lreturn, 1) := by decide +kernel
set_option maxRecDepth 20000 in
theorem ggX0_isEverFirst_X0_under : GoodIn wsX0_isEverFirst wsX0_under := goodIn_r _ [5, 6, 7, 8, 9, 4, 10, 11, 16, 17, 18] (by decide +kernel) (by decide +kernel)
set_option maxRecDepth 20000 in
theorem gX0_isEverFirst_X0_under : GoodIn wsX0_isEverFirst (wsV RX0 30 RX0 yX0_under wsX0_under) := goodIn_app (goodIn_of _ (by decide +kernel)) ggX0_isEverFirst_X0_under
set_option maxRecDepth 20000 in
theorem ggX0_isEverFirst_X0_firstFit : GoodIn wsX0_isEverFirst wsX0_firstFit := goodIn_ca (goodIn_r _ [15, 11, 1, 2, 3, 4, 5, 6, 7, 8, 9, 10, 16, 17, 18] (by decide +kernel) (by decide +kernel)) (goodIn_sub (fun _ h => List.mem_cons_of_mem _ (List.mem_append_right _ h)) (by decide +kernel))
set_option maxRecDepth 20000 in
theorem gX0_isEverFirst_X0_firstFit : GoodIn wsX0_isEverFirst (wsV RX0 34 RX0 yX0_firstFit wsX0_firstFit) := goodIn_app (goodIn_of _ (by decide +kernel)) ggX0_isEverFirst_X0_firstFit
theorem dX0_isEverFirst_0 : decode cX0_isEverFirst 0 = .ok (.aload_n 0, 1) := by decide +kernel
theorem dX0_isEverFirst_1 : decode cX0_isEverFirst 1 = .ok (.aload_n 0, 1) := by decide +kernel
theorem dX0_isEverFirst_2 : decode cX0_isEverFirst 2 = .ok (.iload_n 1, 1) := by decide +kernel
theorem dX0_isEverFirst_3 : decode cX0_isEverFirst 3 = .ok (.invokevirtual 30, 3) := by decide +kernel
theorem dX0_isEverFirst_6 : decode cX0_isEverFirst 6 = .ok (.invokevirtual 34, 3) := by decide +kernel
theorem dX0_isEverFirst_9 : decode cX0_isEverFirst 9 = .ok (.iload_n 1, 1) := by decide +kernel
theorem dX0_isEverFirst_10 : decode cX0_isEverFirst 10 = .ok (.if_icmp .ne 7, 3) := by decide +kernel
theorem dX0_isEverFirst_13 : decode cX0_isEverFirst 13 = .ok (.iconst 1, 1) := by decide +kernel
theorem dX0_isEverFirst_14 : decode cX0_isEverFirst 14 = .ok (.goto 4, 3) := by decide +kernel
theorem dX0_isEverFirst_17 : decode cX0_isEverFirst 17 = .ok (.iconst 0, 1) := by decide +kernel
theorem dX0_isEverFirst_18 : decode cX0_isEverFirst 18 = .ok (.ireturn, 1) := by decide +kernel
set_option maxRecDepth 20000 in
theorem ggX1_init_X2_init : GoodIn wsX1_init wsX2_init := goodIn_r _ [15, 16, 2, 3, 17, 18, 19, 20, 21, 22, 23, 24, 25] (by decide +kernel) (by decide +kernel)
set_option maxRecDepth 20000 in
theorem gX1_init_X2_init : GoodIn wsX1_init (wsX2_init) := ggX1_init_X2_init
theorem dX1_init_0 : decode cX1_init 0 = .ok (.aload_n 0, 1) := by decide +kernel
theorem dX1_init_1 : decode cX1_init 1 = .ok (.invokespecial 3, 3) := by decide +kernel
theorem dX1_init_4 : decode cX1_init 4 = .ok (.aload_n 0, 1) := by decide +kernel
theorem dX1_init_5 : decode cX1_init 5 = .ok (.new 9, 3) := by decide +kernel
theorem dX1_init_8 : decode cX1_init 8 = .ok (.dup, 1) := by decide +kernel
theorem dX1_init_9 : decode cX1_init 9 = .ok (.bipush 12, 2) := by decide +kernel
theorem dX1_init_11 : decode cX1_init 11 = .ok (.invokespecial 11, 3) := by decide +kernel
theorem dX1_init_14 : decode cX1_init 14 = .ok (.putfield 14, 3) := by decide +kernel
theorem dX1_init_17 : decode cX1_init 17 = .ok (.aload_n 0, 1) := by decide +kernel
theorem dX1_init_18 : decode cX1_init 18 = .ok (.new 9, 3) := by decide +kernel
theorem dX1_init_21 : decode cX1_init 21 = .ok (.dup, 1) := by decide +kernel
theorem dX1_init_22 : decode cX1_init 22 = .ok (.bipush 12, 2) := by decide +kernel
theorem dX1_init_24 : decode cX1_init 24 = .ok (.invokespecial 11, 3) := by decide +kernel
theorem dX1_init_27 : decode cX1_init 27 = .ok (.putfield 20, 3) := by decide +kernel
theorem dX1_init_30 : decode cX1_init 30 = .ok (.aload_n 0, 1) := by decide +kernel
theorem dX1_init_31 : decode cX1_init 31 = .ok (.new 9, 3) := by decide +kernel
theorem dX1_init_34 : decode cX1_init 34 = .ok (.dup, 1) := by decide +kernel
theorem dX1_init_35 : decode cX1_init 35 = .ok (.bipush 12, 2) := by decide +kernel
theorem dX1_init_37 : decode cX1_init 37 = .ok (.invokespecial 11, 3) := by decide +kernel
theorem dX1_init_40 : decode cX1_init 40 = .ok (.putfield 23, 3) := by decide +kernel
theorem dX1_init_43 : decode cX1_init 43 = .ok (.aload_n 0, 1) := by decide +kernel
theorem dX1_init_44 : decode cX1_init 44 = .ok (.new 9, 3) := by decide +kernel
theorem dX1_init_47 : decode cX1_init 47 = .ok (.dup, 1) := by decide +kernel
theorem dX1_init_48 : decode cX1_init 48 = .ok (.bipush 12, 2) := by decide +kernel
theorem dX1_init_50 : decode cX1_init 50 = .ok (.invokespecial 11, 3) := by decide +kernel
theorem dX1_init_53 : decode cX1_init 53 = .ok (.putfield 26, 3) := by decide +kernel
theorem dX1_init_56 : decode cX1_init 56 = .ok (.aload_n 0, 1) := by decide +kernel
theorem dX1_init_57 : decode cX1_init 57 = .ok (.new 9, 3) := by decide +kernel
theorem dX1_init_60 : decode cX1_init 60 = .ok (.dup, 1) := by decide +kernel
theorem dX1_init_61 : decode cX1_init 61 = .ok (.iconst 4, 1) := by decide +kernel
theorem dX1_init_62 : decode cX1_init 62 = .ok (.invokespecial 11, 3) := by decide +kernel
theorem dX1_init_65 : decode cX1_init 65 = .ok (.putfield 29, 3) := by decide +kernel
theorem dX1_init_68 : decode cX1_init 68 = .ok (.aload_n 0, 1) := by decide +kernel
theorem dX1_init_69 : decode cX1_init 69 = .ok (.iconst 0, 1) := by decide +kernel
theorem dX1_init_70 : decode cX1_init 70 = .ok (.putfield 32, 3) := by decide +kernel
theorem dX1_init_73 : decode cX1_init 73 = .ok (.return_, 1) := by decide +kernel
set_option maxRecDepth 20000 in
theorem ggX1_size_X2_size : GoodIn wsX1_size wsX2_size := goodIn_r _ [6, 7, 14, 15] (by decide +kernel) (by decide +kernel)
set_option maxRecDepth 20000 in
theorem gX1_size_X2_size : GoodIn wsX1_size (wsV RX1 36 RX2 yX2_size wsX2_size) := goodIn_app (goodIn_of _ (by decide +kernel)) ggX1_size_X2_size
theorem dX1_size_0 : decode cX1_size 0 = .ok (.aload_n 0, 1) := by decide +kernel
theorem dX1_size_1 : decode cX1_size 1 = .ok (.getfield 14, 3) := by decide +kernel
theorem dX1_size_4 : decode cX1_size 4 = .ok (.invokevirtual 36, 3) := by decide +kernel
theorem dX1_size_7 : decode cX1_size 7 = .ok (.ireturn, 1) := by decide +kernel
set_option maxRecDepth 20000 in
theorem ggX1_empty_X2_empty : GoodIn wsX1_empty wsX2_empty := goodIn_r _ [9, 10, 17, 18] (by decide +kernel) (by decide +kernel)
set_option maxRecDepth 20000 in
theorem gX1_empty_X2_empty : GoodIn wsX1_empty (wsV RX1 40 RX2 yX2_empty wsX2_empty) := goodIn_app (goodIn_of _ (by decide +kernel)) ggX1_empty_X2_empty
theorem dX1_empty_0 : decode cX1_empty 0 = .ok (.aload_n 0, 1) := by decide +kernel
theorem dX1_empty_1 : decode cX1_empty 1 = .ok (.getfield 14, 3) := by decide +kernel
theorem dX1_empty_4 : decode cX1_empty 4 = .ok (.invokevirtual 40, 3) := by decide +kernel
theorem dX1_empty_7 : decode cX1_empty 7 = .ok (.aload_n 0, 1) := by decide +kernel
theorem dX1_empty_8 : decode cX1_empty 8 = .ok (.getfield 20, 3) := by decide +kernel
theorem dX1_empty_11 : decode cX1_empty 11 = .ok (.invokevirtual 40, 3) := by decide +kernel
theorem dX1_empty_14 : decode cX1_empty 14 = .ok (.aload_n 0, 1) := by decide +kernel
theorem dX1_empty_15 : decode cX1_empty 15 = .ok (.getfield 23, 3) := by decide +kernel
theorem dX1_empty_18 : decode cX1_empty 18 = .ok (.invokevirtual 40, 3) := by decide +kernel
theorem dX1_empty_21 : decode cX1_empty 21 = .ok (.aload_n 0, 1) := by decide +kernel
theorem dX1_empty_22 : decode cX1_empty 22 = .ok (.getfield 26, 3) := by decide +kernel
theorem dX1_empty_25 : decode cX1_empty 25 = .ok (.invokevirtual 40, 3) := by decide +kernel
theorem dX1_empty_28 : decode cX1_empty 28 = .ok (.return_, 1) := by decide +kernel
set_option maxRecDepth 20000 in
theorem ggX1_add_X2_add : GoodIn wsX1_add wsX2_add := goodIn_r _ [9, 10, 11, 18, 19] (by decide +kernel) (by decide +kernel)
set_option maxRecDepth 20000 in
theorem gX1_add_X2_add : GoodIn wsX1_add (wsV RX1 43 RX2 yX2_add wsX2_add) := goodIn_app (goodIn_of _ (by decide +kernel)) ggX1_add_X2_add
theorem dX1_add_0 : decode cX1_add 0 = .ok (.aload_n 0, 1) := by decide +kernel
theorem dX1_add_1 : decode cX1_add 1 = .ok (.getfield 14, 3) := by decide +kernel
theorem dX1_add_4 : decode cX1_add 4 = .ok (.iload_n 1, 1) := by decide +kernel
theorem dX1_add_5 : decode cX1_add 5 = .ok (.i2l, 1) := by decide +kernel
theorem dX1_add_6 : decode cX1_add 6 = .ok (.invokevirtual 43, 3) := by decide +kernel
theorem dX1_add_9 : decode cX1_add 9 = .ok (.ifCond .eq 44, 3) := by decide +kernel
theorem dX1_add_12 : decode cX1_add 12 = .ok (.aload_n 0, 1) := by decide +kernel
theorem dX1_add_13 : decode cX1_add 13 = .ok (.getfield 20, 3) := by decide +kernel
theorem dX1_add_16 : decode cX1_add 16 = .ok (.iload_n 2, 1) := by decide +kernel
theorem dX1_add_17 : decode cX1_add 17 = .ok (.i2l, 1) := by decide +kernel
theorem dX1_add_18 : decode cX1_add 18 = .ok (.invokevirtual 43, 3) := by decide +kernel
theorem dX1_add_21 : decode cX1_add 21 = .ok (.ifCond .eq 32, 3) := by decide +kernel
theorem dX1_add_24 : decode cX1_add 24 = .ok (.aload_n 0, 1) := by decide +kernel
theorem dX1_add_25 : decode cX1_add 25 = .ok (.getfield 23, 3) := by decide +kernel
theorem dX1_add_28 : decode cX1_add 28 = .ok (.iload_n 3, 1) := by decide +kernel
theorem dX1_add_29 : decode cX1_add 29 = .ok (.i2l, 1) := by decide +kernel
theorem dX1_add_30 : decode cX1_add 30 = .ok (.invokevirtual 43, 3) := by decide +kernel
theorem dX1_add_33 : decode cX1_add 33 = .ok (.ifCond .eq 20, 3) := by decide +kernel
theorem dX1_add_36 : decode cX1_add 36 = .ok (.aload_n 0, 1) := by decide +kernel
theorem dX1_add_37 : decode cX1_add 37 = .ok (.getfield 26, 3) := by decide +kernel
theorem dX1_add_40 : decode cX1_add 40 = .ok (.iload 4, 2) := by decide +kernel
theorem dX1_add_42 : decode cX1_add 42 = .ok (.i2l, 1) := by decide +kernel
theorem dX1_add_43 : decode cX1_add 43 = .ok (.invokevirtual 43, 3) := by decide +kernel
theorem dX1_add_46 : decode cX1_add 46 = .ok (.ifCond .eq 7, 3) := by decide +kernel
theorem dX1_add_49 : decode cX1_add 49 = .ok (.iconst 1, 1) := by decide +kernel
theorem dX1_add_50 : decode cX1_add 50 = .ok (.goto 4, 3) := by decide +kernel
theorem dX1_add_53 : decode cX1_add 53 = .ok (.iconst 0, 1) := by decide +kernel
theorem dX1_add_54 : decode cX1_add 54 = .ok (.ireturn, 1) := by decide +kernel
set_option maxRecDepth 20000 in
theorem ggX1_kind_X2_at : GoodIn wsX1_kind wsX2_at := goodIn_r _ [6, 7, 8, 9, 10, 5, 11, 12, 19, 20] (by decide +kernel) (by decide +kernel)
set_option maxRecDepth 20000 in
theorem gX1_kind_X2_at : GoodIn wsX1_kind (wsV RX1 47 RX2 yX2_at wsX2_at) := goodIn_app (goodIn_of _ (by decide +kernel)) ggX1_kind_X2_at
theorem dX1_kind_0 : decode cX1_kind 0 = .ok (.aload_n 0, 1) := by decide +kernel
theorem dX1_kind_1 : decode cX1_kind 1 = .ok (.getfield 14, 3) := by decide +kernel
theorem dX1_kind_4 : decode cX1_kind 4 = .ok (.iload_n 1, 1) := by decide +kernel
theorem dX1_kind_5 : decode cX1_kind 5 = .ok (.invokevirtual 47, 3) := by decide +kernel
theorem dX1_kind_8 : decode cX1_kind 8 = .ok (.l2i, 1) := by decide +kernel
theorem dX1_kind_9 : decode cX1_kind 9 = .ok (.ireturn, 1) := by decide +kernel
set_option maxRecDepth 20000 in
theorem ggX1_heap_X2_at : GoodIn wsX1_heap wsX2_at := goodIn_r _ [6, 7, 8, 9, 10, 5, 11, 12, 19, 20] (by decide +kernel) (by decide +kernel)
set_option maxRecDepth 20000 in
theorem gX1_heap_X2_at : GoodIn wsX1_heap (wsV RX1 47 RX2 yX2_at wsX2_at) := goodIn_app (goodIn_of _ (by decide +kernel)) ggX1_heap_X2_at
theorem dX1_heap_0 : decode cX1_heap 0 = .ok (.aload_n 0, 1) := by decide +kernel
theorem dX1_heap_1 : decode cX1_heap 1 = .ok (.getfield 20, 3) := by decide +kernel
theorem dX1_heap_4 : decode cX1_heap 4 = .ok (.iload_n 1, 1) := by decide +kernel
theorem dX1_heap_5 : decode cX1_heap 5 = .ok (.invokevirtual 47, 3) := by decide +kernel
theorem dX1_heap_8 : decode cX1_heap 8 = .ok (.l2i, 1) := by decide +kernel
theorem dX1_heap_9 : decode cX1_heap 9 = .ok (.ireturn, 1) := by decide +kernel
set_option maxRecDepth 20000 in
theorem ggX1_next_X2_at : GoodIn wsX1_next wsX2_at := goodIn_r _ [6, 7, 8, 9, 10, 5, 11, 12, 19, 20] (by decide +kernel) (by decide +kernel)
set_option maxRecDepth 20000 in
theorem gX1_next_X2_at : GoodIn wsX1_next (wsV RX1 47 RX2 yX2_at wsX2_at) := goodIn_app (goodIn_of _ (by decide +kernel)) ggX1_next_X2_at
theorem dX1_next_0 : decode cX1_next 0 = .ok (.aload_n 0, 1) := by decide +kernel
theorem dX1_next_1 : decode cX1_next 1 = .ok (.getfield 23, 3) := by decide +kernel
theorem dX1_next_4 : decode cX1_next 4 = .ok (.iload_n 1, 1) := by decide +kernel
theorem dX1_next_5 : decode cX1_next 5 = .ok (.invokevirtual 47, 3) := by decide +kernel
theorem dX1_next_8 : decode cX1_next 8 = .ok (.l2i, 1) := by decide +kernel
theorem dX1_next_9 : decode cX1_next 9 = .ok (.ireturn, 1) := by decide +kernel
set_option maxRecDepth 20000 in
theorem ggX1_otherwise_X2_at : GoodIn wsX1_otherwise wsX2_at := goodIn_r _ [6, 7, 8, 9, 10, 5, 11, 12, 19, 20] (by decide +kernel) (by decide +kernel)
set_option maxRecDepth 20000 in
theorem gX1_otherwise_X2_at : GoodIn wsX1_otherwise (wsV RX1 47 RX2 yX2_at wsX2_at) := goodIn_app (goodIn_of _ (by decide +kernel)) ggX1_otherwise_X2_at
theorem dX1_otherwise_0 : decode cX1_otherwise 0 = .ok (.aload_n 0, 1) := by decide +kernel
theorem dX1_otherwise_1 : decode cX1_otherwise 1 = .ok (.getfield 26, 3) := by decide +kernel
theorem dX1_otherwise_4 : decode cX1_otherwise 4 = .ok (.iload_n 1, 1) := by decide +kernel
theorem dX1_otherwise_5 : decode cX1_otherwise 5 = .ok (.invokevirtual 47, 3) := by decide +kernel
theorem dX1_otherwise_8 : decode cX1_otherwise 8 = .ok (.l2i, 1) := by decide +kernel
theorem dX1_otherwise_9 : decode cX1_otherwise 9 = .ok (.ireturn, 1) := by decide +kernel
set_option maxRecDepth 20000 in
theorem ggX1_fill_X2_empty : GoodIn wsX1_fill wsX2_empty := goodIn_r _ [6, 7, 19, 20] (by decide +kernel) (by decide +kernel)
set_option maxRecDepth 20000 in
theorem gX1_fill_X2_empty : GoodIn wsX1_fill (wsV RX1 40 RX2 yX2_empty wsX2_empty) := goodIn_app (goodIn_of _ (by decide +kernel)) ggX1_fill_X2_empty
set_option maxRecDepth 20000 in
theorem ggX1_fill_X2_add : GoodIn wsX1_fill wsX2_add := goodIn_r _ [11, 7, 12, 19, 20] (by decide +kernel) (by decide +kernel)
set_option maxRecDepth 20000 in
theorem gX1_fill_X2_add : GoodIn wsX1_fill (wsV RX1 43 RX2 yX2_add wsX2_add) := goodIn_app (goodIn_of _ (by decide +kernel)) ggX1_fill_X2_add
theorem dX1_fill_0 : decode cX1_fill 0 = .ok (.aload_n 0, 1) := by decide +kernel
theorem dX1_fill_1 : decode cX1_fill 1 = .ok (.getfield 29, 3) := by decide +kernel
theorem dX1_fill_4 : decode cX1_fill 4 = .ok (.invokevirtual 40, 3) := by decide +kernel
theorem dX1_fill_7 : decode cX1_fill 7 = .ok (.aload_n 0, 1) := by decide +kernel
theorem dX1_fill_8 : decode cX1_fill 8 = .ok (.getfield 29, 3) := by decide +kernel
theorem dX1_fill_11 : decode cX1_fill 11 = .ok (.iload_n 1, 1) := by decide +kernel
theorem dX1_fill_12 : decode cX1_fill 12 = .ok (.i2l, 1) := by decide +kernel
theorem dX1_fill_13 : decode cX1_fill 13 = .ok (.invokevirtual 43, 3) := by decide +kernel
theorem dX1_fill_16 : decode cX1_fill 16 = .ok (.pop, 1) := by decide +kernel
theorem dX1_fill_17 : decode cX1_fill 17 = .ok (.aload_n 0, 1) := by decide +kernel
theorem dX1_fill_18 : decode cX1_fill 18 = .ok (.getfield 29, 3) := by decide +kernel
theorem dX1_fill_21 : decode cX1_fill 21 = .ok (.iload_n 2, 1) := by decide +kernel
theorem dX1_fill_22 : decode cX1_fill 22 = .ok (.i2l, 1) := by decide +kernel
theorem dX1_fill_23 : decode cX1_fill 23 = .ok (.invokevirtual 43, 3) := by decide +kernel
theorem dX1_fill_26 : decode cX1_fill 26 = .ok (.pop, 1) := by decide +kernel
theorem dX1_fill_27 : decode cX1_fill 27 = .ok (.aload_n 0, 1) := by decide +kernel
theorem dX1_fill_28 : decode cX1_fill 28 = .ok (.getfield 29, 3) := by decide +kernel
theorem dX1_fill_31 : decode cX1_fill 31 = .ok (.iload_n 3, 1) := by decide +kernel
theorem dX1_fill_32 : decode cX1_fill 32 = .ok (.i2l, 1) := by decide +kernel
theorem dX1_fill_33 : decode cX1_fill 33 = .ok (.invokevirtual 43, 3) := by decide +kernel
theorem dX1_fill_36 : decode cX1_fill 36 = .ok (.pop, 1) := by decide +kernel
theorem dX1_fill_37 : decode cX1_fill 37 = .ok (.aload_n 0, 1) := by decide +kernel
theorem dX1_fill_38 : decode cX1_fill 38 = .ok (.getfield 29, 3) := by decide +kernel
theorem dX1_fill_41 : decode cX1_fill 41 = .ok (.iload 4, 2) := by decide +kernel
theorem dX1_fill_43 : decode cX1_fill 43 = .ok (.i2l, 1) := by decide +kernel
theorem dX1_fill_44 : decode cX1_fill 44 = .ok (.invokevirtual 43, 3) := by decide +kernel
theorem dX1_fill_47 : decode cX1_fill 47 = .ok (.pop, 1) := by decide +kernel
theorem dX1_fill_48 : decode cX1_fill 48 = .ok (.return_, 1) := by decide +kernel
set_option maxRecDepth 20000 in
theorem ggX1_inHeap_X2_at : GoodIn wsX1_inHeap wsX2_at := goodIn_r _ [6, 7, 8, 9, 10, 5, 11, 12, 19, 20] (by decide +kernel) (by decide +kernel)
set_option maxRecDepth 20000 in
theorem gX1_inHeap_X2_at : GoodIn wsX1_inHeap (wsV RX1 47 RX2 yX2_at wsX2_at) := goodIn_app (goodIn_of _ (by decide +kernel)) ggX1_inHeap_X2_at
theorem dX1_inHeap_0 : decode cX1_inHeap 0 = .ok (.aload_n 0, 1) := by decide +kernel
theorem dX1_inHeap_1 : decode cX1_inHeap 1 = .ok (.getfield 29, 3) := by decide +kernel
theorem dX1_inHeap_4 : decode cX1_inHeap 4 = .ok (.iload_n 1, 1) := by decide +kernel
theorem dX1_inHeap_5 : decode cX1_inHeap 5 = .ok (.invokevirtual 47, 3) := by decide +kernel
theorem dX1_inHeap_8 : decode cX1_inHeap 8 = .ok (.lreturn, 1) := by decide +kernel
theorem dX1_done_0 : decode cX1_done 0 = .ok (.aload_n 0, 1) := by decide +kernel
theorem dX1_done_1 : decode cX1_done 1 = .ok (.getfield 32, 3) := by decide +kernel
theorem dX1_done_4 : decode cX1_done 4 = .ok (.ireturn, 1) := by decide +kernel
set_option maxRecDepth 20000 in
theorem ggX1_work_X1_size : GoodIn wsX1_work wsX1_size := goodIn_r _ [6, 7, 8, 9, 10, 11, 12, 13, 51, 52, 53, 54, 55, 56, 57, 58] (by decide +kernel) (by decide +kernel)
set_option maxRecDepth 20000 in
theorem gX1_work_X1_size : GoodIn wsX1_work (wsV RX1 51 RX1 yX1_size wsX1_size) := goodIn_app (goodIn_of _ (by decide +kernel)) ggX1_work_X1_size
set_option maxRecDepth 20000 in
theorem ggX1_work_X1_kind : GoodIn wsX1_work wsX1_kind := goodIn_r _ [17, 7, 18, 19, 20, 11, 21, 22, 23, 24, 25, 26, 13, 51, 52, 53, 54, 55, 56, 57, 58] (by decide +kernel) (by decide +kernel)
set_option maxRecDepth 20000 in
theorem gX1_work_X1_kind : GoodIn wsX1_work (wsV RX1 52 RX1 yX1_kind wsX1_kind) := goodIn_app (goodIn_of _ (by decide +kernel)) ggX1_work_X1_kind
set_option maxRecDepth 20000 in
theorem ggX1_work_X1_follow : GoodIn wsX1_work wsX1_follow := goodIn_r _ [30, 31, 32, 33, 34, 5, 35, 36, 18, 19, 20, 11, 21, 22, 23, 24, 25, 26, 13, 14, 15, 16, 17, 7, 37, 38, 39, 40, 41, 42, 43, 44, 45, 46, 47, 48, 49, 50, 51, 52, 53, 54, 55, 56, 57, 58] (by decide +kernel) (by decide +kernel)
set_option maxRecDepth 20000 in
theorem gX1_work_X1_follow : GoodIn wsX1_work (wsV RX1 56 RX1 yX1_follow wsX1_follow) := goodIn_app (goodIn_of _ (by decide +kernel)) ggX1_work_X1_follow
theorem dX1_work_0 : decode cX1_work 0 = .ok (.iconst 0, 1) := by decide +kernel
theorem dX1_work_1 : decode cX1_work 1 = .ok (.istore_n 2, 1) := by decide +kernel
theorem dX1_work_2 : decode cX1_work 2 = .ok (.aload_n 0, 1) := by decide +kernel
theorem dX1_work_3 : decode cX1_work 3 = .ok (.iconst 0, 1) := by decide +kernel
theorem dX1_work_4 : decode cX1_work 4 = .ok (.putfield 32, 3) := by decide +kernel
theorem dX1_work_7 : decode cX1_work 7 = .ok (.aload_n 0, 1) := by decide +kernel
theorem dX1_work_8 : decode cX1_work 8 = .ok (.getfield 32, 3) := by decide +kernel
theorem dX1_work_11 : decode cX1_work 11 = .ok (.iload_n 1, 1) := by decide +kernel
theorem dX1_work_12 : decode cX1_work 12 = .ok (.if_icmp .ge 41, 3) := by decide +kernel
theorem dX1_work_15 : decode cX1_work 15 = .ok (.iload_n 2, 1) := by decide +kernel
theorem dX1_work_16 : decode cX1_work 16 = .ok (.aload_n 0, 1) := by decide +kernel
theorem dX1_work_17 : decode cX1_work 17 = .ok (.invokevirtual 51, 3) := by decide +kernel
theorem dX1_work_20 : decode cX1_work 20 = .ok (.if_icmp .ge 33, 3) := by decide +kernel
theorem dX1_work_23 : decode cX1_work 23 = .ok (.aload_n 0, 1) := by decide +kernel
theorem dX1_work_24 : decode cX1_work 24 = .ok (.dup, 1) := by decide +kernel
theorem dX1_work_25 : decode cX1_work 25 = .ok (.getfield 32, 3) := by decide +kernel
theorem dX1_work_28 : decode cX1_work 28 = .ok (.iconst 1, 1) := by decide +kernel
theorem dX1_work_29 : decode cX1_work 29 = .ok (.iadd, 1) := by decide +kernel
theorem dX1_work_30 : decode cX1_work 30 = .ok (.putfield 32, 3) := by decide +kernel
theorem dX1_work_33 : decode cX1_work 33 = .ok (.aload_n 0, 1) := by decide +kernel
theorem dX1_work_34 : decode cX1_work 34 = .ok (.iload_n 2, 1) := by decide +kernel
theorem dX1_work_35 : decode cX1_work 35 = .ok (.invokevirtual 52, 3) := by decide +kernel
theorem dX1_work_38 : decode cX1_work 38 = .ok (.iconst 2, 1) := by decide +kernel
theorem dX1_work_39 : decode cX1_work 39 = .ok (.if_icmp .ne 5, 3) := by decide +kernel
theorem dX1_work_42 : decode cX1_work 42 = .ok (.iconst 1, 1) := by decide +kernel
theorem dX1_work_43 : decode cX1_work 43 = .ok (.ireturn, 1) := by decide +kernel
theorem dX1_work_44 : decode cX1_work 44 = .ok (.aload_n 0, 1) := by decide +kernel
theorem dX1_work_45 : decode cX1_work 45 = .ok (.iload_n 2, 1) := by decide +kernel
theorem dX1_work_46 : decode cX1_work 46 = .ok (.invokevirtual 56, 3) := by decide +kernel
theorem dX1_work_49 : decode cX1_work 49 = .ok (.istore_n 2, 1) := by decide +kernel
theorem dX1_work_50 : decode cX1_work 50 = .ok (.goto (-43), 3) := by decide +kernel
theorem dX1_work_53 : decode cX1_work 53 = .ok (.iload_n 2, 1) := by decide +kernel
theorem dX1_work_54 : decode cX1_work 54 = .ok (.aload_n 0, 1) := by decide +kernel
theorem dX1_work_55 : decode cX1_work 55 = .ok (.invokevirtual 51, 3) := by decide +kernel
theorem dX1_work_58 : decode cX1_work 58 = .ok (.if_icmp .ge 8, 3) := by decide +kernel
theorem dX1_work_61 : decode cX1_work 61 = .ok (.bipush (-2), 2) := by decide +kernel
theorem dX1_work_63 : decode cX1_work 63 = .ok (.goto 4, 3) := by decide +kernel
theorem dX1_work_66 : decode cX1_work 66 = .ok (.iconst 0, 1) := by decide +kernel
theorem dX1_work_67 : decode cX1_work 67 = .ok (.ireturn, 1) := by decide +kernel
set_option maxRecDepth 20000 in
theorem ggX1_follow_X1_heap : GoodIn wsX1_follow wsX1_heap := goodIn_r _ [6, 7, 8, 9, 10, 11, 12, 13, 14, 15, 16, 17, 18, 38, 39, 40, 41, 42, 43, 44, 45] (by decide +kernel) (by decide +kernel)
set_option maxRecDepth 20000 in
theorem gX1_follow_X1_heap : GoodIn wsX1_follow (wsV RX1 59 RX1 yX1_heap wsX1_heap) := goodIn_app (goodIn_of _ (by decide +kernel)) ggX1_follow_X1_heap
set_option maxRecDepth 20000 in
theorem ggX1_follow_X1_kind : GoodIn wsX1_follow wsX1_kind := goodIn_r _ [22, 23, 8, 9, 10, 11, 12, 13, 14, 15, 16, 17, 18, 38, 39, 40, 41, 42, 43, 44, 45] (by decide +kernel) (by decide +kernel)
set_option maxRecDepth 20000 in
theorem gX1_follow_X1_kind : GoodIn wsX1_follow (wsV RX1 52 RX1 yX1_kind wsX1_kind) := goodIn_app (goodIn_of _ (by decide +kernel)) ggX1_follow_X1_kind
set_option maxRecDepth 20000 in
theorem ggX1_follow_X2_at : GoodIn wsX1_follow wsX2_at := goodIn_r _ [12, 13, 14, 15, 16, 11, 17, 18, 44, 45] (by decide +kernel) (by decide +kernel)
set_option maxRecDepth 20000 in
theorem gX1_follow_X2_at : GoodIn wsX1_follow (wsV RX1 47 RX2 yX2_at wsX2_at) := goodIn_app (goodIn_of _ (by decide +kernel)) ggX1_follow_X2_at
set_option maxRecDepth 20000 in
theorem ggX1_follow_X2_put : GoodIn wsX1_follow wsX2_put := goodIn_r _ [27, 13, 14, 15, 16, 11, 17, 18, 44, 45] (by decide +kernel) (by decide +kernel)
set_option maxRecDepth 20000 in
theorem gX1_follow_X2_put : GoodIn wsX1_follow (wsV RX1 62 RX2 yX2_put wsX2_put) := goodIn_app (goodIn_of _ (by decide +kernel)) ggX1_follow_X2_put
set_option maxRecDepth 20000 in
theorem ggX1_follow_X1_next : GoodIn wsX1_follow wsX1_next := goodIn_r _ [31, 32, 8, 9, 10, 11, 12, 13, 14, 15, 16, 17, 18, 38, 39, 40, 41, 42, 43, 44, 45] (by decide +kernel) (by decide +kernel)
set_option maxRecDepth 20000 in
theorem gX1_follow_X1_next : GoodIn wsX1_follow (wsV RX1 66 RX1 yX1_next wsX1_next) := goodIn_app (goodIn_of _ (by decide +kernel)) ggX1_follow_X1_next
set_option maxRecDepth 20000 in
theorem ggX1_follow_X1_otherwise : GoodIn wsX1_follow wsX1_otherwise := goodIn_r _ [36, 37, 8, 9, 10, 11, 12, 13, 14, 15, 16, 17, 18, 38, 39, 40, 41, 42, 43, 44, 45] (by decide +kernel) (by decide +kernel)
set_option maxRecDepth 20000 in
theorem gX1_follow_X1_otherwise : GoodIn wsX1_follow (wsV RX1 69 RX1 yX1_otherwise wsX1_otherwise) := goodIn_app (goodIn_of _ (by decide +kernel)) ggX1_follow_X1_otherwise
theorem dX1_follow_0 : decode cX1_follow 0 = .ok (.aload_n 0, 1) := by decide +kernel
theorem dX1_follow_1 : decode cX1_follow 1 = .ok (.iload_n 1, 1) := by decide +kernel
theorem dX1_follow_2 : decode cX1_follow 2 = .ok (.invokevirtual 59, 3) := by decide +kernel
theorem dX1_follow_5 : decode cX1_follow 5 = .ok (.istore_n 2, 1) := by decide +kernel
theorem dX1_follow_6 : decode cX1_follow 6 = .ok (.aload_n 0, 1) := by decide +kernel
theorem dX1_follow_7 : decode cX1_follow 7 = .ok (.iload_n 1, 1) := by decide +kernel
theorem dX1_follow_8 : decode cX1_follow 8 = .ok (.invokevirtual 52, 3) := by decide +kernel
theorem dX1_follow_11 : decode cX1_follow 11 = .ok (.ifCond .ne 27, 3) := by decide +kernel
theorem dX1_follow_14 : decode cX1_follow 14 = .ok (.aload_n 0, 1) := by decide +kernel
theorem dX1_follow_15 : decode cX1_follow 15 = .ok (.getfield 29, 3) := by decide +kernel
theorem dX1_follow_18 : decode cX1_follow 18 = .ok (.iload_n 2, 1) := by decide +kernel
theorem dX1_follow_19 : decode cX1_follow 19 = .ok (.aload_n 0, 1) := by decide +kernel
theorem dX1_follow_20 : decode cX1_follow 20 = .ok (.getfield 29, 3) := by decide +kernel
theorem dX1_follow_23 : decode cX1_follow 23 = .ok (.iload_n 2, 1) := by decide +kernel
theorem dX1_follow_24 : decode cX1_follow 24 = .ok (.invokevirtual 47, 3) := by decide +kernel
theorem dX1_follow_27 : decode cX1_follow 27 = .ok (.lconst 1, 1) := by decide +kernel
theorem dX1_follow_28 : decode cX1_follow 28 = .ok (.ladd, 1) := by decide +kernel
theorem dX1_follow_29 : decode cX1_follow 29 = .ok (.invokevirtual 62, 3) := by decide +kernel
theorem dX1_follow_32 : decode cX1_follow 32 = .ok (.aload_n 0, 1) := by decide +kernel
theorem dX1_follow_33 : decode cX1_follow 33 = .ok (.iload_n 1, 1) := by decide +kernel
theorem dX1_follow_34 : decode cX1_follow 34 = .ok (.invokevirtual 66, 3) := by decide +kernel
theorem dX1_follow_37 : decode cX1_follow 37 = .ok (.ireturn, 1) := by decide +kernel
theorem dX1_follow_38 : decode cX1_follow 38 = .ok (.aload_n 0, 1) := by decide +kernel
theorem dX1_follow_39 : decode cX1_follow 39 = .ok (.getfield 29, 3) := by decide +kernel
theorem dX1_follow_42 : decode cX1_follow 42 = .ok (.iload_n 2, 1) := by decide +kernel
theorem dX1_follow_43 : decode cX1_follow 43 = .ok (.invokevirtual 47, 3) := by decide +kernel
theorem dX1_follow_46 : decode cX1_follow 46 = .ok (.lconst 0, 1) := by decide +kernel
theorem dX1_follow_47 : decode cX1_follow 47 = .ok (.lcmp, 1) := by decide +kernel
theorem dX1_follow_48 : decode cX1_follow 48 = .ok (.ifCond .ne 9, 3) := by decide +kernel
theorem dX1_follow_51 : decode cX1_follow 51 = .ok (.aload_n 0, 1) := by decide +kernel
theorem dX1_follow_52 : decode cX1_follow 52 = .ok (.iload_n 1, 1) := by decide +kernel
theorem dX1_follow_53 : decode cX1_follow 53 = .ok (.invokevirtual 69, 3) := by decide +kernel
theorem dX1_follow_56 : decode cX1_follow 56 = .ok (.ireturn, 1) := by decide +kernel
theorem dX1_follow_57 : decode cX1_follow 57 = .ok (.aload_n 0, 1) := by decide +kernel
theorem dX1_follow_58 : decode cX1_follow 58 = .ok (.getfield 29, 3) := by decide +kernel
theorem dX1_follow_61 : decode cX1_follow 61 = .ok (.iload_n 2, 1) := by decide +kernel
theorem dX1_follow_62 : decode cX1_follow 62 = .ok (.aload_n 0, 1) := by decide +kernel
theorem dX1_follow_63 : decode cX1_follow 63 = .ok (.getfield 29, 3) := by decide +kernel
theorem dX1_follow_66 : decode cX1_follow 66 = .ok (.iload_n 2, 1) := by decide +kernel
theorem dX1_follow_67 : decode cX1_follow 67 = .ok (.invokevirtual 47, 3) := by decide +kernel
theorem dX1_follow_70 : decode cX1_follow 70 = .ok (.lconst 1, 1) := by decide +kernel
theorem dX1_follow_71 : decode cX1_follow 71 = .ok (.lsub, 1) := by decide +kernel
theorem dX1_follow_72 : decode cX1_follow 72 = .ok (.invokevirtual 62, 3) := by decide +kernel
theorem dX1_follow_75 : decode cX1_follow 75 = .ok (.aload_n 0, 1) := by decide +kernel
theorem dX1_follow_76 : decode cX1_follow 76 = .ok (.iload_n 1, 1) := by decide +kernel
theorem dX1_follow_77 : decode cX1_follow 77 = .ok (.invokevirtual 66, 3) := by decide +kernel
theorem dX1_follow_80 : decode cX1_follow 80 = .ok (.ireturn, 1) := by decide +kernel
set_option maxRecDepth 20000 in
theorem ggX1_fractionsNeeded_X1_size : GoodIn wsX1_fractionsNeeded wsX1_size := goodIn_r _ [5, 6, 7, 8, 9, 10, 11, 12, 26, 27, 28, 29, 30, 31, 32, 33] (by decide +kernel) (by decide +kernel)
set_option maxRecDepth 20000 in
theorem gX1_fractionsNeeded_X1_size : GoodIn wsX1_fractionsNeeded (wsV RX1 51 RX1 yX1_size wsX1_size) := goodIn_app (goodIn_of _ (by decide +kernel)) ggX1_fractionsNeeded_X1_size
set_option maxRecDepth 20000 in
theorem ggX1_fractionsNeeded_X1_kind : GoodIn wsX1_fractionsNeeded wsX1_kind := goodIn_r _ [16, 6, 17, 18, 19, 10, 20, 21, 22, 23, 24, 25, 12, 26, 27, 28, 29, 30, 31, 32, 33] (by decide +kernel) (by decide +kernel)
set_option maxRecDepth 20000 in
theorem gX1_fractionsNeeded_X1_kind : GoodIn wsX1_fractionsNeeded (wsV RX1 52 RX1 yX1_kind wsX1_kind) := goodIn_app (goodIn_of _ (by decide +kernel)) ggX1_fractionsNeeded_X1_kind
theorem dX1_fractionsNeeded_0 : decode cX1_fractionsNeeded 0 = .ok (.iconst 2, 1) := by decide +kernel
theorem dX1_fractionsNeeded_1 : decode cX1_fractionsNeeded 1 = .ok (.aload_n 0, 1) := by decide +kernel
theorem dX1_fractionsNeeded_2 : decode cX1_fractionsNeeded 2 = .ok (.invokevirtual 51, 3) := by decide +kernel
theorem dX1_fractionsNeeded_5 : decode cX1_fractionsNeeded 5 = .ok (.imul, 1) := by decide +kernel
theorem dX1_fractionsNeeded_6 : decode cX1_fractionsNeeded 6 = .ok (.istore_n 1, 1) := by decide +kernel
theorem dX1_fractionsNeeded_7 : decode cX1_fractionsNeeded 7 = .ok (.iconst 0, 1) := by decide +kernel
theorem dX1_fractionsNeeded_8 : decode cX1_fractionsNeeded 8 = .ok (.istore_n 2, 1) := by decide +kernel
theorem dX1_fractionsNeeded_9 : decode cX1_fractionsNeeded 9 = .ok (.iload_n 2, 1) := by decide +kernel
theorem dX1_fractionsNeeded_10 : decode cX1_fractionsNeeded 10 = .ok (.aload_n 0, 1) := by decide +kernel
theorem dX1_fractionsNeeded_11 : decode cX1_fractionsNeeded 11 = .ok (.invokevirtual 51, 3) := by decide +kernel
theorem dX1_fractionsNeeded_14 : decode cX1_fractionsNeeded 14 = .ok (.if_icmp .ge 26, 3) := by decide +kernel
theorem dX1_fractionsNeeded_17 : decode cX1_fractionsNeeded 17 = .ok (.iload_n 1, 1) := by decide +kernel
theorem dX1_fractionsNeeded_18 : decode cX1_fractionsNeeded 18 = .ok (.aload_n 0, 1) := by decide +kernel
theorem dX1_fractionsNeeded_19 : decode cX1_fractionsNeeded 19 = .ok (.iload_n 2, 1) := by decide +kernel
theorem dX1_fractionsNeeded_20 : decode cX1_fractionsNeeded 20 = .ok (.invokevirtual 52, 3) := by decide +kernel
theorem dX1_fractionsNeeded_23 : decode cX1_fractionsNeeded 23 = .ok (.iconst 1, 1) := by decide +kernel
theorem dX1_fractionsNeeded_24 : decode cX1_fractionsNeeded 24 = .ok (.if_icmp .ne 7, 3) := by decide +kernel
theorem dX1_fractionsNeeded_27 : decode cX1_fractionsNeeded 27 = .ok (.iconst 1, 1) := by decide +kernel
theorem dX1_fractionsNeeded_28 : decode cX1_fractionsNeeded 28 = .ok (.goto 4, 3) := by decide +kernel
theorem dX1_fractionsNeeded_31 : decode cX1_fractionsNeeded 31 = .ok (.iconst 0, 1) := by decide +kernel
theorem dX1_fractionsNeeded_32 : decode cX1_fractionsNeeded 32 = .ok (.iadd, 1) := by decide +kernel
theorem dX1_fractionsNeeded_33 : decode cX1_fractionsNeeded 33 = .ok (.istore_n 1, 1) := by decide +kernel
theorem dX1_fractionsNeeded_34 : decode cX1_fractionsNeeded 34 = .ok (.iinc 2 1, 3) := by decide +kernel
theorem dX1_fractionsNeeded_37 : decode cX1_fractionsNeeded 37 = .ok (.goto (-28), 3) := by decide +kernel
theorem dX1_fractionsNeeded_40 : decode cX1_fractionsNeeded 40 = .ok (.iload_n 1, 1) := by decide +kernel
theorem dX1_fractionsNeeded_41 : decode cX1_fractionsNeeded 41 = .ok (.ireturn, 1) := by decide +kernel
theorem dX2_init_0 : decode cX2_init 0 = .ok (.aload_n 0, 1) := by decide +kernel
theorem dX2_init_1 : decode cX2_init 1 = .ok (.invokespecial 1, 3) := by decide +kernel
theorem dX2_init_4 : decode cX2_init 4 = .ok (.aload_n 0, 1) := by decide +kernel
theorem dX2_init_5 : decode cX2_init 5 = .ok (.iconst 0, 1) := by decide +kernel
theorem dX2_init_6 : decode cX2_init 6 = .ok (.putfield 7, 3) := by decide +kernel
theorem dX2_init_9 : decode cX2_init 9 = .ok (.aload_n 0, 1) := by decide +kernel
theorem dX2_init_10 : decode cX2_init 10 = .ok (.iload_n 1, 1) := by decide +kernel
theorem dX2_init_11 : decode cX2_init 11 = .ok (.iconst 0, 1) := by decide +kernel
theorem dX2_init_12 : decode cX2_init 12 = .ok (.invokestatic 13, 3) := by decide +kernel
theorem dX2_init_15 : decode cX2_init 15 = .ok (.newarray .long, 2) := by decide +kernel
theorem dX2_init_17 : decode cX2_init 17 = .ok (.putfield 19, 3) := by decide +kernel
theorem dX2_init_20 : decode cX2_init 20 = .ok (.return_, 1) := by decide +kernel
theorem dX2_size_0 : decode cX2_size 0 = .ok (.aload_n 0, 1) := by decide +kernel
theorem dX2_size_1 : decode cX2_size 1 = .ok (.getfield 7, 3) := by decide +kernel
theorem dX2_size_4 : decode cX2_size 4 = .ok (.ireturn, 1) := by decide +kernel
theorem dX2_has_0 : decode cX2_has 0 = .ok (.iload_n 1, 1) := by decide +kernel
theorem dX2_has_1 : decode cX2_has 1 = .ok (.ifCond .lt 24, 3) := by decide +kernel
theorem dX2_has_4 : decode cX2_has 4 = .ok (.iload_n 1, 1) := by decide +kernel
theorem dX2_has_5 : decode cX2_has 5 = .ok (.aload_n 0, 1) := by decide +kernel
theorem dX2_has_6 : decode cX2_has 6 = .ok (.getfield 7, 3) := by decide +kernel
theorem dX2_has_9 : decode cX2_has 9 = .ok (.if_icmp .ge 16, 3) := by decide +kernel
theorem dX2_has_12 : decode cX2_has 12 = .ok (.iload_n 1, 1) := by decide +kernel
theorem dX2_has_13 : decode cX2_has 13 = .ok (.aload_n 0, 1) := by decide +kernel
theorem dX2_has_14 : decode cX2_has 14 = .ok (.getfield 19, 3) := by decide +kernel
theorem dX2_has_17 : decode cX2_has 17 = .ok (.arraylength, 1) := by decide +kernel
theorem dX2_has_18 : decode cX2_has 18 = .ok (.if_icmp .ge 7, 3) := by decide +kernel
theorem dX2_has_21 : decode cX2_has 21 = .ok (.iconst 1, 1) := by decide +kernel
theorem dX2_has_22 : decode cX2_has 22 = .ok (.goto 4, 3) := by decide +kernel
theorem dX2_has_25 : decode cX2_has 25 = .ok (.iconst 0, 1) := by decide +kernel
theorem dX2_has_26 : decode cX2_has 26 = .ok (.ireturn, 1) := by decide +kernel
set_option maxRecDepth 20000 in
theorem ggX2_at_X2_has : GoodIn wsX2_at wsX2_has := goodIn_r _ [6, 7, 1, 8, 9] (by decide +kernel) (by decide +kernel)
set_option maxRecDepth 20000 in
theorem gX2_at_X2_has : GoodIn wsX2_at (wsV RX2 23 RX2 yX2_has wsX2_has) := goodIn_app (goodIn_of _ (by decide +kernel)) ggX2_at_X2_has
theorem dX2_at_0 : decode cX2_at 0 = .ok (.aload_n 0, 1) := by decide +kernel
theorem dX2_at_1 : decode cX2_at 1 = .ok (.iload_n 1, 1) := by decide +kernel
theorem dX2_at_2 : decode cX2_at 2 = .ok (.invokevirtual 23, 3) := by decide +kernel
theorem dX2_at_5 : decode cX2_at 5 = .ok (.ifCond .eq 12, 3) := by decide +kernel
theorem dX2_at_8 : decode cX2_at 8 = .ok (.aload_n 0, 1) := by decide +kernel
theorem dX2_at_9 : decode cX2_at 9 = .ok (.getfield 19, 3) := by decide +kernel
theorem dX2_at_12 : decode cX2_at 12 = .ok (.iload_n 1, 1) := by decide +kernel
theorem dX2_at_13 : decode cX2_at 13 = .ok (.laload, 1) := by decide +kernel
theorem dX2_at_14 : decode cX2_at 14 = .ok (.goto 4, 3) := by decide +kernel
theorem dX2_at_17 : decode cX2_at 17 = .ok (.lconst 0, 1) := by decide +kernel
theorem dX2_at_18 : decode cX2_at 18 = .ok (.lreturn, 1) := by decide +kernel
set_option maxRecDepth 20000 in
theorem ggX2_put_X2_has : GoodIn wsX2_put wsX2_has := goodIn_r _ [6, 7, 1, 8, 9] (by decide +kernel) (by decide +kernel)
set_option maxRecDepth 20000 in
theorem gX2_put_X2_has : GoodIn wsX2_put (wsV RX2 23 RX2 yX2_has wsX2_has) := goodIn_app (goodIn_of _ (by decide +kernel)) ggX2_put_X2_has
theorem dX2_put_0 : decode cX2_put 0 = .ok (.aload_n 0, 1) := by decide +kernel
theorem dX2_put_1 : decode cX2_put 1 = .ok (.iload_n 1, 1) := by decide +kernel
theorem dX2_put_2 : decode cX2_put 2 = .ok (.invokevirtual 23, 3) := by decide +kernel
theorem dX2_put_5 : decode cX2_put 5 = .ok (.ifCond .eq 10, 3) := by decide +kernel
theorem dX2_put_8 : decode cX2_put 8 = .ok (.aload_n 0, 1) := by decide +kernel
theorem dX2_put_9 : decode cX2_put 9 = .ok (.getfield 19, 3) := by decide +kernel
theorem dX2_put_12 : decode cX2_put 12 = .ok (.iload_n 1, 1) := by decide +kernel
theorem dX2_put_13 : decode cX2_put 13 = .ok (.lload_n 2, 1) := by decide +kernel
theorem dX2_put_14 : decode cX2_put 14 = .ok (.lastore, 1) := by decide +kernel
theorem dX2_put_15 : decode cX2_put 15 = .ok (.return_, 1) := by decide +kernel
theorem dX2_empty_0 : decode cX2_empty 0 = .ok (.aload_n 0, 1) := by decide +kernel
theorem dX2_empty_1 : decode cX2_empty 1 = .ok (.iconst 0, 1) := by decide +kernel
theorem dX2_empty_2 : decode cX2_empty 2 = .ok (.putfield 7, 3) := by decide +kernel
theorem dX2_empty_5 : decode cX2_empty 5 = .ok (.return_, 1) := by decide +kernel
theorem dX2_add_0 : decode cX2_add 0 = .ok (.aload_n 0, 1) := by decide +kernel
theorem dX2_add_1 : decode cX2_add 1 = .ok (.getfield 7, 3) := by decide +kernel
theorem dX2_add_4 : decode cX2_add 4 = .ok (.ifCond .lt 15, 3) := by decide +kernel
theorem dX2_add_7 : decode cX2_add 7 = .ok (.aload_n 0, 1) := by decide +kernel
theorem dX2_add_8 : decode cX2_add 8 = .ok (.getfield 7, 3) := by decide +kernel
theorem dX2_add_11 : decode cX2_add 11 = .ok (.aload_n 0, 1) := by decide +kernel
theorem dX2_add_12 : decode cX2_add 12 = .ok (.getfield 19, 3) := by decide +kernel
theorem dX2_add_15 : decode cX2_add 15 = .ok (.arraylength, 1) := by decide +kernel
theorem dX2_add_16 : decode cX2_add 16 = .ok (.if_icmp .lt 5, 3) := by decide +kernel
theorem dX2_add_19 : decode cX2_add 19 = .ok (.iconst 0, 1) := by decide +kernel
theorem dX2_add_20 : decode cX2_add 20 = .ok (.ireturn, 1) := by decide +kernel
theorem dX2_add_21 : decode cX2_add 21 = .ok (.aload_n 0, 1) := by decide +kernel
theorem dX2_add_22 : decode cX2_add 22 = .ok (.getfield 19, 3) := by decide +kernel
theorem dX2_add_25 : decode cX2_add 25 = .ok (.aload_n 0, 1) := by decide +kernel
theorem dX2_add_26 : decode cX2_add 26 = .ok (.getfield 7, 3) := by decide +kernel
theorem dX2_add_29 : decode cX2_add 29 = .ok (.lload_n 1, 1) := by decide +kernel
theorem dX2_add_30 : decode cX2_add 30 = .ok (.lastore, 1) := by decide +kernel
theorem dX2_add_31 : decode cX2_add 31 = .ok (.aload_n 0, 1) := by decide +kernel
theorem dX2_add_32 : decode cX2_add 32 = .ok (.dup, 1) := by decide +kernel
theorem dX2_add_33 : decode cX2_add 33 = .ok (.getfield 7, 3) := by decide +kernel
theorem dX2_add_36 : decode cX2_add 36 = .ok (.iconst 1, 1) := by decide +kernel
theorem dX2_add_37 : decode cX2_add 37 = .ok (.iadd, 1) := by decide +kernel
theorem dX2_add_38 : decode cX2_add 38 = .ok (.putfield 7, 3) := by decide +kernel
theorem dX2_add_41 : decode cX2_add 41 = .ok (.iconst 1, 1) := by decide +kernel
theorem dX2_add_42 : decode cX2_add 42 = .ok (.ireturn, 1) := by decide +kernel
set_option maxRecDepth 20000 in
theorem ggX2_zeros_X2_add : GoodIn wsX2_zeros wsX2_add := goodIn_r _ [6, 1, 7, 8, 9] (by decide +kernel) (by decide +kernel)
set_option maxRecDepth 20000 in
theorem gX2_zeros_X2_add : GoodIn wsX2_zeros (wsV RX2 27 RX2 yX2_add wsX2_add) := goodIn_app (goodIn_of _ (by decide +kernel)) ggX2_zeros_X2_add
theorem dX2_zeros_0 : decode cX2_zeros 0 = .ok (.aload_n 0, 1) := by decide +kernel
theorem dX2_zeros_1 : decode cX2_zeros 1 = .ok (.iconst 0, 1) := by decide +kernel
theorem dX2_zeros_2 : decode cX2_zeros 2 = .ok (.putfield 7, 3) := by decide +kernel
theorem dX2_zeros_5 : decode cX2_zeros 5 = .ok (.iconst 0, 1) := by decide +kernel
theorem dX2_zeros_6 : decode cX2_zeros 6 = .ok (.istore_n 2, 1) := by decide +kernel
theorem dX2_zeros_7 : decode cX2_zeros 7 = .ok (.iload_n 2, 1) := by decide +kernel
theorem dX2_zeros_8 : decode cX2_zeros 8 = .ok (.iload_n 1, 1) := by decide +kernel
theorem dX2_zeros_9 : decode cX2_zeros 9 = .ok (.if_icmp .ge 15, 3) := by decide +kernel
theorem dX2_zeros_12 : decode cX2_zeros 12 = .ok (.aload_n 0, 1) := by decide +kernel
theorem dX2_zeros_13 : decode cX2_zeros 13 = .ok (.lconst 0, 1) := by decide +kernel
theorem dX2_zeros_14 : decode cX2_zeros 14 = .ok (.invokevirtual 27, 3) := by decide +kernel
theorem dX2_zeros_17 : decode cX2_zeros 17 = .ok (.pop, 1) := by decide +kernel
theorem dX2_zeros_18 : decode cX2_zeros 18 = .ok (.iinc 2 1, 3) := by decide +kernel
theorem dX2_zeros_21 : decode cX2_zeros 21 = .ok (.goto (-14), 3) := by decide +kernel
theorem dX2_zeros_24 : decode cX2_zeros 24 = .ok (.return_, 1) := by decide +kernel
set_option maxRecDepth 20000 in
theorem ggX2_become_X2_at : GoodIn wsX2_become wsX2_at := goodIn_r _ [6, 7, 8, 9, 10, 5, 11, 1, 16, 17] (by decide +kernel) (by decide +kernel)
set_option maxRecDepth 20000 in
theorem gX2_become_X2_at : GoodIn wsX2_become (wsV RX2 31 RX2 yX2_at wsX2_at) := goodIn_app (goodIn_of _ (by decide +kernel)) ggX2_become_X2_at
set_option maxRecDepth 20000 in
theorem ggX2_become_X2_add : GoodIn wsX2_become wsX2_add := goodIn_r _ [15, 1, 7, 16, 17] (by decide +kernel) (by decide +kernel)
set_option maxRecDepth 20000 in
theorem gX2_become_X2_add : GoodIn wsX2_become (wsV RX2 27 RX2 yX2_add wsX2_add) := goodIn_app (goodIn_of _ (by decide +kernel)) ggX2_become_X2_add
theorem dX2_become_0 : decode cX2_become 0 = .ok (.aload_n 0, 1) := by decide +kernel
theorem dX2_become_1 : decode cX2_become 1 = .ok (.iconst 0, 1) := by decide +kernel
theorem dX2_become_2 : decode cX2_become 2 = .ok (.putfield 7, 3) := by decide +kernel
theorem dX2_become_5 : decode cX2_become 5 = .ok (.iconst 0, 1) := by decide +kernel
theorem dX2_become_6 : decode cX2_become 6 = .ok (.istore_n 2, 1) := by decide +kernel
theorem dX2_become_7 : decode cX2_become 7 = .ok (.iload_n 2, 1) := by decide +kernel
theorem dX2_become_8 : decode cX2_become 8 = .ok (.aload_n 1, 1) := by decide +kernel
theorem dX2_become_9 : decode cX2_become 9 = .ok (.getfield 7, 3) := by decide +kernel
theorem dX2_become_12 : decode cX2_become 12 = .ok (.if_icmp .ge 19, 3) := by decide +kernel
theorem dX2_become_15 : decode cX2_become 15 = .ok (.aload_n 0, 1) := by decide +kernel
theorem dX2_become_16 : decode cX2_become 16 = .ok (.aload_n 1, 1) := by decide +kernel
theorem dX2_become_17 : decode cX2_become 17 = .ok (.iload_n 2, 1) := by decide +kernel
theorem dX2_become_18 : decode cX2_become 18 = .ok (.invokevirtual 31, 3) := by decide +kernel
theorem dX2_become_21 : decode cX2_become 21 = .ok (.invokevirtual 27, 3) := by decide +kernel
theorem dX2_become_24 : decode cX2_become 24 = .ok (.pop, 1) := by decide +kernel
theorem dX2_become_25 : decode cX2_become 25 = .ok (.iinc 2 1, 3) := by decide +kernel
theorem dX2_become_28 : decode cX2_become 28 = .ok (.goto (-21), 3) := by decide +kernel
theorem dX2_become_31 : decode cX2_become 31 = .ok (.return_, 1) := by decide +kernel
set_option maxRecDepth 20000 in
theorem ggX2_sortIn_X2_add : GoodIn wsX2_sortIn wsX2_add := goodIn_r _ [6, 1, 7, 20, 21] (by decide +kernel) (by decide +kernel)
set_option maxRecDepth 20000 in
theorem gX2_sortIn_X2_add : GoodIn wsX2_sortIn (wsV RX2 27 RX2 yX2_add wsX2_add) := goodIn_app (goodIn_of _ (by decide +kernel)) ggX2_sortIn_X2_add
set_option maxRecDepth 20000 in
theorem ggX2_sortIn_X2_at : GoodIn wsX2_sortIn wsX2_at := goodIn_r _ [11, 7, 12, 13, 14, 5, 15, 1, 20, 21] (by decide +kernel) (by decide +kernel)
set_option maxRecDepth 20000 in
theorem gX2_sortIn_X2_at : GoodIn wsX2_sortIn (wsV RX2 31 RX2 yX2_at wsX2_at) := goodIn_app (goodIn_of _ (by decide +kernel)) ggX2_sortIn_X2_at
set_option maxRecDepth 20000 in
theorem ggX2_sortIn_X2_put : GoodIn wsX2_sortIn wsX2_put := goodIn_r _ [19, 7, 12, 13, 14, 5, 15, 1, 20, 21] (by decide +kernel) (by decide +kernel)
set_option maxRecDepth 20000 in
theorem gX2_sortIn_X2_put : GoodIn wsX2_sortIn (wsV RX2 35 RX2 yX2_put wsX2_put) := goodIn_app (goodIn_of _ (by decide +kernel)) ggX2_sortIn_X2_put
theorem dX2_sortIn_0 : decode cX2_sortIn 0 = .ok (.aload_n 0, 1) := by decide +kernel
theorem dX2_sortIn_1 : decode cX2_sortIn 1 = .ok (.lload_n 1, 1) := by decide +kernel
theorem dX2_sortIn_2 : decode cX2_sortIn 2 = .ok (.invokevirtual 27, 3) := by decide +kernel
theorem dX2_sortIn_5 : decode cX2_sortIn 5 = .ok (.ifCond .ne 30, 3) := by decide +kernel
theorem dX2_sortIn_8 : decode cX2_sortIn 8 = .ok (.lload_n 1, 1) := by decide +kernel
theorem dX2_sortIn_9 : decode cX2_sortIn 9 = .ok (.aload_n 0, 1) := by decide +kernel
theorem dX2_sortIn_10 : decode cX2_sortIn 10 = .ok (.aload_n 0, 1) := by decide +kernel
theorem dX2_sortIn_11 : decode cX2_sortIn 11 = .ok (.getfield 7, 3) := by decide +kernel
theorem dX2_sortIn_14 : decode cX2_sortIn 14 = .ok (.iconst 1, 1) := by decide +kernel
theorem dX2_sortIn_15 : decode cX2_sortIn 15 = .ok (.isub, 1) := by decide +kernel
theorem dX2_sortIn_16 : decode cX2_sortIn 16 = .ok (.invokevirtual 31, 3) := by decide +kernel
theorem dX2_sortIn_19 : decode cX2_sortIn 19 = .ok (.lcmp, 1) := by decide +kernel
theorem dX2_sortIn_20 : decode cX2_sortIn 20 = .ok (.ifCond .lt 4, 3) := by decide +kernel
theorem dX2_sortIn_23 : decode cX2_sortIn 23 = .ok (.return_, 1) := by decide +kernel
theorem dX2_sortIn_24 : decode cX2_sortIn 24 = .ok (.aload_n 0, 1) := by decide +kernel
theorem dX2_sortIn_25 : decode cX2_sortIn 25 = .ok (.aload_n 0, 1) := by decide +kernel
theorem dX2_sortIn_26 : decode cX2_sortIn 26 = .ok (.getfield 7, 3) := by decide +kernel
theorem dX2_sortIn_29 : decode cX2_sortIn 29 = .ok (.iconst 1, 1) := by decide +kernel
theorem dX2_sortIn_30 : decode cX2_sortIn 30 = .ok (.isub, 1) := by decide +kernel
theorem dX2_sortIn_31 : decode cX2_sortIn 31 = .ok (.lload_n 1, 1) := by decide +kernel
theorem dX2_sortIn_32 : decode cX2_sortIn 32 = .ok (.invokevirtual 35, 3) := by decide +kernel
theorem dX2_sortIn_35 : decode cX2_sortIn 35 = .ok (.aload_n 0, 1) := by decide +kernel
theorem dX2_sortIn_36 : decode cX2_sortIn 36 = .ok (.getfield 7, 3) := by decide +kernel
theorem dX2_sortIn_39 : decode cX2_sortIn 39 = .ok (.iconst 1, 1) := by decide +kernel
theorem dX2_sortIn_40 : decode cX2_sortIn 40 = .ok (.isub, 1) := by decide +kernel
theorem dX2_sortIn_41 : decode cX2_sortIn 41 = .ok (.istore_n 3, 1) := by decide +kernel
theorem dX2_sortIn_42 : decode cX2_sortIn 42 = .ok (.iload_n 3, 1) := by decide +kernel
theorem dX2_sortIn_43 : decode cX2_sortIn 43 = .ok (.ifCond .le 41, 3) := by decide +kernel
theorem dX2_sortIn_46 : decode cX2_sortIn 46 = .ok (.aload_n 0, 1) := by decide +kernel
theorem dX2_sortIn_47 : decode cX2_sortIn 47 = .ok (.iload_n 3, 1) := by decide +kernel
theorem dX2_sortIn_48 : decode cX2_sortIn 48 = .ok (.iconst 1, 1) := by decide +kernel
theorem dX2_sortIn_49 : decode cX2_sortIn 49 = .ok (.isub, 1) := by decide +kernel
theorem dX2_sortIn_50 : decode cX2_sortIn 50 = .ok (.invokevirtual 31, 3) := by decide +kernel
theorem dX2_sortIn_53 : decode cX2_sortIn 53 = .ok (.lload_n 1, 1) := by decide +kernel
theorem dX2_sortIn_54 : decode cX2_sortIn 54 = .ok (.lcmp, 1) := by decide +kernel
theorem dX2_sortIn_55 : decode cX2_sortIn 55 = .ok (.ifCond .le 29, 3) := by decide +kernel
theorem dX2_sortIn_58 : decode cX2_sortIn 58 = .ok (.aload_n 0, 1) := by decide +kernel
theorem dX2_sortIn_59 : decode cX2_sortIn 59 = .ok (.iload_n 3, 1) := by decide +kernel
theorem dX2_sortIn_60 : decode cX2_sortIn 60 = .ok (.aload_n 0, 1) := by decide +kernel
theorem dX2_sortIn_61 : decode cX2_sortIn 61 = .ok (.iload_n 3, 1) := by decide +kernel
theorem dX2_sortIn_62 : decode cX2_sortIn 62 = .ok (.iconst 1, 1) := by decide +kernel
theorem dX2_sortIn_63 : decode cX2_sortIn 63 = .ok (.isub, 1) := by decide +kernel
theorem dX2_sortIn_64 : decode cX2_sortIn 64 = .ok (.invokevirtual 31, 3) := by decide +kernel
theorem dX2_sortIn_67 : decode cX2_sortIn 67 = .ok (.invokevirtual 35, 3) := by decide +kernel
theorem dX2_sortIn_70 : decode cX2_sortIn 70 = .ok (.aload_n 0, 1) := by decide +kernel
theorem dX2_sortIn_71 : decode cX2_sortIn 71 = .ok (.iload_n 3, 1) := by decide +kernel
theorem dX2_sortIn_72 : decode cX2_sortIn 72 = .ok (.iconst 1, 1) := by decide +kernel
theorem dX2_sortIn_73 : decode cX2_sortIn 73 = .ok (.isub, 1) := by decide +kernel
theorem dX2_sortIn_74 : decode cX2_sortIn 74 = .ok (.lload_n 1, 1) := by decide +kernel
theorem dX2_sortIn_75 : decode cX2_sortIn 75 = .ok (.invokevirtual 35, 3) := by decide +kernel
theorem dX2_sortIn_78 : decode cX2_sortIn 78 = .ok (.iinc 3 (-1), 3) := by decide +kernel
theorem dX2_sortIn_81 : decode cX2_sortIn 81 = .ok (.goto (-39), 3) := by decide +kernel
theorem dX2_sortIn_84 : decode cX2_sortIn 84 = .ok (.return_, 1) := by decide +kernel
theorem dX3_init_0 : decode cX3_init 0 = .ok (.aload_n 0, 1) := by decide +kernel
theorem dX3_init_1 : decode cX3_init 1 = .ok (.invokespecial 1, 3) := by decide +kernel
theorem dX3_init_4 : decode cX3_init 4 = .ok (.aload_n 0, 1) := by decide +kernel
theorem dX3_init_5 : decode cX3_init 5 = .ok (.bipush 24, 2) := by decide +kernel
theorem dX3_init_7 : decode cX3_init 7 = .ok (.newarray .long, 2) := by decide +kernel
theorem dX3_init_9 : decode cX3_init 9 = .ok (.putfield 9, 3) := by decide +kernel
theorem dX3_init_12 : decode cX3_init 12 = .ok (.return_, 1) := by decide +kernel
theorem dX3_begin_0 : decode cX3_begin 0 = .ok (.iconst 0, 1) := by decide +kernel
theorem dX3_begin_1 : decode cX3_begin 1 = .ok (.istore_n 1, 1) := by decide +kernel
theorem dX3_begin_2 : decode cX3_begin 2 = .ok (.iload_n 1, 1) := by decide +kernel
theorem dX3_begin_3 : decode cX3_begin 3 = .ok (.bipush 24, 2) := by decide +kernel
theorem dX3_begin_5 : decode cX3_begin 5 = .ok (.if_icmp .ge 24, 3) := by decide +kernel
theorem dX3_begin_8 : decode cX3_begin 8 = .ok (.aload_n 0, 1) := by decide +kernel
theorem dX3_begin_9 : decode cX3_begin 9 = .ok (.getfield 9, 3) := by decide +kernel
theorem dX3_begin_12 : decode cX3_begin 12 = .ok (.iload_n 1, 1) := by decide +kernel
theorem dX3_begin_13 : decode cX3_begin 13 = .ok (.iload_n 1, 1) := by decide +kernel
theorem dX3_begin_14 : decode cX3_begin 14 = .ok (.ifCond .ne 7, 3) := by decide +kernel
theorem dX3_begin_17 : decode cX3_begin 17 = .ok (.lconst 1, 1) := by decide +kernel
theorem dX3_begin_18 : decode cX3_begin 18 = .ok (.goto 4, 3) := by decide +kernel
theorem dX3_begin_21 : decode cX3_begin 21 = .ok (.lconst 0, 1) := by decide +kernel
theorem dX3_begin_22 : decode cX3_begin 22 = .ok (.lastore, 1) := by decide +kernel
theorem dX3_begin_23 : decode cX3_begin 23 = .ok (.iinc 1 1, 3) := by decide +kernel
theorem dX3_begin_26 : decode cX3_begin 26 = .ok (.goto (-24), 3) := by decide +kernel
theorem dX3_begin_29 : decode cX3_begin 29 = .ok (.return_, 1) := by decide +kernel
theorem dX3_multiply_0 : decode cX3_multiply 0 = .ok (.lconst 0, 1) := by decide +kernel
theorem dX3_multiply_1 : decode cX3_multiply 1 = .ok (.lstore_n 3, 1) := by decide +kernel
theorem dX3_multiply_2 : decode cX3_multiply 2 = .ok (.iconst 0, 1) := by decide +kernel
theorem dX3_multiply_3 : decode cX3_multiply 3 = .ok (.istore 5, 2) := by decide +kernel
theorem dX3_multiply_5 : decode cX3_multiply 5 = .ok (.iload 5, 2) := by decide +kernel
theorem dX3_multiply_7 : decode cX3_multiply 7 = .ok (.bipush 24, 2) := by decide +kernel
theorem dX3_multiply_9 : decode cX3_multiply 9 = .ok (.if_icmp .ge 42, 3) := by decide +kernel
theorem dX3_multiply_12 : decode cX3_multiply 12 = .ok (.aload_n 0, 1) := by decide +kernel
theorem dX3_multiply_13 : decode cX3_multiply 13 = .ok (.getfield 9, 3) := by decide +kernel
theorem dX3_multiply_16 : decode cX3_multiply 16 = .ok (.iload 5, 2) := by decide +kernel
theorem dX3_multiply_18 : decode cX3_multiply 18 = .ok (.laload, 1) := by decide +kernel
theorem dX3_multiply_19 : decode cX3_multiply 19 = .ok (.lload_n 1, 1) := by decide +kernel
theorem dX3_multiply_20 : decode cX3_multiply 20 = .ok (.lmul, 1) := by decide +kernel
theorem dX3_multiply_21 : decode cX3_multiply 21 = .ok (.lload_n 3, 1) := by decide +kernel
theorem dX3_multiply_22 : decode cX3_multiply 22 = .ok (.ladd, 1) := by decide +kernel
theorem dX3_multiply_23 : decode cX3_multiply 23 = .ok (.lstore 6, 2) := by decide +kernel
theorem dX3_multiply_25 : decode cX3_multiply 25 = .ok (.aload_n 0, 1) := by decide +kernel
theorem dX3_multiply_26 : decode cX3_multiply 26 = .ok (.getfield 9, 3) := by decide +kernel
theorem dX3_multiply_29 : decode cX3_multiply 29 = .ok (.iload 5, 2) := by decide +kernel
theorem dX3_multiply_31 : decode cX3_multiply 31 = .ok (.lload 6, 2) := by decide +kernel
theorem dX3_multiply_33 : decode cX3_multiply 33 = .ok (.ldc2_w 13, 3) := by decide +kernel
theorem dX3_multiply_36 : decode cX3_multiply 36 = .ok (.lrem, 1) := by decide +kernel
theorem dX3_multiply_37 : decode cX3_multiply 37 = .ok (.lastore, 1) := by decide +kernel
theorem dX3_multiply_38 : decode cX3_multiply 38 = .ok (.lload 6, 2) := by decide +kernel
theorem dX3_multiply_40 : decode cX3_multiply 40 = .ok (.ldc2_w 13, 3) := by decide +kernel
theorem dX3_multiply_43 : decode cX3_multiply 43 = .ok (.ldiv, 1) := by decide +kernel
theorem dX3_multiply_44 : decode cX3_multiply 44 = .ok (.lstore_n 3, 1) := by decide +kernel
theorem dX3_multiply_45 : decode cX3_multiply 45 = .ok (.iinc 5 1, 3) := by decide +kernel
theorem dX3_multiply_48 : decode cX3_multiply 48 = .ok (.goto (-43), 3) := by decide +kernel
theorem dX3_multiply_51 : decode cX3_multiply 51 = .ok (.return_, 1) := by decide +kernel
theorem dX3_against_0 : decode cX3_against 0 = .ok (.bipush 23, 2) := by decide +kernel
theorem dX3_against_2 : decode cX3_against 2 = .ok (.istore_n 2, 1) := by decide +kernel
theorem dX3_against_3 : decode cX3_against 3 = .ok (.iload_n 2, 1) := by decide +kernel
theorem dX3_against_4 : decode cX3_against 4 = .ok (.ifCond .lt 47, 3) := by decide +kernel
theorem dX3_against_7 : decode cX3_against 7 = .ok (.aload_n 0, 1) := by decide +kernel
theorem dX3_against_8 : decode cX3_against 8 = .ok (.getfield 9, 3) := by decide +kernel
theorem dX3_against_11 : decode cX3_against 11 = .ok (.iload_n 2, 1) := by decide +kernel
theorem dX3_against_12 : decode cX3_against 12 = .ok (.laload, 1) := by decide +kernel
theorem dX3_against_13 : decode cX3_against 13 = .ok (.aload_n 1, 1) := by decide +kernel
theorem dX3_against_14 : decode cX3_against 14 = .ok (.getfield 9, 3) := by decide +kernel
theorem dX3_against_17 : decode cX3_against 17 = .ok (.iload_n 2, 1) := by decide +kernel
theorem dX3_against_18 : decode cX3_against 18 = .ok (.laload, 1) := by decide +kernel
theorem dX3_against_19 : decode cX3_against 19 = .ok (.lcmp, 1) := by decide +kernel
theorem dX3_against_20 : decode cX3_against 20 = .ok (.ifCond .eq 25, 3) := by decide +kernel
theorem dX3_against_23 : decode cX3_against 23 = .ok (.aload_n 0, 1) := by decide +kernel
theorem dX3_against_24 : decode cX3_against 24 = .ok (.getfield 9, 3) := by decide +kernel
theorem dX3_against_27 : decode cX3_against 27 = .ok (.iload_n 2, 1) := by decide +kernel
theorem dX3_against_28 : decode cX3_against 28 = .ok (.laload, 1) := by decide +kernel
theorem dX3_against_29 : decode cX3_against 29 = .ok (.aload_n 1, 1) := by decide +kernel
theorem dX3_against_30 : decode cX3_against 30 = .ok (.getfield 9, 3) := by decide +kernel
theorem dX3_against_33 : decode cX3_against 33 = .ok (.iload_n 2, 1) := by decide +kernel
theorem dX3_against_34 : decode cX3_against 34 = .ok (.laload, 1) := by decide +kernel
theorem dX3_against_35 : decode cX3_against 35 = .ok (.lcmp, 1) := by decide +kernel
theorem dX3_against_36 : decode cX3_against 36 = .ok (.ifCond .le 7, 3) := by decide +kernel
theorem dX3_against_39 : decode cX3_against 39 = .ok (.iconst 1, 1) := by decide +kernel
theorem dX3_against_40 : decode cX3_against 40 = .ok (.goto 4, 3) := by decide +kernel
theorem dX3_against_43 : decode cX3_against 43 = .ok (.iconst (-1), 1) := by decide +kernel
theorem dX3_against_44 : decode cX3_against 44 = .ok (.ireturn, 1) := by decide +kernel
theorem dX3_against_45 : decode cX3_against 45 = .ok (.iinc 2 (-1), 3) := by decide +kernel
theorem dX3_against_48 : decode cX3_against 48 = .ok (.goto (-45), 3) := by decide +kernel
theorem dX3_against_51 : decode cX3_against 51 = .ok (.iconst 0, 1) := by decide +kernel
theorem dX3_against_52 : decode cX3_against 52 = .ok (.ireturn, 1) := by decide +kernel
theorem dX4_init_0 : decode cX4_init 0 = .ok (.aload_n 0, 1) := by decide +kernel
theorem dX4_init_1 : decode cX4_init 1 = .ok (.invokespecial 3, 3) := by decide +kernel
theorem dX4_init_4 : decode cX4_init 4 = .ok (.aload_n 0, 1) := by decide +kernel
theorem dX4_init_5 : decode cX4_init 5 = .ok (.bipush 41, 2) := by decide +kernel
theorem dX4_init_7 : decode cX4_init 7 = .ok (.newarray .long, 2) := by decide +kernel
theorem dX4_init_9 : decode cX4_init 9 = .ok (.putfield 9, 3) := by decide +kernel
theorem dX4_init_12 : decode cX4_init 12 = .ok (.aload_n 0, 1) := by decide +kernel
theorem dX4_init_13 : decode cX4_init 13 = .ok (.bipush 41, 2) := by decide +kernel
theorem dX4_init_15 : decode cX4_init 15 = .ok (.newarray .long, 2) := by decide +kernel
theorem dX4_init_17 : decode cX4_init 17 = .ok (.putfield 15, 3) := by decide +kernel
theorem dX4_init_20 : decode cX4_init 20 = .ok (.aload_n 0, 1) := by decide +kernel
theorem dX4_init_21 : decode cX4_init 21 = .ok (.bipush 41, 2) := by decide +kernel
theorem dX4_init_23 : decode cX4_init 23 = .ok (.newarray .long, 2) := by decide +kernel
theorem dX4_init_25 : decode cX4_init 25 = .ok (.putfield 18, 3) := by decide +kernel
theorem dX4_init_28 : decode cX4_init 28 = .ok (.aload_n 0, 1) := by decide +kernel
theorem dX4_init_29 : decode cX4_init 29 = .ok (.getfield 9, 3) := by decide +kernel
theorem dX4_init_32 : decode cX4_init 32 = .ok (.iconst 0, 1) := by decide +kernel
theorem dX4_init_33 : decode cX4_init 33 = .ok (.lconst 1, 1) := by decide +kernel
theorem dX4_init_34 : decode cX4_init 34 = .ok (.lastore, 1) := by decide +kernel
theorem dX4_init_35 : decode cX4_init 35 = .ok (.aload_n 0, 1) := by decide +kernel
theorem dX4_init_36 : decode cX4_init 36 = .ok (.getfield 18, 3) := by decide +kernel
theorem dX4_init_39 : decode cX4_init 39 = .ok (.iconst 0, 1) := by decide +kernel
theorem dX4_init_40 : decode cX4_init 40 = .ok (.lconst 1, 1) := by decide +kernel
theorem dX4_init_41 : decode cX4_init 41 = .ok (.lastore, 1) := by decide +kernel
theorem dX4_init_42 : decode cX4_init 42 = .ok (.return_, 1) := by decide +kernel
theorem dX4_has_0 : decode cX4_has 0 = .ok (.iload_n 0, 1) := by decide +kernel
theorem dX4_has_1 : decode cX4_has 1 = .ok (.ifCond .lt 13, 3) := by decide +kernel
theorem dX4_has_4 : decode cX4_has 4 = .ok (.iload_n 0, 1) := by decide +kernel
theorem dX4_has_5 : decode cX4_has 5 = .ok (.bipush 40, 2) := by decide +kernel
theorem dX4_has_7 : decode cX4_has 7 = .ok (.if_icmp .gt 7, 3) := by decide +kernel
theorem dX4_has_10 : decode cX4_has 10 = .ok (.iconst 1, 1) := by decide +kernel
theorem dX4_has_11 : decode cX4_has 11 = .ok (.goto 4, 3) := by decide +kernel
theorem dX4_has_14 : decode cX4_has 14 = .ok (.iconst 0, 1) := by decide +kernel
theorem dX4_has_15 : decode cX4_has 15 = .ok (.ireturn, 1) := by decide +kernel
set_option maxRecDepth 20000 in
theorem ggX4_factor_X4_has : GoodIn wsX4_factor wsX4_has := goodIn_r _ [5] (by decide +kernel) (by decide +kernel)
set_option maxRecDepth 20000 in
theorem gX4_factor_X4_has : GoodIn wsX4_factor (va_wsS RX4 21 yX4_has wsX4_has) := goodIn_app (goodIn_of _ (by decide +kernel)) ggX4_factor_X4_has
theorem dX4_factor_0 : decode cX4_factor 0 = .ok (.iload_n 1, 1) := by decide +kernel
theorem dX4_factor_1 : decode cX4_factor 1 = .ok (.invokestatic 21, 3) := by decide +kernel
theorem dX4_factor_4 : decode cX4_factor 4 = .ok (.ifCond .eq 12, 3) := by decide +kernel
theorem dX4_factor_7 : decode cX4_factor 7 = .ok (.aload_n 0, 1) := by decide +kernel
theorem dX4_factor_8 : decode cX4_factor 8 = .ok (.getfield 9, 3) := by decide +kernel
theorem dX4_factor_11 : decode cX4_factor 11 = .ok (.iload_n 1, 1) := by decide +kernel
theorem dX4_factor_12 : decode cX4_factor 12 = .ok (.laload, 1) := by decide +kernel
theorem dX4_factor_13 : decode cX4_factor 13 = .ok (.goto 4, 3) := by decide +kernel
theorem dX4_factor_16 : decode cX4_factor 16 = .ok (.lconst 0, 1) := by decide +kernel
theorem dX4_factor_17 : decode cX4_factor 17 = .ok (.lreturn, 1) := by decide +kernel
set_option maxRecDepth 20000 in
theorem ggX4_addend_X4_has : GoodIn wsX4_addend wsX4_has := goodIn_r _ [5] (by decide +kernel) (by decide +kernel)
set_option maxRecDepth 20000 in
theorem gX4_addend_X4_has : GoodIn wsX4_addend (va_wsS RX4 21 yX4_has wsX4_has) := goodIn_app (goodIn_of _ (by decide +kernel)) ggX4_addend_X4_has
theorem dX4_addend_0 : decode cX4_addend 0 = .ok (.iload_n 1, 1) := by decide +kernel
theorem dX4_addend_1 : decode cX4_addend 1 = .ok (.invokestatic 21, 3) := by decide +kernel
theorem dX4_addend_4 : decode cX4_addend 4 = .ok (.ifCond .eq 12, 3) := by decide +kernel
theorem dX4_addend_7 : decode cX4_addend 7 = .ok (.aload_n 0, 1) := by decide +kernel
theorem dX4_addend_8 : decode cX4_addend 8 = .ok (.getfield 15, 3) := by decide +kernel
theorem dX4_addend_11 : decode cX4_addend 11 = .ok (.iload_n 1, 1) := by decide +kernel
theorem dX4_addend_12 : decode cX4_addend 12 = .ok (.laload, 1) := by decide +kernel
theorem dX4_addend_13 : decode cX4_addend 13 = .ok (.goto 4, 3) := by decide +kernel
theorem dX4_addend_16 : decode cX4_addend 16 = .ok (.lconst 0, 1) := by decide +kernel
theorem dX4_addend_17 : decode cX4_addend 17 = .ok (.lreturn, 1) := by decide +kernel
set_option maxRecDepth 20000 in
theorem ggX4_divisor_X4_has : GoodIn wsX4_divisor wsX4_has := goodIn_r _ [5] (by decide +kernel) (by decide +kernel)
set_option maxRecDepth 20000 in
theorem gX4_divisor_X4_has : GoodIn wsX4_divisor (va_wsS RX4 21 yX4_has wsX4_has) := goodIn_app (goodIn_of _ (by decide +kernel)) ggX4_divisor_X4_has
theorem dX4_divisor_0 : decode cX4_divisor 0 = .ok (.iload_n 1, 1) := by decide +kernel
theorem dX4_divisor_1 : decode cX4_divisor 1 = .ok (.invokestatic 21, 3) := by decide +kernel
theorem dX4_divisor_4 : decode cX4_divisor 4 = .ok (.ifCond .eq 12, 3) := by decide +kernel
theorem dX4_divisor_7 : decode cX4_divisor 7 = .ok (.aload_n 0, 1) := by decide +kernel
theorem dX4_divisor_8 : decode cX4_divisor 8 = .ok (.getfield 18, 3) := by decide +kernel
theorem dX4_divisor_11 : decode cX4_divisor 11 = .ok (.iload_n 1, 1) := by decide +kernel
theorem dX4_divisor_12 : decode cX4_divisor 12 = .ok (.laload, 1) := by decide +kernel
theorem dX4_divisor_13 : decode cX4_divisor 13 = .ok (.goto 4, 3) := by decide +kernel
theorem dX4_divisor_16 : decode cX4_divisor 16 = .ok (.lconst 1, 1) := by decide +kernel
theorem dX4_divisor_17 : decode cX4_divisor 17 = .ok (.lreturn, 1) := by decide +kernel
set_option maxRecDepth 20000 in
theorem ggX4_extend_X4_has : GoodIn wsX4_extend wsX4_has := goodIn_r _ [7] (by decide +kernel) (by decide +kernel)
set_option maxRecDepth 20000 in
theorem gX4_extend_X4_has : GoodIn wsX4_extend (va_wsS RX4 21 yX4_has wsX4_has) := goodIn_app (goodIn_of _ (by decide +kernel)) ggX4_extend_X4_has
set_option maxRecDepth 20000 in
theorem ggX4_extend_X5_a : GoodIn wsX4_extend wsX5_a := goodIn_r _ [12, 13, 14, 15, 16, 11, 17, 18, 51, 52, 53, 54] (by decide +kernel) (by decide +kernel)
set_option maxRecDepth 20000 in
theorem gX4_extend_X5_a : GoodIn wsX4_extend (wsV RX4 25 RX5 yX5_a wsX5_a) := goodIn_app (goodIn_of _ (by decide +kernel)) ggX4_extend_X5_a
set_option maxRecDepth 20000 in
theorem ggX4_extend_X5_b : GoodIn wsX4_extend wsX5_b := goodIn_r _ [22, 23, 14, 15, 16, 11, 17, 18, 51, 52, 53, 54] (by decide +kernel) (by decide +kernel)
set_option maxRecDepth 20000 in
theorem gX4_extend_X5_b : GoodIn wsX4_extend (wsV RX4 31 RX5 yX5_b wsX5_b) := goodIn_app (goodIn_of _ (by decide +kernel)) ggX4_extend_X5_b
set_option maxRecDepth 20000 in
theorem ggX4_extend_X5_d : GoodIn wsX4_extend wsX5_d := goodIn_r _ [27, 28, 14, 15, 16, 11, 17, 18, 51, 52, 53, 54] (by decide +kernel) (by decide +kernel)
set_option maxRecDepth 20000 in
theorem gX4_extend_X5_d : GoodIn wsX4_extend (wsV RX4 34 RX5 yX5_d wsX5_d) := goodIn_app (goodIn_of _ (by decide +kernel)) ggX4_extend_X5_d
set_option maxRecDepth 20000 in
theorem ggX4_extend_X4_fits : GoodIn wsX4_extend wsX4_fits := goodIn_r _ [32, 1, 2, 3, 4, 5, 6, 7, 33, 34, 35, 36, 37, 48, 49, 50] (by decide +kernel) (by decide +kernel)
set_option maxRecDepth 20000 in
theorem gX4_extend_X4_fits : GoodIn wsX4_extend (wsV RX4 37 RX4 yX4_fits wsX4_fits) := goodIn_app (goodIn_of _ (by decide +kernel)) ggX4_extend_X4_fits
set_option maxRecDepth 20000 in
theorem ggX4_extend_X4_reduce : GoodIn wsX4_extend wsX4_reduce := goodIn_ca (goodIn_r _ [41, 1, 3, 2, 4, 5, 6, 7, 42, 34, 43, 44, 45, 46, 47, 48, 49, 50] (by decide +kernel) (by decide +kernel)) (goodIn_sub (fun _ h => List.mem_cons_of_mem _ (List.mem_append_right _ h)) (by decide +kernel))
set_option maxRecDepth 20000 in
theorem gX4_extend_X4_reduce : GoodIn wsX4_extend (wsV RX4 40 RX4 yX4_reduce wsX4_reduce) := goodIn_app (goodIn_of _ (by decide +kernel)) ggX4_extend_X4_reduce
theorem dX4_extend_0 : decode cX4_extend 0 = .ok (.iload_n 1, 1) := by decide +kernel
theorem dX4_extend_1 : decode cX4_extend 1 = .ok (.invokestatic 21, 3) := by decide +kernel
theorem dX4_extend_4 : decode cX4_extend 4 = .ok (.ifCond .eq 12, 3) := by decide +kernel
theorem dX4_extend_7 : decode cX4_extend 7 = .ok (.iload_n 1, 1) := by decide +kernel
theorem dX4_extend_8 : decode cX4_extend 8 = .ok (.iconst 1, 1) := by decide +kernel
theorem dX4_extend_9 : decode cX4_extend 9 = .ok (.iadd, 1) := by decide +kernel
theorem dX4_extend_10 : decode cX4_extend 10 = .ok (.invokestatic 21, 3) := by decide +kernel
theorem dX4_extend_13 : decode cX4_extend 13 = .ok (.ifCond .ne 5, 3) := by decide +kernel
theorem dX4_extend_16 : decode cX4_extend 16 = .ok (.iconst 0, 1) := by decide +kernel
theorem dX4_extend_17 : decode cX4_extend 17 = .ok (.ireturn, 1) := by decide +kernel
theorem dX4_extend_18 : decode cX4_extend 18 = .ok (.aload_n 0, 1) := by decide +kernel
theorem dX4_extend_19 : decode cX4_extend 19 = .ok (.getfield 9, 3) := by decide +kernel
theorem dX4_extend_22 : decode cX4_extend 22 = .ok (.iload_n 1, 1) := by decide +kernel
theorem dX4_extend_23 : decode cX4_extend 23 = .ok (.iconst 1, 1) := by decide +kernel
theorem dX4_extend_24 : decode cX4_extend 24 = .ok (.iadd, 1) := by decide +kernel
theorem dX4_extend_25 : decode cX4_extend 25 = .ok (.aload_n 2, 1) := by decide +kernel
theorem dX4_extend_26 : decode cX4_extend 26 = .ok (.iload_n 3, 1) := by decide +kernel
theorem dX4_extend_27 : decode cX4_extend 27 = .ok (.invokevirtual 25, 3) := by decide +kernel
theorem dX4_extend_30 : decode cX4_extend 30 = .ok (.aload_n 0, 1) := by decide +kernel
theorem dX4_extend_31 : decode cX4_extend 31 = .ok (.getfield 9, 3) := by decide +kernel
theorem dX4_extend_34 : decode cX4_extend 34 = .ok (.iload_n 1, 1) := by decide +kernel
theorem dX4_extend_35 : decode cX4_extend 35 = .ok (.laload, 1) := by decide +kernel
theorem dX4_extend_36 : decode cX4_extend 36 = .ok (.lmul, 1) := by decide +kernel
theorem dX4_extend_37 : decode cX4_extend 37 = .ok (.lastore, 1) := by decide +kernel
theorem dX4_extend_38 : decode cX4_extend 38 = .ok (.aload_n 0, 1) := by decide +kernel
theorem dX4_extend_39 : decode cX4_extend 39 = .ok (.getfield 15, 3) := by decide +kernel
theorem dX4_extend_42 : decode cX4_extend 42 = .ok (.iload_n 1, 1) := by decide +kernel
theorem dX4_extend_43 : decode cX4_extend 43 = .ok (.iconst 1, 1) := by decide +kernel
theorem dX4_extend_44 : decode cX4_extend 44 = .ok (.iadd, 1) := by decide +kernel
theorem dX4_extend_45 : decode cX4_extend 45 = .ok (.aload_n 2, 1) := by decide +kernel
theorem dX4_extend_46 : decode cX4_extend 46 = .ok (.iload_n 3, 1) := by decide +kernel
theorem dX4_extend_47 : decode cX4_extend 47 = .ok (.invokevirtual 25, 3) := by decide +kernel
theorem dX4_extend_50 : decode cX4_extend 50 = .ok (.aload_n 0, 1) := by decide +kernel
theorem dX4_extend_51 : decode cX4_extend 51 = .ok (.getfield 15, 3) := by decide +kernel
theorem dX4_extend_54 : decode cX4_extend 54 = .ok (.iload_n 1, 1) := by decide +kernel
theorem dX4_extend_55 : decode cX4_extend 55 = .ok (.laload, 1) := by decide +kernel
theorem dX4_extend_56 : decode cX4_extend 56 = .ok (.lmul, 1) := by decide +kernel
theorem dX4_extend_57 : decode cX4_extend 57 = .ok (.aload_n 2, 1) := by decide +kernel
theorem dX4_extend_58 : decode cX4_extend 58 = .ok (.iload_n 3, 1) := by decide +kernel
theorem dX4_extend_59 : decode cX4_extend 59 = .ok (.invokevirtual 31, 3) := by decide +kernel
theorem dX4_extend_62 : decode cX4_extend 62 = .ok (.aload_n 0, 1) := by decide +kernel
theorem dX4_extend_63 : decode cX4_extend 63 = .ok (.getfield 18, 3) := by decide +kernel
theorem dX4_extend_66 : decode cX4_extend 66 = .ok (.iload_n 1, 1) := by decide +kernel
theorem dX4_extend_67 : decode cX4_extend 67 = .ok (.laload, 1) := by decide +kernel
theorem dX4_extend_68 : decode cX4_extend 68 = .ok (.lmul, 1) := by decide +kernel
theorem dX4_extend_69 : decode cX4_extend 69 = .ok (.ladd, 1) := by decide +kernel
theorem dX4_extend_70 : decode cX4_extend 70 = .ok (.lastore, 1) := by decide +kernel
theorem dX4_extend_71 : decode cX4_extend 71 = .ok (.aload_n 0, 1) := by decide +kernel
theorem dX4_extend_72 : decode cX4_extend 72 = .ok (.getfield 18, 3) := by decide +kernel
theorem dX4_extend_75 : decode cX4_extend 75 = .ok (.iload_n 1, 1) := by decide +kernel
theorem dX4_extend_76 : decode cX4_extend 76 = .ok (.iconst 1, 1) := by decide +kernel
theorem dX4_extend_77 : decode cX4_extend 77 = .ok (.iadd, 1) := by decide +kernel
theorem dX4_extend_78 : decode cX4_extend 78 = .ok (.aload_n 2, 1) := by decide +kernel
theorem dX4_extend_79 : decode cX4_extend 79 = .ok (.iload_n 3, 1) := by decide +kernel
theorem dX4_extend_80 : decode cX4_extend 80 = .ok (.invokevirtual 34, 3) := by decide +kernel
theorem dX4_extend_83 : decode cX4_extend 83 = .ok (.aload_n 0, 1) := by decide +kernel
theorem dX4_extend_84 : decode cX4_extend 84 = .ok (.getfield 18, 3) := by decide +kernel
theorem dX4_extend_87 : decode cX4_extend 87 = .ok (.iload_n 1, 1) := by decide +kernel
theorem dX4_extend_88 : decode cX4_extend 88 = .ok (.laload, 1) := by decide +kernel
theorem dX4_extend_89 : decode cX4_extend 89 = .ok (.lmul, 1) := by decide +kernel
theorem dX4_extend_90 : decode cX4_extend 90 = .ok (.lastore, 1) := by decide +kernel
theorem dX4_extend_91 : decode cX4_extend 91 = .ok (.aload_n 0, 1) := by decide +kernel
theorem dX4_extend_92 : decode cX4_extend 92 = .ok (.iload_n 1, 1) := by decide +kernel
theorem dX4_extend_93 : decode cX4_extend 93 = .ok (.iconst 1, 1) := by decide +kernel
theorem dX4_extend_94 : decode cX4_extend 94 = .ok (.iadd, 1) := by decide +kernel
theorem dX4_extend_95 : decode cX4_extend 95 = .ok (.invokevirtual 37, 3) := by decide +kernel
theorem dX4_extend_98 : decode cX4_extend 98 = .ok (.ifCond .eq 5, 3) := by decide +kernel
theorem dX4_extend_101 : decode cX4_extend 101 = .ok (.iconst 1, 1) := by decide +kernel
theorem dX4_extend_102 : decode cX4_extend 102 = .ok (.ireturn, 1) := by decide +kernel
theorem dX4_extend_103 : decode cX4_extend 103 = .ok (.aload_n 0, 1) := by decide +kernel
theorem dX4_extend_104 : decode cX4_extend 104 = .ok (.iload_n 1, 1) := by decide +kernel
theorem dX4_extend_105 : decode cX4_extend 105 = .ok (.iconst 1, 1) := by decide +kernel
theorem dX4_extend_106 : decode cX4_extend 106 = .ok (.iadd, 1) := by decide +kernel
theorem dX4_extend_107 : decode cX4_extend 107 = .ok (.invokevirtual 40, 3) := by decide +kernel
theorem dX4_extend_110 : decode cX4_extend 110 = .ok (.aload_n 0, 1) := by decide +kernel
theorem dX4_extend_111 : decode cX4_extend 111 = .ok (.iload_n 1, 1) := by decide +kernel
theorem dX4_extend_112 : decode cX4_extend 112 = .ok (.iconst 1, 1) := by decide +kernel
theorem dX4_extend_113 : decode cX4_extend 113 = .ok (.iadd, 1) := by decide +kernel
theorem dX4_extend_114 : decode cX4_extend 114 = .ok (.invokevirtual 37, 3) := by decide +kernel
theorem dX4_extend_117 : decode cX4_extend 117 = .ok (.ireturn, 1) := by decide +kernel
set_option maxRecDepth 20000 in
theorem ggX4_fits_X4_has : GoodIn wsX4_fits wsX4_has := goodIn_r _ [7] (by decide +kernel) (by decide +kernel)
set_option maxRecDepth 20000 in
theorem gX4_fits_X4_has : GoodIn wsX4_fits (va_wsS RX4 21 yX4_has wsX4_has) := goodIn_app (goodIn_of _ (by decide +kernel)) ggX4_fits_X4_has
set_option maxRecDepth 20000 in
theorem ggX4_fits_X7_isNumber : GoodIn wsX4_fits wsX7_isNumber := goodIn_r _ [10, 11, 12] (by decide +kernel) (by decide +kernel)
set_option maxRecDepth 20000 in
theorem gX4_fits_X7_isNumber_n44 : GoodIn wsX4_fits (wsX7_isNumber) := ggX4_fits_X7_isNumber
theorem dX4_fits_0 : decode cX4_fits 0 = .ok (.iload_n 1, 1) := by decide +kernel
theorem dX4_fits_1 : decode cX4_fits 1 = .ok (.invokestatic 21, 3) := by decide +kernel
theorem dX4_fits_4 : decode cX4_fits 4 = .ok (.ifCond .eq 43, 3) := by decide +kernel
theorem dX4_fits_7 : decode cX4_fits 7 = .ok (.aload_n 0, 1) := by decide +kernel
theorem dX4_fits_8 : decode cX4_fits 8 = .ok (.getfield 9, 3) := by decide +kernel
theorem dX4_fits_11 : decode cX4_fits 11 = .ok (.iload_n 1, 1) := by decide +kernel
theorem dX4_fits_12 : decode cX4_fits 12 = .ok (.laload, 1) := by decide +kernel
theorem dX4_fits_13 : decode cX4_fits 13 = .ok (.invokestatic 44, 3) := by decide +kernel
theorem dX4_fits_16 : decode cX4_fits 16 = .ok (.ifCond .eq 31, 3) := by decide +kernel
theorem dX4_fits_19 : decode cX4_fits 19 = .ok (.aload_n 0, 1) := by decide +kernel
theorem dX4_fits_20 : decode cX4_fits 20 = .ok (.getfield 15, 3) := by decide +kernel
theorem dX4_fits_23 : decode cX4_fits 23 = .ok (.iload_n 1, 1) := by decide +kernel
theorem dX4_fits_24 : decode cX4_fits 24 = .ok (.laload, 1) := by decide +kernel
theorem dX4_fits_25 : decode cX4_fits 25 = .ok (.invokestatic 44, 3) := by decide +kernel
theorem dX4_fits_28 : decode cX4_fits 28 = .ok (.ifCond .eq 19, 3) := by decide +kernel
theorem dX4_fits_31 : decode cX4_fits 31 = .ok (.aload_n 0, 1) := by decide +kernel
theorem dX4_fits_32 : decode cX4_fits 32 = .ok (.getfield 18, 3) := by decide +kernel
theorem dX4_fits_35 : decode cX4_fits 35 = .ok (.iload_n 1, 1) := by decide +kernel
theorem dX4_fits_36 : decode cX4_fits 36 = .ok (.laload, 1) := by decide +kernel
theorem dX4_fits_37 : decode cX4_fits 37 = .ok (.invokestatic 44, 3) := by decide +kernel
theorem dX4_fits_40 : decode cX4_fits 40 = .ok (.ifCond .eq 7, 3) := by decide +kernel
theorem dX4_fits_43 : decode cX4_fits 43 = .ok (.iconst 1, 1) := by decide +kernel
theorem dX4_fits_44 : decode cX4_fits 44 = .ok (.goto 4, 3) := by decide +kernel
theorem dX4_fits_47 : decode cX4_fits 47 = .ok (.iconst 0, 1) := by decide +kernel
theorem dX4_fits_48 : decode cX4_fits 48 = .ok (.ireturn, 1) := by decide +kernel
set_option maxRecDepth 20000 in
theorem ggX4_reduce_X4_has : GoodIn wsX4_reduce wsX4_has := goodIn_r _ [7] (by decide +kernel) (by decide +kernel)
set_option maxRecDepth 20000 in
theorem gX4_reduce_X4_has : GoodIn wsX4_reduce (va_wsS RX4 21 yX4_has wsX4_has) := goodIn_app (goodIn_of _ (by decide +kernel)) ggX4_reduce_X4_has
set_option maxRecDepth 20000 in
theorem ggX4_reduce_X7_commonDivisor : GoodIn wsX4_reduce wsX7_commonDivisor := goodIn_ca (goodIn_r _ [10, 11, 12, 13, 14] (by decide +kernel) (by decide +kernel)) (goodIn_sub (fun _ h => List.mem_cons_of_mem _ (List.mem_append_right _ h)) (by decide +kernel))
set_option maxRecDepth 20000 in
theorem gX4_reduce_X7_commonDivisor_n48 : GoodIn wsX4_reduce (wsX7_commonDivisor) := ggX4_reduce_X7_commonDivisor
theorem dX4_reduce_0 : decode cX4_reduce 0 = .ok (.iload_n 1, 1) := by decide +kernel
theorem dX4_reduce_1 : decode cX4_reduce 1 = .ok (.invokestatic 21, 3) := by decide +kernel
theorem dX4_reduce_4 : decode cX4_reduce 4 = .ok (.ifCond .eq 58, 3) := by decide +kernel
theorem dX4_reduce_7 : decode cX4_reduce 7 = .ok (.aload_n 0, 1) := by decide +kernel
theorem dX4_reduce_8 : decode cX4_reduce 8 = .ok (.getfield 9, 3) := by decide +kernel
theorem dX4_reduce_11 : decode cX4_reduce 11 = .ok (.iload_n 1, 1) := by decide +kernel
theorem dX4_reduce_12 : decode cX4_reduce 12 = .ok (.laload, 1) := by decide +kernel
theorem dX4_reduce_13 : decode cX4_reduce 13 = .ok (.aload_n 0, 1) := by decide +kernel
theorem dX4_reduce_14 : decode cX4_reduce 14 = .ok (.getfield 18, 3) := by decide +kernel
theorem dX4_reduce_17 : decode cX4_reduce 17 = .ok (.iload_n 1, 1) := by decide +kernel
theorem dX4_reduce_18 : decode cX4_reduce 18 = .ok (.laload, 1) := by decide +kernel
theorem dX4_reduce_19 : decode cX4_reduce 19 = .ok (.invokestatic 48, 3) := by decide +kernel
theorem dX4_reduce_22 : decode cX4_reduce 22 = .ok (.aload_n 0, 1) := by decide +kernel
theorem dX4_reduce_23 : decode cX4_reduce 23 = .ok (.getfield 15, 3) := by decide +kernel
theorem dX4_reduce_26 : decode cX4_reduce 26 = .ok (.iload_n 1, 1) := by decide +kernel
theorem dX4_reduce_27 : decode cX4_reduce 27 = .ok (.laload, 1) := by decide +kernel
theorem dX4_reduce_28 : decode cX4_reduce 28 = .ok (.invokestatic 48, 3) := by decide +kernel
theorem dX4_reduce_31 : decode cX4_reduce 31 = .ok (.lstore_n 2, 1) := by decide +kernel
theorem dX4_reduce_32 : decode cX4_reduce 32 = .ok (.aload_n 0, 1) := by decide +kernel
theorem dX4_reduce_33 : decode cX4_reduce 33 = .ok (.getfield 9, 3) := by decide +kernel
theorem dX4_reduce_36 : decode cX4_reduce 36 = .ok (.iload_n 1, 1) := by decide +kernel
theorem dX4_reduce_37 : decode cX4_reduce 37 = .ok (.dup2, 1) := by decide +kernel
theorem dX4_reduce_38 : decode cX4_reduce 38 = .ok (.laload, 1) := by decide +kernel
theorem dX4_reduce_39 : decode cX4_reduce 39 = .ok (.lload_n 2, 1) := by decide +kernel
theorem dX4_reduce_40 : decode cX4_reduce 40 = .ok (.ldiv, 1) := by decide +kernel
theorem dX4_reduce_41 : decode cX4_reduce 41 = .ok (.lastore, 1) := by decide +kernel
theorem dX4_reduce_42 : decode cX4_reduce 42 = .ok (.aload_n 0, 1) := by decide +kernel
theorem dX4_reduce_43 : decode cX4_reduce 43 = .ok (.getfield 15, 3) := by decide +kernel
theorem dX4_reduce_46 : decode cX4_reduce 46 = .ok (.iload_n 1, 1) := by decide +kernel
theorem dX4_reduce_47 : decode cX4_reduce 47 = .ok (.dup2, 1) := by decide +kernel
theorem dX4_reduce_48 : decode cX4_reduce 48 = .ok (.laload, 1) := by decide +kernel
theorem dX4_reduce_49 : decode cX4_reduce 49 = .ok (.lload_n 2, 1) := by decide +kernel
theorem dX4_reduce_50 : decode cX4_reduce 50 = .ok (.ldiv, 1) := by decide +kernel
theorem dX4_reduce_51 : decode cX4_reduce 51 = .ok (.lastore, 1) := by decide +kernel
theorem dX4_reduce_52 : decode cX4_reduce 52 = .ok (.aload_n 0, 1) := by decide +kernel
theorem dX4_reduce_53 : decode cX4_reduce 53 = .ok (.getfield 18, 3) := by decide +kernel
theorem dX4_reduce_56 : decode cX4_reduce 56 = .ok (.iload_n 1, 1) := by decide +kernel
theorem dX4_reduce_57 : decode cX4_reduce 57 = .ok (.dup2, 1) := by decide +kernel
theorem dX4_reduce_58 : decode cX4_reduce 58 = .ok (.laload, 1) := by decide +kernel
theorem dX4_reduce_59 : decode cX4_reduce 59 = .ok (.lload_n 2, 1) := by decide +kernel
theorem dX4_reduce_60 : decode cX4_reduce 60 = .ok (.ldiv, 1) := by decide +kernel
theorem dX4_reduce_61 : decode cX4_reduce 61 = .ok (.lastore, 1) := by decide +kernel
theorem dX4_reduce_62 : decode cX4_reduce 62 = .ok (.return_, 1) := by decide +kernel
theorem dX5_init_0 : decode cX5_init 0 = .ok (.aload_n 0, 1) := by decide +kernel
theorem dX5_init_1 : decode cX5_init 1 = .ok (.invokespecial 3, 3) := by decide +kernel
theorem dX5_init_4 : decode cX5_init 4 = .ok (.aload_n 0, 1) := by decide +kernel
theorem dX5_init_5 : decode cX5_init 5 = .ok (.iconst 0, 1) := by decide +kernel
theorem dX5_init_6 : decode cX5_init 6 = .ok (.putfield 9, 3) := by decide +kernel
theorem dX5_init_9 : decode cX5_init 9 = .ok (.aload_n 0, 1) := by decide +kernel
theorem dX5_init_10 : decode cX5_init 10 = .ok (.bipush 64, 2) := by decide +kernel
theorem dX5_init_12 : decode cX5_init 12 = .ok (.newarray .long, 2) := by decide +kernel
theorem dX5_init_14 : decode cX5_init 14 = .ok (.putfield 15, 3) := by decide +kernel
theorem dX5_init_17 : decode cX5_init 17 = .ok (.aload_n 0, 1) := by decide +kernel
theorem dX5_init_18 : decode cX5_init 18 = .ok (.bipush 64, 2) := by decide +kernel
theorem dX5_init_20 : decode cX5_init 20 = .ok (.newarray .long, 2) := by decide +kernel
theorem dX5_init_22 : decode cX5_init 22 = .ok (.putfield 19, 3) := by decide +kernel
theorem dX5_init_25 : decode cX5_init 25 = .ok (.aload_n 0, 1) := by decide +kernel
theorem dX5_init_26 : decode cX5_init 26 = .ok (.bipush 64, 2) := by decide +kernel
theorem dX5_init_28 : decode cX5_init 28 = .ok (.newarray .long, 2) := by decide +kernel
theorem dX5_init_30 : decode cX5_init 30 = .ok (.putfield 22, 3) := by decide +kernel
theorem dX5_init_33 : decode cX5_init 33 = .ok (.return_, 1) := by decide +kernel
theorem dX5_measure_0 : decode cX5_measure 0 = .ok (.aload_n 0, 1) := by decide +kernel
theorem dX5_measure_1 : decode cX5_measure 1 = .ok (.getfield 9, 3) := by decide +kernel
theorem dX5_measure_4 : decode cX5_measure 4 = .ok (.ireturn, 1) := by decide +kernel
theorem dX5_has_0 : decode cX5_has 0 = .ok (.iload_n 1, 1) := by decide +kernel
theorem dX5_has_1 : decode cX5_has 1 = .ok (.ifCond .lt 21, 3) := by decide +kernel
theorem dX5_has_4 : decode cX5_has 4 = .ok (.iload_n 1, 1) := by decide +kernel
theorem dX5_has_5 : decode cX5_has 5 = .ok (.aload_n 0, 1) := by decide +kernel
theorem dX5_has_6 : decode cX5_has 6 = .ok (.getfield 9, 3) := by decide +kernel
theorem dX5_has_9 : decode cX5_has 9 = .ok (.if_icmp .ge 13, 3) := by decide +kernel
theorem dX5_has_12 : decode cX5_has 12 = .ok (.iload_n 1, 1) := by decide +kernel
theorem dX5_has_13 : decode cX5_has 13 = .ok (.bipush 64, 2) := by decide +kernel
theorem dX5_has_15 : decode cX5_has 15 = .ok (.if_icmp .ge 7, 3) := by decide +kernel
theorem dX5_has_18 : decode cX5_has 18 = .ok (.iconst 1, 1) := by decide +kernel
theorem dX5_has_19 : decode cX5_has 19 = .ok (.goto 4, 3) := by decide +kernel
theorem dX5_has_22 : decode cX5_has 22 = .ok (.iconst 0, 1) := by decide +kernel
theorem dX5_has_23 : decode cX5_has 23 = .ok (.ireturn, 1) := by decide +kernel
set_option maxRecDepth 20000 in
theorem ggX5_begin_J7_fill_d0a16 : GoodIn wsX5_begin wsJ7_fill_d0a16 := goodIn_r _ [8] (by decide +kernel) (by decide +kernel)
set_option maxRecDepth 20000 in
theorem gX5_begin_J7_fill_d0a16 : GoodIn wsX5_begin (va_wsS RX5 25 yJ7_fill_d0a16 wsJ7_fill_d0a16) := goodIn_app (goodIn_of _ (by decide +kernel)) ggX5_begin_J7_fill_d0a16
theorem dX5_begin_0 : decode cX5_begin 0 = .ok (.aload_n 0, 1) := by decide +kernel
theorem dX5_begin_1 : decode cX5_begin 1 = .ok (.iload_n 1, 1) := by decide +kernel
theorem dX5_begin_2 : decode cX5_begin 2 = .ok (.putfield 9, 3) := by decide +kernel
theorem dX5_begin_5 : decode cX5_begin 5 = .ok (.aload_n 0, 1) := by decide +kernel
theorem dX5_begin_6 : decode cX5_begin 6 = .ok (.getfield 15, 3) := by decide +kernel
theorem dX5_begin_9 : decode cX5_begin 9 = .ok (.lconst 1, 1) := by decide +kernel
theorem dX5_begin_10 : decode cX5_begin 10 = .ok (.invokestatic 25, 3) := by decide +kernel
theorem dX5_begin_13 : decode cX5_begin 13 = .ok (.aload_n 0, 1) := by decide +kernel
theorem dX5_begin_14 : decode cX5_begin 14 = .ok (.getfield 19, 3) := by decide +kernel
theorem dX5_begin_17 : decode cX5_begin 17 = .ok (.lconst 0, 1) := by decide +kernel
theorem dX5_begin_18 : decode cX5_begin 18 = .ok (.invokestatic 25, 3) := by decide +kernel
theorem dX5_begin_21 : decode cX5_begin 21 = .ok (.aload_n 0, 1) := by decide +kernel
theorem dX5_begin_22 : decode cX5_begin 22 = .ok (.getfield 22, 3) := by decide +kernel
theorem dX5_begin_25 : decode cX5_begin 25 = .ok (.lconst 1, 1) := by decide +kernel
theorem dX5_begin_26 : decode cX5_begin 26 = .ok (.invokestatic 25, 3) := by decide +kernel
theorem dX5_begin_29 : decode cX5_begin 29 = .ok (.return_, 1) := by decide +kernel
theorem dX5_drop_0 : decode cX5_drop 0 = .ok (.aload_n 0, 1) := by decide +kernel
theorem dX5_drop_1 : decode cX5_drop 1 = .ok (.iconst 0, 1) := by decide +kernel
theorem dX5_drop_2 : decode cX5_drop 2 = .ok (.putfield 9, 3) := by decide +kernel
theorem dX5_drop_5 : decode cX5_drop 5 = .ok (.return_, 1) := by decide +kernel
theorem dX5_become_0 : decode cX5_become 0 = .ok (.aload_n 0, 1) := by decide +kernel
theorem dX5_become_1 : decode cX5_become 1 = .ok (.aload_n 1, 1) := by decide +kernel
theorem dX5_become_2 : decode cX5_become 2 = .ok (.getfield 9, 3) := by decide +kernel
theorem dX5_become_5 : decode cX5_become 5 = .ok (.putfield 9, 3) := by decide +kernel
theorem dX5_become_8 : decode cX5_become 8 = .ok (.aload_n 1, 1) := by decide +kernel
theorem dX5_become_9 : decode cX5_become 9 = .ok (.getfield 15, 3) := by decide +kernel
theorem dX5_become_12 : decode cX5_become 12 = .ok (.iconst 0, 1) := by decide +kernel
theorem dX5_become_13 : decode cX5_become 13 = .ok (.aload_n 0, 1) := by decide +kernel
theorem dX5_become_14 : decode cX5_become 14 = .ok (.getfield 15, 3) := by decide +kernel
theorem dX5_become_17 : decode cX5_become 17 = .ok (.iconst 0, 1) := by decide +kernel
theorem dX5_become_18 : decode cX5_become 18 = .ok (.bipush 64, 2) := by decide +kernel
theorem dX5_become_20 : decode cX5_become 20 = .ok (.invokestatic 31, 3) := by decide +kernel
theorem dX5_become_23 : decode cX5_become 23 = .ok (.aload_n 1, 1) := by decide +kernel
theorem dX5_become_24 : decode cX5_become 24 = .ok (.getfield 19, 3) := by decide +kernel
theorem dX5_become_27 : decode cX5_become 27 = .ok (.iconst 0, 1) := by decide +kernel
theorem dX5_become_28 : decode cX5_become 28 = .ok (.aload_n 0, 1) := by decide +kernel
theorem dX5_become_29 : decode cX5_become 29 = .ok (.getfield 19, 3) := by decide +kernel
theorem dX5_become_32 : decode cX5_become 32 = .ok (.iconst 0, 1) := by decide +kernel
theorem dX5_become_33 : decode cX5_become 33 = .ok (.bipush 64, 2) := by decide +kernel
theorem dX5_become_35 : decode cX5_become 35 = .ok (.invokestatic 31, 3) := by decide +kernel
theorem dX5_become_38 : decode cX5_become 38 = .ok (.aload_n 1, 1) := by decide +kernel
theorem dX5_become_39 : decode cX5_become 39 = .ok (.getfield 22, 3) := by decide +kernel
theorem dX5_become_42 : decode cX5_become 42 = .ok (.iconst 0, 1) := by decide +kernel
theorem dX5_become_43 : decode cX5_become 43 = .ok (.aload_n 0, 1) := by decide +kernel
theorem dX5_become_44 : decode cX5_become 44 = .ok (.getfield 22, 3) := by decide +kernel
theorem dX5_become_47 : decode cX5_become 47 = .ok (.iconst 0, 1) := by decide +kernel
theorem dX5_become_48 : decode cX5_become 48 = .ok (.bipush 64, 2) := by decide +kernel
theorem dX5_become_50 : decode cX5_become 50 = .ok (.invokestatic 31, 3) := by decide +kernel
theorem dX5_become_53 : decode cX5_become 53 = .ok (.return_, 1) := by decide +kernel
set_option maxRecDepth 20000 in
theorem ggX5_read_X5_has : GoodIn wsX5_read wsX5_has := goodIn_r _ [8, 9, 10, 11, 12, 13] (by decide +kernel) (by decide +kernel)
set_option maxRecDepth 20000 in
theorem gX5_read_X5_has : GoodIn wsX5_read (wsV RX5 37 RX5 yX5_has wsX5_has) := goodIn_app (goodIn_of _ (by decide +kernel)) ggX5_read_X5_has
theorem dX5_read_0 : decode cX5_read 0 = .ok (.aload_n 0, 1) := by decide +kernel
theorem dX5_read_1 : decode cX5_read 1 = .ok (.iload_n 1, 1) := by decide +kernel
theorem dX5_read_2 : decode cX5_read 2 = .ok (.invokevirtual 37, 3) := by decide +kernel
theorem dX5_read_5 : decode cX5_read 5 = .ok (.ifCond .ne 5, 3) := by decide +kernel
theorem dX5_read_8 : decode cX5_read 8 = .ok (.lconst 0, 1) := by decide +kernel
theorem dX5_read_9 : decode cX5_read 9 = .ok (.lreturn, 1) := by decide +kernel
theorem dX5_read_10 : decode cX5_read 10 = .ok (.iload_n 2, 1) := by decide +kernel
theorem dX5_read_11 : decode cX5_read 11 = .ok (.ifCond .ne 12, 3) := by decide +kernel
theorem dX5_read_14 : decode cX5_read 14 = .ok (.aload_n 0, 1) := by decide +kernel
theorem dX5_read_15 : decode cX5_read 15 = .ok (.getfield 15, 3) := by decide +kernel
theorem dX5_read_18 : decode cX5_read 18 = .ok (.iload_n 1, 1) := by decide +kernel
theorem dX5_read_19 : decode cX5_read 19 = .ok (.laload, 1) := by decide +kernel
theorem dX5_read_20 : decode cX5_read 20 = .ok (.goto 23, 3) := by decide +kernel
theorem dX5_read_23 : decode cX5_read 23 = .ok (.iload_n 2, 1) := by decide +kernel
theorem dX5_read_24 : decode cX5_read 24 = .ok (.iconst 1, 1) := by decide +kernel
theorem dX5_read_25 : decode cX5_read 25 = .ok (.if_icmp .ne 12, 3) := by decide +kernel
theorem dX5_read_28 : decode cX5_read 28 = .ok (.aload_n 0, 1) := by decide +kernel
theorem dX5_read_29 : decode cX5_read 29 = .ok (.getfield 19, 3) := by decide +kernel
theorem dX5_read_32 : decode cX5_read 32 = .ok (.iload_n 1, 1) := by decide +kernel
theorem dX5_read_33 : decode cX5_read 33 = .ok (.laload, 1) := by decide +kernel
theorem dX5_read_34 : decode cX5_read 34 = .ok (.goto 9, 3) := by decide +kernel
theorem dX5_read_37 : decode cX5_read 37 = .ok (.aload_n 0, 1) := by decide +kernel
theorem dX5_read_38 : decode cX5_read 38 = .ok (.getfield 22, 3) := by decide +kernel
theorem dX5_read_41 : decode cX5_read 41 = .ok (.iload_n 1, 1) := by decide +kernel
theorem dX5_read_42 : decode cX5_read 42 = .ok (.laload, 1) := by decide +kernel
theorem dX5_read_43 : decode cX5_read 43 = .ok (.lreturn, 1) := by decide +kernel
set_option maxRecDepth 20000 in
theorem ggX5_write_X5_has : GoodIn wsX5_write wsX5_has := goodIn_r _ [8, 9, 10, 11, 12, 13] (by decide +kernel) (by decide +kernel)
set_option maxRecDepth 20000 in
theorem gX5_write_X5_has : GoodIn wsX5_write (wsV RX5 37 RX5 yX5_has wsX5_has) := goodIn_app (goodIn_of _ (by decide +kernel)) ggX5_write_X5_has
theorem dX5_write_0 : decode cX5_write 0 = .ok (.aload_n 0, 1) := by decide +kernel
theorem dX5_write_1 : decode cX5_write 1 = .ok (.iload_n 1, 1) := by decide +kernel
theorem dX5_write_2 : decode cX5_write 2 = .ok (.invokevirtual 37, 3) := by decide +kernel
theorem dX5_write_5 : decode cX5_write 5 = .ok (.ifCond .ne 4, 3) := by decide +kernel
theorem dX5_write_8 : decode cX5_write 8 = .ok (.return_, 1) := by decide +kernel
theorem dX5_write_9 : decode cX5_write 9 = .ok (.iload_n 2, 1) := by decide +kernel
theorem dX5_write_10 : decode cX5_write 10 = .ok (.ifCond .ne 13, 3) := by decide +kernel
theorem dX5_write_13 : decode cX5_write 13 = .ok (.aload_n 0, 1) := by decide +kernel
theorem dX5_write_14 : decode cX5_write 14 = .ok (.getfield 15, 3) := by decide +kernel
theorem dX5_write_17 : decode cX5_write 17 = .ok (.iload_n 1, 1) := by decide +kernel
theorem dX5_write_18 : decode cX5_write 18 = .ok (.lload_n 3, 1) := by decide +kernel
theorem dX5_write_19 : decode cX5_write 19 = .ok (.lastore, 1) := by decide +kernel
theorem dX5_write_20 : decode cX5_write 20 = .ok (.goto 25, 3) := by decide +kernel
theorem dX5_write_23 : decode cX5_write 23 = .ok (.iload_n 2, 1) := by decide +kernel
theorem dX5_write_24 : decode cX5_write 24 = .ok (.iconst 1, 1) := by decide +kernel
theorem dX5_write_25 : decode cX5_write 25 = .ok (.if_icmp .ne 13, 3) := by decide +kernel
theorem dX5_write_28 : decode cX5_write 28 = .ok (.aload_n 0, 1) := by decide +kernel
theorem dX5_write_29 : decode cX5_write 29 = .ok (.getfield 19, 3) := by decide +kernel
theorem dX5_write_32 : decode cX5_write 32 = .ok (.iload_n 1, 1) := by decide +kernel
theorem dX5_write_33 : decode cX5_write 33 = .ok (.lload_n 3, 1) := by decide +kernel
theorem dX5_write_34 : decode cX5_write 34 = .ok (.lastore, 1) := by decide +kernel
theorem dX5_write_35 : decode cX5_write 35 = .ok (.goto 10, 3) := by decide +kernel
theorem dX5_write_38 : decode cX5_write 38 = .ok (.aload_n 0, 1) := by decide +kernel
theorem dX5_write_39 : decode cX5_write 39 = .ok (.getfield 22, 3) := by decide +kernel
theorem dX5_write_42 : decode cX5_write 42 = .ok (.iload_n 1, 1) := by decide +kernel
theorem dX5_write_43 : decode cX5_write 43 = .ok (.lload_n 3, 1) := by decide +kernel
theorem dX5_write_44 : decode cX5_write 44 = .ok (.lastore, 1) := by decide +kernel
theorem dX5_write_45 : decode cX5_write 45 = .ok (.return_, 1) := by decide +kernel
set_option maxRecDepth 20000 in
theorem ggX5_a_X5_has : GoodIn wsX5_a wsX5_has := goodIn_r _ [6, 7, 8, 9, 10, 11] (by decide +kernel) (by decide +kernel)
set_option maxRecDepth 20000 in
theorem gX5_a_X5_has : GoodIn wsX5_a (wsV RX5 37 RX5 yX5_has wsX5_has) := goodIn_app (goodIn_of _ (by decide +kernel)) ggX5_a_X5_has
theorem dX5_a_0 : decode cX5_a 0 = .ok (.aload_n 0, 1) := by decide +kernel
theorem dX5_a_1 : decode cX5_a 1 = .ok (.iload_n 1, 1) := by decide +kernel
theorem dX5_a_2 : decode cX5_a 2 = .ok (.invokevirtual 37, 3) := by decide +kernel
theorem dX5_a_5 : decode cX5_a 5 = .ok (.ifCond .eq 12, 3) := by decide +kernel
theorem dX5_a_8 : decode cX5_a 8 = .ok (.aload_n 0, 1) := by decide +kernel
theorem dX5_a_9 : decode cX5_a 9 = .ok (.getfield 15, 3) := by decide +kernel
theorem dX5_a_12 : decode cX5_a 12 = .ok (.iload_n 1, 1) := by decide +kernel
theorem dX5_a_13 : decode cX5_a 13 = .ok (.laload, 1) := by decide +kernel
theorem dX5_a_14 : decode cX5_a 14 = .ok (.goto 4, 3) := by decide +kernel
theorem dX5_a_17 : decode cX5_a 17 = .ok (.lconst 0, 1) := by decide +kernel
theorem dX5_a_18 : decode cX5_a 18 = .ok (.lreturn, 1) := by decide +kernel
set_option maxRecDepth 20000 in
theorem ggX5_b_X5_has : GoodIn wsX5_b wsX5_has := goodIn_r _ [6, 7, 8, 9, 10, 11] (by decide +kernel) (by decide +kernel)
set_option maxRecDepth 20000 in
theorem gX5_b_X5_has : GoodIn wsX5_b (wsV RX5 37 RX5 yX5_has wsX5_has) := goodIn_app (goodIn_of _ (by decide +kernel)) ggX5_b_X5_has
theorem dX5_b_0 : decode cX5_b 0 = .ok (.aload_n 0, 1) := by decide +kernel
theorem dX5_b_1 : decode cX5_b 1 = .ok (.iload_n 1, 1) := by decide +kernel
theorem dX5_b_2 : decode cX5_b 2 = .ok (.invokevirtual 37, 3) := by decide +kernel
theorem dX5_b_5 : decode cX5_b 5 = .ok (.ifCond .eq 12, 3) := by decide +kernel
theorem dX5_b_8 : decode cX5_b 8 = .ok (.aload_n 0, 1) := by decide +kernel
theorem dX5_b_9 : decode cX5_b 9 = .ok (.getfield 19, 3) := by decide +kernel
theorem dX5_b_12 : decode cX5_b 12 = .ok (.iload_n 1, 1) := by decide +kernel
theorem dX5_b_13 : decode cX5_b 13 = .ok (.laload, 1) := by decide +kernel
theorem dX5_b_14 : decode cX5_b 14 = .ok (.goto 4, 3) := by decide +kernel
theorem dX5_b_17 : decode cX5_b 17 = .ok (.lconst 0, 1) := by decide +kernel
theorem dX5_b_18 : decode cX5_b 18 = .ok (.lreturn, 1) := by decide +kernel
set_option maxRecDepth 20000 in
theorem ggX5_d_X5_has : GoodIn wsX5_d wsX5_has := goodIn_r _ [6, 7, 8, 9, 10, 11] (by decide +kernel) (by decide +kernel)
set_option maxRecDepth 20000 in
theorem gX5_d_X5_has : GoodIn wsX5_d (wsV RX5 37 RX5 yX5_has wsX5_has) := goodIn_app (goodIn_of _ (by decide +kernel)) ggX5_d_X5_has
theorem dX5_d_0 : decode cX5_d 0 = .ok (.aload_n 0, 1) := by decide +kernel
theorem dX5_d_1 : decode cX5_d 1 = .ok (.iload_n 1, 1) := by decide +kernel
theorem dX5_d_2 : decode cX5_d 2 = .ok (.invokevirtual 37, 3) := by decide +kernel
theorem dX5_d_5 : decode cX5_d 5 = .ok (.ifCond .eq 23, 3) := by decide +kernel
theorem dX5_d_8 : decode cX5_d 8 = .ok (.aload_n 0, 1) := by decide +kernel
theorem dX5_d_9 : decode cX5_d 9 = .ok (.getfield 22, 3) := by decide +kernel
theorem dX5_d_12 : decode cX5_d 12 = .ok (.iload_n 1, 1) := by decide +kernel
theorem dX5_d_13 : decode cX5_d 13 = .ok (.laload, 1) := by decide +kernel
theorem dX5_d_14 : decode cX5_d 14 = .ok (.lconst 1, 1) := by decide +kernel
theorem dX5_d_15 : decode cX5_d 15 = .ok (.lcmp, 1) := by decide +kernel
theorem dX5_d_16 : decode cX5_d 16 = .ok (.ifCond .le 12, 3) := by decide +kernel
theorem dX5_d_19 : decode cX5_d 19 = .ok (.aload_n 0, 1) := by decide +kernel
theorem dX5_d_20 : decode cX5_d 20 = .ok (.getfield 22, 3) := by decide +kernel
theorem dX5_d_23 : decode cX5_d 23 = .ok (.iload_n 1, 1) := by decide +kernel
theorem dX5_d_24 : decode cX5_d 24 = .ok (.laload, 1) := by decide +kernel
theorem dX5_d_25 : decode cX5_d 25 = .ok (.goto 4, 3) := by decide +kernel
theorem dX5_d_28 : decode cX5_d 28 = .ok (.lconst 1, 1) := by decide +kernel
theorem dX5_d_29 : decode cX5_d 29 = .ok (.lreturn, 1) := by decide +kernel
set_option maxRecDepth 20000 in
theorem ggX5_firstUnsound_X5_isSound : GoodIn wsX5_firstUnsound wsX5_isSound := goodIn_ca (goodIn_r _ [6, 1, 7, 8, 9, 5, 10, 11, 12, 13, 14, 15, 16, 17, 18, 19, 20, 21, 22, 23, 24, 25, 26, 27, 28, 29, 30, 31, 32, 33, 34, 35, 36, 37, 38] (by decide +kernel) (by decide +kernel)) (goodIn_sub (fun _ h => List.mem_cons_of_mem _ (List.mem_append_right _ h)) (by decide +kernel))
set_option maxRecDepth 20000 in
theorem gX5_firstUnsound_X5_isSound : GoodIn wsX5_firstUnsound (wsV RX5 41 RX5 yX5_isSound wsX5_isSound) := goodIn_app (goodIn_of _ (by decide +kernel)) ggX5_firstUnsound_X5_isSound
theorem dX5_firstUnsound_0 : decode cX5_firstUnsound 0 = .ok (.iconst 0, 1) := by decide +kernel
theorem dX5_firstUnsound_1 : decode cX5_firstUnsound 1 = .ok (.istore_n 1, 1) := by decide +kernel
theorem dX5_firstUnsound_2 : decode cX5_firstUnsound 2 = .ok (.iload_n 1, 1) := by decide +kernel
theorem dX5_firstUnsound_3 : decode cX5_firstUnsound 3 = .ok (.aload_n 0, 1) := by decide +kernel
theorem dX5_firstUnsound_4 : decode cX5_firstUnsound 4 = .ok (.getfield 9, 3) := by decide +kernel
theorem dX5_firstUnsound_7 : decode cX5_firstUnsound 7 = .ok (.if_icmp .ge 19, 3) := by decide +kernel
theorem dX5_firstUnsound_10 : decode cX5_firstUnsound 10 = .ok (.aload_n 0, 1) := by decide +kernel
theorem dX5_firstUnsound_11 : decode cX5_firstUnsound 11 = .ok (.iload_n 1, 1) := by decide +kernel
theorem dX5_firstUnsound_12 : decode cX5_firstUnsound 12 = .ok (.invokevirtual 41, 3) := by decide +kernel
theorem dX5_firstUnsound_15 : decode cX5_firstUnsound 15 = .ok (.ifCond .ne 5, 3) := by decide +kernel
theorem dX5_firstUnsound_18 : decode cX5_firstUnsound 18 = .ok (.iload_n 1, 1) := by decide +kernel
theorem dX5_firstUnsound_19 : decode cX5_firstUnsound 19 = .ok (.ireturn, 1) := by decide +kernel
theorem dX5_firstUnsound_20 : decode cX5_firstUnsound 20 = .ok (.iinc 1 1, 3) := by decide +kernel
theorem dX5_firstUnsound_23 : decode cX5_firstUnsound 23 = .ok (.goto (-21), 3) := by decide +kernel
theorem dX5_firstUnsound_26 : decode cX5_firstUnsound 26 = .ok (.iconst (-1), 1) := by decide +kernel
theorem dX5_firstUnsound_27 : decode cX5_firstUnsound 27 = .ok (.ireturn, 1) := by decide +kernel
set_option maxRecDepth 20000 in
theorem ggX5_isSound_X5_read : GoodIn wsX5_isSound wsX5_read := goodIn_r _ [6, 7, 8, 9, 10, 11, 12, 5, 13, 1, 31, 32, 33, 34] (by decide +kernel) (by decide +kernel)
set_option maxRecDepth 20000 in
theorem gX5_isSound_X5_read : GoodIn wsX5_isSound (wsV RX5 44 RX5 yX5_read wsX5_read) := goodIn_app (goodIn_of _ (by decide +kernel)) ggX5_isSound_X5_read
set_option maxRecDepth 20000 in
theorem ggX5_isSound_X5_isPart : GoodIn wsX5_isSound wsX5_isPart := goodIn_r _ [16, 17, 18] (by decide +kernel) (by decide +kernel)
set_option maxRecDepth 20000 in
theorem gX5_isSound_X5_isPart : GoodIn wsX5_isSound (va_wsS RX5 48 yX5_isPart wsX5_isPart) := goodIn_app (goodIn_of _ (by decide +kernel)) ggX5_isSound_X5_isPart
set_option maxRecDepth 20000 in
theorem ggX5_isSound_X5_a : GoodIn wsX5_isSound wsX5_a := goodIn_r _ [22, 7, 10, 11, 12, 5, 13, 1, 31, 32, 33, 34] (by decide +kernel) (by decide +kernel)
set_option maxRecDepth 20000 in
theorem gX5_isSound_X5_a : GoodIn wsX5_isSound (wsV RX5 52 RX5 yX5_a wsX5_a) := goodIn_app (goodIn_of _ (by decide +kernel)) ggX5_isSound_X5_a
set_option maxRecDepth 20000 in
theorem ggX5_isSound_X5_b : GoodIn wsX5_isSound wsX5_b := goodIn_r _ [26, 8, 10, 11, 12, 5, 13, 1, 31, 32, 33, 34] (by decide +kernel) (by decide +kernel)
set_option maxRecDepth 20000 in
theorem gX5_isSound_X5_b : GoodIn wsX5_isSound (wsV RX5 56 RX5 yX5_b wsX5_b) := goodIn_app (goodIn_of _ (by decide +kernel)) ggX5_isSound_X5_b
set_option maxRecDepth 20000 in
theorem ggX5_isSound_X5_d : GoodIn wsX5_isSound wsX5_d := goodIn_r _ [30, 9, 10, 11, 12, 5, 13, 1, 31, 32, 33, 34] (by decide +kernel) (by decide +kernel)
set_option maxRecDepth 20000 in
theorem gX5_isSound_X5_d : GoodIn wsX5_isSound (wsV RX5 59 RX5 yX5_d wsX5_d) := goodIn_app (goodIn_of _ (by decide +kernel)) ggX5_isSound_X5_d
theorem dX5_isSound_0 : decode cX5_isSound 0 = .ok (.aload_n 0, 1) := by decide +kernel
theorem dX5_isSound_1 : decode cX5_isSound 1 = .ok (.iload_n 1, 1) := by decide +kernel
theorem dX5_isSound_2 : decode cX5_isSound 2 = .ok (.iconst 0, 1) := by decide +kernel
theorem dX5_isSound_3 : decode cX5_isSound 3 = .ok (.invokevirtual 44, 3) := by decide +kernel
theorem dX5_isSound_6 : decode cX5_isSound 6 = .ok (.invokestatic 48, 3) := by decide +kernel
theorem dX5_isSound_9 : decode cX5_isSound 9 = .ok (.ifCond .eq 89, 3) := by decide +kernel
theorem dX5_isSound_12 : decode cX5_isSound 12 = .ok (.aload_n 0, 1) := by decide +kernel
theorem dX5_isSound_13 : decode cX5_isSound 13 = .ok (.iload_n 1, 1) := by decide +kernel
theorem dX5_isSound_14 : decode cX5_isSound 14 = .ok (.iconst 1, 1) := by decide +kernel
theorem dX5_isSound_15 : decode cX5_isSound 15 = .ok (.invokevirtual 44, 3) := by decide +kernel
theorem dX5_isSound_18 : decode cX5_isSound 18 = .ok (.invokestatic 48, 3) := by decide +kernel
theorem dX5_isSound_21 : decode cX5_isSound 21 = .ok (.ifCond .eq 77, 3) := by decide +kernel
theorem dX5_isSound_24 : decode cX5_isSound 24 = .ok (.aload_n 0, 1) := by decide +kernel
theorem dX5_isSound_25 : decode cX5_isSound 25 = .ok (.iload_n 1, 1) := by decide +kernel
theorem dX5_isSound_26 : decode cX5_isSound 26 = .ok (.iconst 2, 1) := by decide +kernel
theorem dX5_isSound_27 : decode cX5_isSound 27 = .ok (.invokevirtual 44, 3) := by decide +kernel
theorem dX5_isSound_30 : decode cX5_isSound 30 = .ok (.invokestatic 48, 3) := by decide +kernel
theorem dX5_isSound_33 : decode cX5_isSound 33 = .ok (.ifCond .eq 65, 3) := by decide +kernel
theorem dX5_isSound_36 : decode cX5_isSound 36 = .ok (.aload_n 0, 1) := by decide +kernel
theorem dX5_isSound_37 : decode cX5_isSound 37 = .ok (.iload_n 1, 1) := by decide +kernel
theorem dX5_isSound_38 : decode cX5_isSound 38 = .ok (.iconst 2, 1) := by decide +kernel
theorem dX5_isSound_39 : decode cX5_isSound 39 = .ok (.invokevirtual 44, 3) := by decide +kernel
theorem dX5_isSound_42 : decode cX5_isSound 42 = .ok (.lconst 1, 1) := by decide +kernel
theorem dX5_isSound_43 : decode cX5_isSound 43 = .ok (.lcmp, 1) := by decide +kernel
theorem dX5_isSound_44 : decode cX5_isSound 44 = .ok (.ifCond .lt 54, 3) := by decide +kernel
theorem dX5_isSound_47 : decode cX5_isSound 47 = .ok (.aload_n 0, 1) := by decide +kernel
theorem dX5_isSound_48 : decode cX5_isSound 48 = .ok (.iload_n 1, 1) := by decide +kernel
theorem dX5_isSound_49 : decode cX5_isSound 49 = .ok (.invokevirtual 52, 3) := by decide +kernel
theorem dX5_isSound_52 : decode cX5_isSound 52 = .ok (.iload_n 1, 1) := by decide +kernel
theorem dX5_isSound_53 : decode cX5_isSound 53 = .ok (.i2l, 1) := by decide +kernel
theorem dX5_isSound_54 : decode cX5_isSound 54 = .ok (.lmul, 1) := by decide +kernel
theorem dX5_isSound_55 : decode cX5_isSound 55 = .ok (.aload_n 0, 1) := by decide +kernel
theorem dX5_isSound_56 : decode cX5_isSound 56 = .ok (.iload_n 1, 1) := by decide +kernel
theorem dX5_isSound_57 : decode cX5_isSound 57 = .ok (.invokevirtual 56, 3) := by decide +kernel
theorem dX5_isSound_60 : decode cX5_isSound 60 = .ok (.ladd, 1) := by decide +kernel
theorem dX5_isSound_61 : decode cX5_isSound 61 = .ok (.aload_n 0, 1) := by decide +kernel
theorem dX5_isSound_62 : decode cX5_isSound 62 = .ok (.iload_n 1, 1) := by decide +kernel
theorem dX5_isSound_63 : decode cX5_isSound 63 = .ok (.invokevirtual 59, 3) := by decide +kernel
theorem dX5_isSound_66 : decode cX5_isSound 66 = .ok (.lrem, 1) := by decide +kernel
theorem dX5_isSound_67 : decode cX5_isSound 67 = .ok (.lconst 0, 1) := by decide +kernel
theorem dX5_isSound_68 : decode cX5_isSound 68 = .ok (.lcmp, 1) := by decide +kernel
theorem dX5_isSound_69 : decode cX5_isSound 69 = .ok (.ifCond .ne 29, 3) := by decide +kernel
theorem dX5_isSound_72 : decode cX5_isSound 72 = .ok (.aload_n 0, 1) := by decide +kernel
theorem dX5_isSound_73 : decode cX5_isSound 73 = .ok (.iload_n 1, 1) := by decide +kernel
theorem dX5_isSound_74 : decode cX5_isSound 74 = .ok (.invokevirtual 52, 3) := by decide +kernel
theorem dX5_isSound_77 : decode cX5_isSound 77 = .ok (.aload_n 0, 1) := by decide +kernel
theorem dX5_isSound_78 : decode cX5_isSound 78 = .ok (.getfield 9, 3) := by decide +kernel
theorem dX5_isSound_81 : decode cX5_isSound 81 = .ok (.i2l, 1) := by decide +kernel
theorem dX5_isSound_82 : decode cX5_isSound 82 = .ok (.lmul, 1) := by decide +kernel
theorem dX5_isSound_83 : decode cX5_isSound 83 = .ok (.aload_n 0, 1) := by decide +kernel
theorem dX5_isSound_84 : decode cX5_isSound 84 = .ok (.iload_n 1, 1) := by decide +kernel
theorem dX5_isSound_85 : decode cX5_isSound 85 = .ok (.invokevirtual 59, 3) := by decide +kernel
theorem dX5_isSound_88 : decode cX5_isSound 88 = .ok (.lrem, 1) := by decide +kernel
theorem dX5_isSound_89 : decode cX5_isSound 89 = .ok (.lconst 0, 1) := by decide +kernel
theorem dX5_isSound_90 : decode cX5_isSound 90 = .ok (.lcmp, 1) := by decide +kernel
theorem dX5_isSound_91 : decode cX5_isSound 91 = .ok (.ifCond .ne 7, 3) := by decide +kernel
theorem dX5_isSound_94 : decode cX5_isSound 94 = .ok (.iconst 1, 1) := by decide +kernel
theorem dX5_isSound_95 : decode cX5_isSound 95 = .ok (.goto 4, 3) := by decide +kernel
theorem dX5_isSound_98 : decode cX5_isSound 98 = .ok (.iconst 0, 1) := by decide +kernel
theorem dX5_isSound_99 : decode cX5_isSound 99 = .ok (.ireturn, 1) := by decide +kernel
theorem dX5_isPart_0 : decode cX5_isPart 0 = .ok (.lload_n 0, 1) := by decide +kernel
theorem dX5_isPart_1 : decode cX5_isPart 1 = .ok (.ldc2_w 62, 3) := by decide +kernel
theorem dX5_isPart_4 : decode cX5_isPart 4 = .ok (.lcmp, 1) := by decide +kernel
theorem dX5_isPart_5 : decode cX5_isPart 5 = .ok (.ifCond .lt 15, 3) := by decide +kernel
theorem dX5_isPart_8 : decode cX5_isPart 8 = .ok (.lload_n 0, 1) := by decide +kernel
theorem dX5_isPart_9 : decode cX5_isPart 9 = .ok (.ldc2_w 64, 3) := by decide +kernel
theorem dX5_isPart_12 : decode cX5_isPart 12 = .ok (.lcmp, 1) := by decide +kernel
theorem dX5_isPart_13 : decode cX5_isPart 13 = .ok (.ifCond .gt 7, 3) := by decide +kernel
theorem dX5_isPart_16 : decode cX5_isPart 16 = .ok (.iconst 1, 1) := by decide +kernel
theorem dX5_isPart_17 : decode cX5_isPart 17 = .ok (.goto 4, 3) := by decide +kernel
theorem dX5_isPart_20 : decode cX5_isPart 20 = .ok (.iconst 0, 1) := by decide +kernel
theorem dX5_isPart_21 : decode cX5_isPart 21 = .ok (.ireturn, 1) := by decide +kernel
set_option maxRecDepth 20000 in
theorem ggX5_restOf_J9_floorMod_f86c9 : GoodIn wsX5_restOf wsJ9_floorMod_f86c9 := goodIn_r _ [5] (by decide +kernel) (by decide +kernel)
set_option maxRecDepth 20000 in
theorem gX5_restOf_J9_floorMod_f86c9 : GoodIn wsX5_restOf (va_wsS RX5 66 yJ9_floorMod_f86c9 wsJ9_floorMod_f86c9) := goodIn_app (goodIn_of _ (by decide +kernel)) ggX5_restOf_J9_floorMod_f86c9
theorem dX5_restOf_0 : decode cX5_restOf 0 = .ok (.aload_n 0, 1) := by decide +kernel
theorem dX5_restOf_1 : decode cX5_restOf 1 = .ok (.getfield 9, 3) := by decide +kernel
theorem dX5_restOf_4 : decode cX5_restOf 4 = .ok (.iconst 1, 1) := by decide +kernel
theorem dX5_restOf_5 : decode cX5_restOf 5 = .ok (.if_icmp .ge 7, 3) := by decide +kernel
theorem dX5_restOf_8 : decode cX5_restOf 8 = .ok (.iconst 0, 1) := by decide +kernel
theorem dX5_restOf_9 : decode cX5_restOf 9 = .ok (.goto 13, 3) := by decide +kernel
theorem dX5_restOf_12 : decode cX5_restOf 12 = .ok (.lload_n 1, 1) := by decide +kernel
theorem dX5_restOf_13 : decode cX5_restOf 13 = .ok (.aload_n 0, 1) := by decide +kernel
theorem dX5_restOf_14 : decode cX5_restOf 14 = .ok (.getfield 9, 3) := by decide +kernel
theorem dX5_restOf_17 : decode cX5_restOf 17 = .ok (.i2l, 1) := by decide +kernel
theorem dX5_restOf_18 : decode cX5_restOf 18 = .ok (.invokestatic 66, 3) := by decide +kernel
theorem dX5_restOf_21 : decode cX5_restOf 21 = .ok (.l2i, 1) := by decide +kernel
theorem dX5_restOf_22 : decode cX5_restOf 22 = .ok (.ireturn, 1) := by decide +kernel
set_option maxRecDepth 20000 in
theorem ggX5_after_X5_restOf : GoodIn wsX5_after wsX5_restOf := goodIn_r _ [6, 7, 8, 9, 10, 11, 36, 37, 38, 39] (by decide +kernel) (by decide +kernel)
set_option maxRecDepth 20000 in
theorem gX5_after_X5_restOf : GoodIn wsX5_after (wsV RX5 72 RX5 yX5_restOf wsX5_restOf) := goodIn_app (goodIn_of _ (by decide +kernel)) ggX5_after_X5_restOf
set_option maxRecDepth 20000 in
theorem ggX5_after_X5_a : GoodIn wsX5_after wsX5_a := goodIn_r _ [15, 16, 17, 18, 19, 5, 20, 7, 36, 37, 38, 39] (by decide +kernel) (by decide +kernel)
set_option maxRecDepth 20000 in
theorem gX5_after_X5_a : GoodIn wsX5_after (wsV RX5 52 RX5 yX5_a wsX5_a) := goodIn_app (goodIn_of _ (by decide +kernel)) ggX5_after_X5_a
set_option maxRecDepth 20000 in
theorem ggX5_after_X5_b : GoodIn wsX5_after wsX5_b := goodIn_r _ [24, 25, 17, 18, 19, 5, 20, 7, 36, 37, 38, 39] (by decide +kernel) (by decide +kernel)
set_option maxRecDepth 20000 in
theorem gX5_after_X5_b : GoodIn wsX5_after (wsV RX5 56 RX5 yX5_b wsX5_b) := goodIn_app (goodIn_of _ (by decide +kernel)) ggX5_after_X5_b
set_option maxRecDepth 20000 in
theorem ggX5_after_X5_d : GoodIn wsX5_after wsX5_d := goodIn_r _ [29, 30, 17, 18, 19, 5, 20, 7, 36, 37, 38, 39] (by decide +kernel) (by decide +kernel)
set_option maxRecDepth 20000 in
theorem gX5_after_X5_d : GoodIn wsX5_after (wsV RX5 59 RX5 yX5_d wsX5_d) := goodIn_app (goodIn_of _ (by decide +kernel)) ggX5_after_X5_d
set_option maxRecDepth 20000 in
theorem ggX5_after_X7_isNumber : GoodIn wsX5_after wsX7_isNumber := goodIn_r _ [33, 34, 35] (by decide +kernel) (by decide +kernel)
set_option maxRecDepth 20000 in
theorem gX5_after_X7_isNumber_n76 : GoodIn wsX5_after (wsX7_isNumber) := ggX5_after_X7_isNumber
theorem dX5_after_0 : decode cX5_after 0 = .ok (.aload_n 0, 1) := by decide +kernel
theorem dX5_after_1 : decode cX5_after 1 = .ok (.lload_n 1, 1) := by decide +kernel
theorem dX5_after_2 : decode cX5_after 2 = .ok (.invokevirtual 72, 3) := by decide +kernel
theorem dX5_after_5 : decode cX5_after 5 = .ok (.istore_n 3, 1) := by decide +kernel
theorem dX5_after_6 : decode cX5_after 6 = .ok (.aload_n 0, 1) := by decide +kernel
theorem dX5_after_7 : decode cX5_after 7 = .ok (.iload_n 3, 1) := by decide +kernel
theorem dX5_after_8 : decode cX5_after 8 = .ok (.invokevirtual 52, 3) := by decide +kernel
theorem dX5_after_11 : decode cX5_after 11 = .ok (.lload_n 1, 1) := by decide +kernel
theorem dX5_after_12 : decode cX5_after 12 = .ok (.lmul, 1) := by decide +kernel
theorem dX5_after_13 : decode cX5_after 13 = .ok (.aload_n 0, 1) := by decide +kernel
theorem dX5_after_14 : decode cX5_after 14 = .ok (.iload_n 3, 1) := by decide +kernel
theorem dX5_after_15 : decode cX5_after 15 = .ok (.invokevirtual 56, 3) := by decide +kernel
theorem dX5_after_18 : decode cX5_after 18 = .ok (.ladd, 1) := by decide +kernel
theorem dX5_after_19 : decode cX5_after 19 = .ok (.aload_n 0, 1) := by decide +kernel
theorem dX5_after_20 : decode cX5_after 20 = .ok (.iload_n 3, 1) := by decide +kernel
theorem dX5_after_21 : decode cX5_after 21 = .ok (.invokevirtual 59, 3) := by decide +kernel
theorem dX5_after_24 : decode cX5_after 24 = .ok (.ldiv, 1) := by decide +kernel
theorem dX5_after_25 : decode cX5_after 25 = .ok (.lstore 4, 2) := by decide +kernel
theorem dX5_after_27 : decode cX5_after 27 = .ok (.lload 4, 2) := by decide +kernel
theorem dX5_after_29 : decode cX5_after 29 = .ok (.invokestatic 76, 3) := by decide +kernel
theorem dX5_after_32 : decode cX5_after 32 = .ok (.ifCond .eq 8, 3) := by decide +kernel
theorem dX5_after_35 : decode cX5_after 35 = .ok (.lload 4, 2) := by decide +kernel
theorem dX5_after_37 : decode cX5_after 37 = .ok (.goto 6, 3) := by decide +kernel
theorem dX5_after_40 : decode cX5_after 40 = .ok (.ldc2_w 79, 3) := by decide +kernel
theorem dX5_after_43 : decode cX5_after 43 = .ok (.lreturn, 1) := by decide +kernel
set_option maxRecDepth 20000 in
theorem ggX5_before_X5_a : GoodIn wsX5_before wsX5_a := goodIn_r _ [6, 7, 8, 9, 10, 5, 11, 12, 36, 37, 38, 39] (by decide +kernel) (by decide +kernel)
set_option maxRecDepth 20000 in
theorem gX5_before_X5_a : GoodIn wsX5_before (wsV RX5 52 RX5 yX5_a wsX5_a) := goodIn_app (goodIn_of _ (by decide +kernel)) ggX5_before_X5_a
set_option maxRecDepth 20000 in
theorem ggX5_before_X5_d : GoodIn wsX5_before wsX5_d := goodIn_r _ [16, 17, 8, 9, 10, 5, 11, 12, 36, 37, 38, 39] (by decide +kernel) (by decide +kernel)
set_option maxRecDepth 20000 in
theorem gX5_before_X5_d : GoodIn wsX5_before (wsV RX5 59 RX5 yX5_d wsX5_d) := goodIn_app (goodIn_of _ (by decide +kernel)) ggX5_before_X5_d
set_option maxRecDepth 20000 in
theorem ggX5_before_X5_b : GoodIn wsX5_before wsX5_b := goodIn_r _ [21, 22, 8, 9, 10, 5, 11, 12, 36, 37, 38, 39] (by decide +kernel) (by decide +kernel)
set_option maxRecDepth 20000 in
theorem gX5_before_X5_b : GoodIn wsX5_before (wsV RX5 56 RX5 yX5_b wsX5_b) := goodIn_app (goodIn_of _ (by decide +kernel)) ggX5_before_X5_b
set_option maxRecDepth 20000 in
theorem ggX5_before_X7_isNumber : GoodIn wsX5_before wsX7_isNumber := goodIn_r _ [25, 26, 27] (by decide +kernel) (by decide +kernel)
set_option maxRecDepth 20000 in
theorem gX5_before_X7_isNumber_n76 : GoodIn wsX5_before (wsX7_isNumber) := ggX5_before_X7_isNumber
set_option maxRecDepth 20000 in
theorem ggX5_before_X5_restOf : GoodIn wsX5_before wsX5_restOf := goodIn_r _ [31, 12, 32, 33, 34, 35, 36, 37, 38, 39] (by decide +kernel) (by decide +kernel)
set_option maxRecDepth 20000 in
theorem gX5_before_X5_restOf : GoodIn wsX5_before (wsV RX5 72 RX5 yX5_restOf wsX5_restOf) := goodIn_app (goodIn_of _ (by decide +kernel)) ggX5_before_X5_restOf
theorem dX5_before_0 : decode cX5_before 0 = .ok (.aload_n 0, 1) := by decide +kernel
theorem dX5_before_1 : decode cX5_before 1 = .ok (.iload_n 3, 1) := by decide +kernel
theorem dX5_before_2 : decode cX5_before 2 = .ok (.invokevirtual 52, 3) := by decide +kernel
theorem dX5_before_5 : decode cX5_before 5 = .ok (.lstore 4, 2) := by decide +kernel
theorem dX5_before_7 : decode cX5_before 7 = .ok (.lload 4, 2) := by decide +kernel
theorem dX5_before_9 : decode cX5_before 9 = .ok (.lconst 0, 1) := by decide +kernel
theorem dX5_before_10 : decode cX5_before 10 = .ok (.lcmp, 1) := by decide +kernel
theorem dX5_before_11 : decode cX5_before 11 = .ok (.ifCond .ne 7, 3) := by decide +kernel
theorem dX5_before_14 : decode cX5_before 14 = .ok (.ldc2_w 79, 3) := by decide +kernel
theorem dX5_before_17 : decode cX5_before 17 = .ok (.lreturn, 1) := by decide +kernel
theorem dX5_before_18 : decode cX5_before 18 = .ok (.aload_n 0, 1) := by decide +kernel
theorem dX5_before_19 : decode cX5_before 19 = .ok (.iload_n 3, 1) := by decide +kernel
theorem dX5_before_20 : decode cX5_before 20 = .ok (.invokevirtual 59, 3) := by decide +kernel
theorem dX5_before_23 : decode cX5_before 23 = .ok (.lload_n 1, 1) := by decide +kernel
theorem dX5_before_24 : decode cX5_before 24 = .ok (.lmul, 1) := by decide +kernel
theorem dX5_before_25 : decode cX5_before 25 = .ok (.aload_n 0, 1) := by decide +kernel
theorem dX5_before_26 : decode cX5_before 26 = .ok (.iload_n 3, 1) := by decide +kernel
theorem dX5_before_27 : decode cX5_before 27 = .ok (.invokevirtual 56, 3) := by decide +kernel
theorem dX5_before_30 : decode cX5_before 30 = .ok (.lsub, 1) := by decide +kernel
theorem dX5_before_31 : decode cX5_before 31 = .ok (.lstore 6, 2) := by decide +kernel
theorem dX5_before_33 : decode cX5_before 33 = .ok (.lload 6, 2) := by decide +kernel
theorem dX5_before_35 : decode cX5_before 35 = .ok (.lload 4, 2) := by decide +kernel
theorem dX5_before_37 : decode cX5_before 37 = .ok (.lrem, 1) := by decide +kernel
theorem dX5_before_38 : decode cX5_before 38 = .ok (.lconst 0, 1) := by decide +kernel
theorem dX5_before_39 : decode cX5_before 39 = .ok (.lcmp, 1) := by decide +kernel
theorem dX5_before_40 : decode cX5_before 40 = .ok (.ifCond .eq 7, 3) := by decide +kernel
theorem dX5_before_43 : decode cX5_before 43 = .ok (.ldc2_w 79, 3) := by decide +kernel
theorem dX5_before_46 : decode cX5_before 46 = .ok (.lreturn, 1) := by decide +kernel
theorem dX5_before_47 : decode cX5_before 47 = .ok (.lload 6, 2) := by decide +kernel
theorem dX5_before_49 : decode cX5_before 49 = .ok (.lload 4, 2) := by decide +kernel
theorem dX5_before_51 : decode cX5_before 51 = .ok (.ldiv, 1) := by decide +kernel
theorem dX5_before_52 : decode cX5_before 52 = .ok (.lstore 8, 2) := by decide +kernel
theorem dX5_before_54 : decode cX5_before 54 = .ok (.lload 8, 2) := by decide +kernel
theorem dX5_before_56 : decode cX5_before 56 = .ok (.invokestatic 76, 3) := by decide +kernel
theorem dX5_before_59 : decode cX5_before 59 = .ok (.ifCond .eq 18, 3) := by decide +kernel
theorem dX5_before_62 : decode cX5_before 62 = .ok (.aload_n 0, 1) := by decide +kernel
theorem dX5_before_63 : decode cX5_before 63 = .ok (.lload 8, 2) := by decide +kernel
theorem dX5_before_65 : decode cX5_before 65 = .ok (.invokevirtual 72, 3) := by decide +kernel
theorem dX5_before_68 : decode cX5_before 68 = .ok (.iload_n 3, 1) := by decide +kernel
theorem dX5_before_69 : decode cX5_before 69 = .ok (.if_icmp .ne 8, 3) := by decide +kernel
theorem dX5_before_72 : decode cX5_before 72 = .ok (.lload 8, 2) := by decide +kernel
theorem dX5_before_74 : decode cX5_before 74 = .ok (.goto 6, 3) := by decide +kernel
theorem dX5_before_77 : decode cX5_before 77 = .ok (.ldc2_w 79, 3) := by decide +kernel
theorem dX5_before_80 : decode cX5_before 80 = .ok (.lreturn, 1) := by decide +kernel
set_option maxRecDepth 20000 in
theorem ggX5_hasNoShare_X5_a : GoodIn wsX5_hasNoShare wsX5_a := goodIn_r _ [6, 7, 8, 9, 10, 5, 11, 1, 12, 13, 14, 15] (by decide +kernel) (by decide +kernel)
set_option maxRecDepth 20000 in
theorem gX5_hasNoShare_X5_a : GoodIn wsX5_hasNoShare (wsV RX5 52 RX5 yX5_a wsX5_a) := goodIn_app (goodIn_of _ (by decide +kernel)) ggX5_hasNoShare_X5_a
theorem dX5_hasNoShare_0 : decode cX5_hasNoShare 0 = .ok (.iconst 0, 1) := by decide +kernel
theorem dX5_hasNoShare_1 : decode cX5_hasNoShare 1 = .ok (.istore_n 1, 1) := by decide +kernel
theorem dX5_hasNoShare_2 : decode cX5_hasNoShare 2 = .ok (.iload_n 1, 1) := by decide +kernel
theorem dX5_hasNoShare_3 : decode cX5_hasNoShare 3 = .ok (.aload_n 0, 1) := by decide +kernel
theorem dX5_hasNoShare_4 : decode cX5_hasNoShare 4 = .ok (.getfield 9, 3) := by decide +kernel
theorem dX5_hasNoShare_7 : decode cX5_hasNoShare 7 = .ok (.if_icmp .ge 21, 3) := by decide +kernel
theorem dX5_hasNoShare_10 : decode cX5_hasNoShare 10 = .ok (.aload_n 0, 1) := by decide +kernel
theorem dX5_hasNoShare_11 : decode cX5_hasNoShare 11 = .ok (.iload_n 1, 1) := by decide +kernel
theorem dX5_hasNoShare_12 : decode cX5_hasNoShare 12 = .ok (.invokevirtual 52, 3) := by decide +kernel
theorem dX5_hasNoShare_15 : decode cX5_hasNoShare 15 = .ok (.lconst 0, 1) := by decide +kernel
theorem dX5_hasNoShare_16 : decode cX5_hasNoShare 16 = .ok (.lcmp, 1) := by decide +kernel
theorem dX5_hasNoShare_17 : decode cX5_hasNoShare 17 = .ok (.ifCond .ne 5, 3) := by decide +kernel
theorem dX5_hasNoShare_20 : decode cX5_hasNoShare 20 = .ok (.iconst 1, 1) := by decide +kernel
theorem dX5_hasNoShare_21 : decode cX5_hasNoShare 21 = .ok (.ireturn, 1) := by decide +kernel
theorem dX5_hasNoShare_22 : decode cX5_hasNoShare 22 = .ok (.iinc 1 1, 3) := by decide +kernel
theorem dX5_hasNoShare_25 : decode cX5_hasNoShare 25 = .ok (.goto (-23), 3) := by decide +kernel
theorem dX5_hasNoShare_28 : decode cX5_hasNoShare 28 = .ok (.iconst 0, 1) := by decide +kernel
theorem dX5_hasNoShare_29 : decode cX5_hasNoShare 29 = .ok (.ireturn, 1) := by decide +kernel
set_option maxRecDepth 20000 in
theorem ggX5_first_X5_a : GoodIn wsX5_first wsX5_a := goodIn_r _ [5, 6, 7, 8, 9, 4, 10, 11, 22, 23, 24, 25] (by decide +kernel) (by decide +kernel)
set_option maxRecDepth 20000 in
theorem gX5_first_X5_a : GoodIn wsX5_first (wsV RX5 52 RX5 yX5_a wsX5_a) := goodIn_app (goodIn_of _ (by decide +kernel)) ggX5_first_X5_a
set_option maxRecDepth 20000 in
theorem ggX5_first_X5_b : GoodIn wsX5_first wsX5_b := goodIn_r _ [15, 16, 7, 8, 9, 4, 10, 11, 22, 23, 24, 25] (by decide +kernel) (by decide +kernel)
set_option maxRecDepth 20000 in
theorem gX5_first_X5_b : GoodIn wsX5_first (wsV RX5 56 RX5 yX5_b wsX5_b) := goodIn_app (goodIn_of _ (by decide +kernel)) ggX5_first_X5_b
set_option maxRecDepth 20000 in
theorem ggX5_first_X5_d : GoodIn wsX5_first wsX5_d := goodIn_r _ [20, 21, 7, 8, 9, 4, 10, 11, 22, 23, 24, 25] (by decide +kernel) (by decide +kernel)
set_option maxRecDepth 20000 in
theorem gX5_first_X5_d : GoodIn wsX5_first (wsV RX5 59 RX5 yX5_d wsX5_d) := goodIn_app (goodIn_of _ (by decide +kernel)) ggX5_first_X5_d
theorem dX5_first_0 : decode cX5_first 0 = .ok (.aload_n 0, 1) := by decide +kernel
theorem dX5_first_1 : decode cX5_first 1 = .ok (.iload_n 1, 1) := by decide +kernel
theorem dX5_first_2 : decode cX5_first 2 = .ok (.invokevirtual 52, 3) := by decide +kernel
theorem dX5_first_5 : decode cX5_first 5 = .ok (.iload_n 1, 1) := by decide +kernel
theorem dX5_first_6 : decode cX5_first 6 = .ok (.i2l, 1) := by decide +kernel
theorem dX5_first_7 : decode cX5_first 7 = .ok (.lmul, 1) := by decide +kernel
theorem dX5_first_8 : decode cX5_first 8 = .ok (.aload_n 0, 1) := by decide +kernel
theorem dX5_first_9 : decode cX5_first 9 = .ok (.iload_n 1, 1) := by decide +kernel
theorem dX5_first_10 : decode cX5_first 10 = .ok (.invokevirtual 56, 3) := by decide +kernel
theorem dX5_first_13 : decode cX5_first 13 = .ok (.ladd, 1) := by decide +kernel
theorem dX5_first_14 : decode cX5_first 14 = .ok (.aload_n 0, 1) := by decide +kernel
theorem dX5_first_15 : decode cX5_first 15 = .ok (.iload_n 1, 1) := by decide +kernel
theorem dX5_first_16 : decode cX5_first 16 = .ok (.invokevirtual 59, 3) := by decide +kernel
theorem dX5_first_19 : decode cX5_first 19 = .ok (.ldiv, 1) := by decide +kernel
theorem dX5_first_20 : decode cX5_first 20 = .ok (.lreturn, 1) := by decide +kernel
set_option maxRecDepth 20000 in
theorem ggX5_stride_X5_a : GoodIn wsX5_stride wsX5_a := goodIn_r _ [10, 11, 12, 13, 14, 9, 15, 1, 21, 22, 23, 24] (by decide +kernel) (by decide +kernel)
set_option maxRecDepth 20000 in
theorem gX5_stride_X5_a : GoodIn wsX5_stride (wsV RX5 52 RX5 yX5_a wsX5_a) := goodIn_app (goodIn_of _ (by decide +kernel)) ggX5_stride_X5_a
set_option maxRecDepth 20000 in
theorem ggX5_stride_X5_d : GoodIn wsX5_stride wsX5_d := goodIn_r _ [19, 20, 12, 13, 14, 9, 15, 1, 21, 22, 23, 24] (by decide +kernel) (by decide +kernel)
set_option maxRecDepth 20000 in
theorem gX5_stride_X5_d : GoodIn wsX5_stride (wsV RX5 59 RX5 yX5_d wsX5_d) := goodIn_app (goodIn_of _ (by decide +kernel)) ggX5_stride_X5_d
theorem dX5_stride_0 : decode cX5_stride 0 = .ok (.aload_n 0, 1) := by decide +kernel
theorem dX5_stride_1 : decode cX5_stride 1 = .ok (.iload_n 1, 1) := by decide +kernel
theorem dX5_stride_2 : decode cX5_stride 2 = .ok (.invokevirtual 52, 3) := by decide +kernel
theorem dX5_stride_5 : decode cX5_stride 5 = .ok (.aload_n 0, 1) := by decide +kernel
theorem dX5_stride_6 : decode cX5_stride 6 = .ok (.getfield 9, 3) := by decide +kernel
theorem dX5_stride_9 : decode cX5_stride 9 = .ok (.i2l, 1) := by decide +kernel
theorem dX5_stride_10 : decode cX5_stride 10 = .ok (.lmul, 1) := by decide +kernel
theorem dX5_stride_11 : decode cX5_stride 11 = .ok (.aload_n 0, 1) := by decide +kernel
theorem dX5_stride_12 : decode cX5_stride 12 = .ok (.iload_n 1, 1) := by decide +kernel
theorem dX5_stride_13 : decode cX5_stride 13 = .ok (.invokevirtual 59, 3) := by decide +kernel
theorem dX5_stride_16 : decode cX5_stride 16 = .ok (.ldiv, 1) := by decide +kernel
theorem dX5_stride_17 : decode cX5_stride 17 = .ok (.invokestatic 81, 3) := by decide +kernel
theorem dX5_stride_20 : decode cX5_stride 20 = .ok (.lreturn, 1) := by decide +kernel
set_option maxRecDepth 20000 in
theorem ggX5_commonStride_X5_stride : GoodIn wsX5_commonStride wsX5_stride := goodIn_ca (goodIn_r _ [12, 1, 13, 14, 6, 15, 16, 17, 18, 11, 19, 20, 21, 22, 23, 24, 25, 26, 27, 28, 29, 34, 35, 36, 37] (by decide +kernel) (by decide +kernel)) (goodIn_sub (fun _ h => List.mem_cons_of_mem _ (List.mem_append_right _ h)) (by decide +kernel))
set_option maxRecDepth 20000 in
theorem gX5_commonStride_X5_stride : GoodIn wsX5_commonStride (wsV RX5 87 RX5 yX5_stride wsX5_stride) := goodIn_app (goodIn_of _ (by decide +kernel)) ggX5_commonStride_X5_stride
set_option maxRecDepth 20000 in
theorem ggX5_commonStride_X7_commonDivisor : GoodIn wsX5_commonStride wsX7_commonDivisor := goodIn_ca (goodIn_r _ [32, 33, 14, 6, 15] (by decide +kernel) (by decide +kernel)) (goodIn_sub (fun _ h => List.mem_cons_of_mem _ (List.mem_append_right _ h)) (by decide +kernel))
set_option maxRecDepth 20000 in
theorem gX5_commonStride_X7_commonDivisor_n90 : GoodIn wsX5_commonStride (wsX7_commonDivisor) := ggX5_commonStride_X7_commonDivisor
theorem dX5_commonStride_0 : decode cX5_commonStride 0 = .ok (.lconst 1, 1) := by decide +kernel
theorem dX5_commonStride_1 : decode cX5_commonStride 1 = .ok (.lstore_n 1, 1) := by decide +kernel
theorem dX5_commonStride_2 : decode cX5_commonStride 2 = .ok (.iconst 0, 1) := by decide +kernel
theorem dX5_commonStride_3 : decode cX5_commonStride 3 = .ok (.istore_n 3, 1) := by decide +kernel
theorem dX5_commonStride_4 : decode cX5_commonStride 4 = .ok (.iload_n 3, 1) := by decide +kernel
theorem dX5_commonStride_5 : decode cX5_commonStride 5 = .ok (.aload_n 0, 1) := by decide +kernel
theorem dX5_commonStride_6 : decode cX5_commonStride 6 = .ok (.getfield 9, 3) := by decide +kernel
theorem dX5_commonStride_9 : decode cX5_commonStride 9 = .ok (.if_icmp .ge 43, 3) := by decide +kernel
theorem dX5_commonStride_12 : decode cX5_commonStride 12 = .ok (.lload_n 1, 1) := by decide +kernel
theorem dX5_commonStride_13 : decode cX5_commonStride 13 = .ok (.ldc2_w 85, 3) := by decide +kernel
theorem dX5_commonStride_16 : decode cX5_commonStride 16 = .ok (.lcmp, 1) := by decide +kernel
theorem dX5_commonStride_17 : decode cX5_commonStride 17 = .ok (.ifCond .gt 35, 3) := by decide +kernel
theorem dX5_commonStride_20 : decode cX5_commonStride 20 = .ok (.aload_n 0, 1) := by decide +kernel
theorem dX5_commonStride_21 : decode cX5_commonStride 21 = .ok (.iload_n 3, 1) := by decide +kernel
theorem dX5_commonStride_22 : decode cX5_commonStride 22 = .ok (.invokevirtual 87, 3) := by decide +kernel
theorem dX5_commonStride_25 : decode cX5_commonStride 25 = .ok (.lstore 4, 2) := by decide +kernel
theorem dX5_commonStride_27 : decode cX5_commonStride 27 = .ok (.lload 4, 2) := by decide +kernel
theorem dX5_commonStride_29 : decode cX5_commonStride 29 = .ok (.lconst 0, 1) := by decide +kernel
theorem dX5_commonStride_30 : decode cX5_commonStride 30 = .ok (.lcmp, 1) := by decide +kernel
theorem dX5_commonStride_31 : decode cX5_commonStride 31 = .ok (.ifCond .le 15, 3) := by decide +kernel
theorem dX5_commonStride_34 : decode cX5_commonStride 34 = .ok (.lload_n 1, 1) := by decide +kernel
theorem dX5_commonStride_35 : decode cX5_commonStride 35 = .ok (.lload_n 1, 1) := by decide +kernel
theorem dX5_commonStride_36 : decode cX5_commonStride 36 = .ok (.lload 4, 2) := by decide +kernel
theorem dX5_commonStride_38 : decode cX5_commonStride 38 = .ok (.invokestatic 90, 3) := by decide +kernel
theorem dX5_commonStride_41 : decode cX5_commonStride 41 = .ok (.ldiv, 1) := by decide +kernel
theorem dX5_commonStride_42 : decode cX5_commonStride 42 = .ok (.lload 4, 2) := by decide +kernel
theorem dX5_commonStride_44 : decode cX5_commonStride 44 = .ok (.lmul, 1) := by decide +kernel
theorem dX5_commonStride_45 : decode cX5_commonStride 45 = .ok (.lstore_n 1, 1) := by decide +kernel
theorem dX5_commonStride_46 : decode cX5_commonStride 46 = .ok (.iinc 3 1, 3) := by decide +kernel
theorem dX5_commonStride_49 : decode cX5_commonStride 49 = .ok (.goto (-45), 3) := by decide +kernel
theorem dX5_commonStride_52 : decode cX5_commonStride 52 = .ok (.lload_n 1, 1) := by decide +kernel
theorem dX5_commonStride_53 : decode cX5_commonStride 53 = .ok (.ldc2_w 93, 3) := by decide +kernel
theorem dX5_commonStride_56 : decode cX5_commonStride 56 = .ok (.invokestatic 95, 3) := by decide +kernel
theorem dX5_commonStride_59 : decode cX5_commonStride 59 = .ok (.l2i, 1) := by decide +kernel
theorem dX5_commonStride_60 : decode cX5_commonStride 60 = .ok (.ireturn, 1) := by decide +kernel
set_option maxRecDepth 20000 in
theorem ggX5_fillsOnce_X5_stride : GoodIn wsX5_fillsOnce wsX5_stride := goodIn_ca (goodIn_r _ [10, 1, 11, 12, 4, 13, 14, 15, 16, 9, 17, 18, 19, 20, 21, 22, 23, 24, 25, 26, 27, 41, 42, 43, 44] (by decide +kernel) (by decide +kernel)) (goodIn_sub (fun _ h => List.mem_cons_of_mem _ (List.mem_append_right _ h)) (by decide +kernel))
set_option maxRecDepth 20000 in
theorem gX5_fillsOnce_X5_stride : GoodIn wsX5_fillsOnce (wsV RX5 87 RX5 yX5_stride wsX5_stride) := goodIn_app (goodIn_of _ (by decide +kernel)) ggX5_fillsOnce_X5_stride
set_option maxRecDepth 20000 in
theorem ggX5_fillsOnce_X5_first : GoodIn wsX5_fillsOnce wsX5_first := goodIn_ca (goodIn_r _ [31, 14, 15, 16, 9, 17, 18, 19, 20, 21, 22, 1, 32, 33, 34, 35, 36, 23, 24, 25, 26, 27, 41, 42, 43, 44] (by decide +kernel) (by decide +kernel)) (goodIn_sub (fun _ h => List.mem_cons_of_mem _ (List.mem_append_right _ h)) (by decide +kernel))
set_option maxRecDepth 20000 in
theorem gX5_fillsOnce_X5_first : GoodIn wsX5_fillsOnce (wsV RX5 101 RX5 yX5_first wsX5_first) := goodIn_app (goodIn_of _ (by decide +kernel)) ggX5_fillsOnce_X5_first
set_option maxRecDepth 20000 in
theorem ggX5_fillsOnce_X7_commonDivisor : GoodIn wsX5_fillsOnce wsX7_commonDivisor := goodIn_ca (goodIn_r _ [39, 40, 12, 4, 13] (by decide +kernel) (by decide +kernel)) (goodIn_sub (fun _ h => List.mem_cons_of_mem _ (List.mem_append_right _ h)) (by decide +kernel))
set_option maxRecDepth 20000 in
theorem gX5_fillsOnce_X7_commonDivisor_n90 : GoodIn wsX5_fillsOnce (wsX7_commonDivisor) := ggX5_fillsOnce_X7_commonDivisor
theorem dX5_fillsOnce_0 : decode cX5_fillsOnce 0 = .ok (.lconst 0, 1) := by decide +kernel
theorem dX5_fillsOnce_1 : decode cX5_fillsOnce 1 = .ok (.lstore_n 2, 1) := by decide +kernel
theorem dX5_fillsOnce_2 : decode cX5_fillsOnce 2 = .ok (.iconst 0, 1) := by decide +kernel
theorem dX5_fillsOnce_3 : decode cX5_fillsOnce 3 = .ok (.istore 4, 2) := by decide +kernel
theorem dX5_fillsOnce_5 : decode cX5_fillsOnce 5 = .ok (.iload 4, 2) := by decide +kernel
theorem dX5_fillsOnce_7 : decode cX5_fillsOnce 7 = .ok (.aload_n 0, 1) := by decide +kernel
theorem dX5_fillsOnce_8 : decode cX5_fillsOnce 8 = .ok (.getfield 9, 3) := by decide +kernel
theorem dX5_fillsOnce_11 : decode cX5_fillsOnce 11 = .ok (.if_icmp .ge 77, 3) := by decide +kernel
theorem dX5_fillsOnce_14 : decode cX5_fillsOnce 14 = .ok (.lload_n 2, 1) := by decide +kernel
theorem dX5_fillsOnce_15 : decode cX5_fillsOnce 15 = .ok (.iload_n 1, 1) := by decide +kernel
theorem dX5_fillsOnce_16 : decode cX5_fillsOnce 16 = .ok (.i2l, 1) := by decide +kernel
theorem dX5_fillsOnce_17 : decode cX5_fillsOnce 17 = .ok (.aload_n 0, 1) := by decide +kernel
theorem dX5_fillsOnce_18 : decode cX5_fillsOnce 18 = .ok (.iload 4, 2) := by decide +kernel
theorem dX5_fillsOnce_20 : decode cX5_fillsOnce 20 = .ok (.invokevirtual 87, 3) := by decide +kernel
theorem dX5_fillsOnce_23 : decode cX5_fillsOnce 23 = .ok (.lconst 1, 1) := by decide +kernel
theorem dX5_fillsOnce_24 : decode cX5_fillsOnce 24 = .ok (.invokestatic 98, 3) := by decide +kernel
theorem dX5_fillsOnce_27 : decode cX5_fillsOnce 27 = .ok (.ldiv, 1) := by decide +kernel
theorem dX5_fillsOnce_28 : decode cX5_fillsOnce 28 = .ok (.ladd, 1) := by decide +kernel
theorem dX5_fillsOnce_29 : decode cX5_fillsOnce 29 = .ok (.lstore_n 2, 1) := by decide +kernel
theorem dX5_fillsOnce_30 : decode cX5_fillsOnce 30 = .ok (.iconst 0, 1) := by decide +kernel
theorem dX5_fillsOnce_31 : decode cX5_fillsOnce 31 = .ok (.istore 5, 2) := by decide +kernel
theorem dX5_fillsOnce_33 : decode cX5_fillsOnce 33 = .ok (.iload 5, 2) := by decide +kernel
theorem dX5_fillsOnce_35 : decode cX5_fillsOnce 35 = .ok (.iload 4, 2) := by decide +kernel
theorem dX5_fillsOnce_37 : decode cX5_fillsOnce 37 = .ok (.if_icmp .ge 45, 3) := by decide +kernel
theorem dX5_fillsOnce_40 : decode cX5_fillsOnce 40 = .ok (.aload_n 0, 1) := by decide +kernel
theorem dX5_fillsOnce_41 : decode cX5_fillsOnce 41 = .ok (.iload 4, 2) := by decide +kernel
theorem dX5_fillsOnce_43 : decode cX5_fillsOnce 43 = .ok (.invokevirtual 101, 3) := by decide +kernel
theorem dX5_fillsOnce_46 : decode cX5_fillsOnce 46 = .ok (.aload_n 0, 1) := by decide +kernel
theorem dX5_fillsOnce_47 : decode cX5_fillsOnce 47 = .ok (.iload 5, 2) := by decide +kernel
theorem dX5_fillsOnce_49 : decode cX5_fillsOnce 49 = .ok (.invokevirtual 101, 3) := by decide +kernel
theorem dX5_fillsOnce_52 : decode cX5_fillsOnce 52 = .ok (.lsub, 1) := by decide +kernel
theorem dX5_fillsOnce_53 : decode cX5_fillsOnce 53 = .ok (.aload_n 0, 1) := by decide +kernel
theorem dX5_fillsOnce_54 : decode cX5_fillsOnce 54 = .ok (.iload 4, 2) := by decide +kernel
theorem dX5_fillsOnce_56 : decode cX5_fillsOnce 56 = .ok (.invokevirtual 87, 3) := by decide +kernel
theorem dX5_fillsOnce_59 : decode cX5_fillsOnce 59 = .ok (.aload_n 0, 1) := by decide +kernel
theorem dX5_fillsOnce_60 : decode cX5_fillsOnce 60 = .ok (.iload 5, 2) := by decide +kernel
theorem dX5_fillsOnce_62 : decode cX5_fillsOnce 62 = .ok (.invokevirtual 87, 3) := by decide +kernel
theorem dX5_fillsOnce_65 : decode cX5_fillsOnce 65 = .ok (.invokestatic 90, 3) := by decide +kernel
theorem dX5_fillsOnce_68 : decode cX5_fillsOnce 68 = .ok (.lrem, 1) := by decide +kernel
theorem dX5_fillsOnce_69 : decode cX5_fillsOnce 69 = .ok (.lconst 0, 1) := by decide +kernel
theorem dX5_fillsOnce_70 : decode cX5_fillsOnce 70 = .ok (.lcmp, 1) := by decide +kernel
theorem dX5_fillsOnce_71 : decode cX5_fillsOnce 71 = .ok (.ifCond .ne 5, 3) := by decide +kernel
theorem dX5_fillsOnce_74 : decode cX5_fillsOnce 74 = .ok (.iconst 0, 1) := by decide +kernel
theorem dX5_fillsOnce_75 : decode cX5_fillsOnce 75 = .ok (.ireturn, 1) := by decide +kernel
theorem dX5_fillsOnce_76 : decode cX5_fillsOnce 76 = .ok (.iinc 5 1, 3) := by decide +kernel
theorem dX5_fillsOnce_79 : decode cX5_fillsOnce 79 = .ok (.goto (-46), 3) := by decide +kernel
theorem dX5_fillsOnce_82 : decode cX5_fillsOnce 82 = .ok (.iinc 4 1, 3) := by decide +kernel
theorem dX5_fillsOnce_85 : decode cX5_fillsOnce 85 = .ok (.goto (-80), 3) := by decide +kernel
theorem dX5_fillsOnce_88 : decode cX5_fillsOnce 88 = .ok (.lload_n 2, 1) := by decide +kernel
theorem dX5_fillsOnce_89 : decode cX5_fillsOnce 89 = .ok (.iload_n 1, 1) := by decide +kernel
theorem dX5_fillsOnce_90 : decode cX5_fillsOnce 90 = .ok (.i2l, 1) := by decide +kernel
theorem dX5_fillsOnce_91 : decode cX5_fillsOnce 91 = .ok (.lcmp, 1) := by decide +kernel
theorem dX5_fillsOnce_92 : decode cX5_fillsOnce 92 = .ok (.ifCond .ne 7, 3) := by decide +kernel
theorem dX5_fillsOnce_95 : decode cX5_fillsOnce 95 = .ok (.iconst 1, 1) := by decide +kernel
theorem dX5_fillsOnce_96 : decode cX5_fillsOnce 96 = .ok (.goto 4, 3) := by decide +kernel
theorem dX5_fillsOnce_99 : decode cX5_fillsOnce 99 = .ok (.iconst 0, 1) := by decide +kernel
theorem dX5_fillsOnce_100 : decode cX5_fillsOnce 100 = .ok (.ireturn, 1) := by decide +kernel
set_option maxRecDepth 20000 in
theorem ggX5_restThatComesTo_X5_first : GoodIn wsX5_restThatComesTo wsX5_first := goodIn_ca (goodIn_r _ [10, 11, 12, 13, 9, 14, 15, 16, 17, 18, 19, 1, 20, 21, 22, 23, 24, 25, 26, 27, 28, 29, 37, 38, 39, 40] (by decide +kernel) (by decide +kernel)) (goodIn_sub (fun _ h => List.mem_cons_of_mem _ (List.mem_append_right _ h)) (by decide +kernel))
set_option maxRecDepth 20000 in
theorem gX5_restThatComesTo_X5_first : GoodIn wsX5_restThatComesTo (wsV RX5 101 RX5 yX5_first wsX5_first) := goodIn_app (goodIn_of _ (by decide +kernel)) ggX5_restThatComesTo_X5_first
set_option maxRecDepth 20000 in
theorem ggX5_restThatComesTo_X5_stride : GoodIn wsX5_restThatComesTo wsX5_stride := goodIn_ca (goodIn_r _ [33, 1, 34, 35, 4, 36, 11, 12, 13, 9, 14, 15, 16, 17, 18, 19, 25, 26, 27, 28, 29, 37, 38, 39, 40] (by decide +kernel) (by decide +kernel)) (goodIn_sub (fun _ h => List.mem_cons_of_mem _ (List.mem_append_right _ h)) (by decide +kernel))
set_option maxRecDepth 20000 in
theorem gX5_restThatComesTo_X5_stride : GoodIn wsX5_restThatComesTo (wsV RX5 87 RX5 yX5_stride wsX5_stride) := goodIn_app (goodIn_of _ (by decide +kernel)) ggX5_restThatComesTo_X5_stride
theorem dX5_restThatComesTo_0 : decode cX5_restThatComesTo 0 = .ok (.iconst 0, 1) := by decide +kernel
theorem dX5_restThatComesTo_1 : decode cX5_restThatComesTo 1 = .ok (.istore_n 3, 1) := by decide +kernel
theorem dX5_restThatComesTo_2 : decode cX5_restThatComesTo 2 = .ok (.iload_n 3, 1) := by decide +kernel
theorem dX5_restThatComesTo_3 : decode cX5_restThatComesTo 3 = .ok (.aload_n 0, 1) := by decide +kernel
theorem dX5_restThatComesTo_4 : decode cX5_restThatComesTo 4 = .ok (.getfield 9, 3) := by decide +kernel
theorem dX5_restThatComesTo_7 : decode cX5_restThatComesTo 7 = .ok (.if_icmp .ge 33, 3) := by decide +kernel
theorem dX5_restThatComesTo_10 : decode cX5_restThatComesTo 10 = .ok (.lload_n 1, 1) := by decide +kernel
theorem dX5_restThatComesTo_11 : decode cX5_restThatComesTo 11 = .ok (.aload_n 0, 1) := by decide +kernel
theorem dX5_restThatComesTo_12 : decode cX5_restThatComesTo 12 = .ok (.iload_n 3, 1) := by decide +kernel
theorem dX5_restThatComesTo_13 : decode cX5_restThatComesTo 13 = .ok (.invokevirtual 101, 3) := by decide +kernel
theorem dX5_restThatComesTo_16 : decode cX5_restThatComesTo 16 = .ok (.lsub, 1) := by decide +kernel
theorem dX5_restThatComesTo_17 : decode cX5_restThatComesTo 17 = .ok (.aload_n 0, 1) := by decide +kernel
theorem dX5_restThatComesTo_18 : decode cX5_restThatComesTo 18 = .ok (.iload_n 3, 1) := by decide +kernel
theorem dX5_restThatComesTo_19 : decode cX5_restThatComesTo 19 = .ok (.invokevirtual 87, 3) := by decide +kernel
theorem dX5_restThatComesTo_22 : decode cX5_restThatComesTo 22 = .ok (.lconst 1, 1) := by decide +kernel
theorem dX5_restThatComesTo_23 : decode cX5_restThatComesTo 23 = .ok (.invokestatic 98, 3) := by decide +kernel
theorem dX5_restThatComesTo_26 : decode cX5_restThatComesTo 26 = .ok (.lrem, 1) := by decide +kernel
theorem dX5_restThatComesTo_27 : decode cX5_restThatComesTo 27 = .ok (.lconst 0, 1) := by decide +kernel
theorem dX5_restThatComesTo_28 : decode cX5_restThatComesTo 28 = .ok (.lcmp, 1) := by decide +kernel
theorem dX5_restThatComesTo_29 : decode cX5_restThatComesTo 29 = .ok (.ifCond .ne 5, 3) := by decide +kernel
theorem dX5_restThatComesTo_32 : decode cX5_restThatComesTo 32 = .ok (.iload_n 3, 1) := by decide +kernel
theorem dX5_restThatComesTo_33 : decode cX5_restThatComesTo 33 = .ok (.ireturn, 1) := by decide +kernel
theorem dX5_restThatComesTo_34 : decode cX5_restThatComesTo 34 = .ok (.iinc 3 1, 3) := by decide +kernel
theorem dX5_restThatComesTo_37 : decode cX5_restThatComesTo 37 = .ok (.goto (-35), 3) := by decide +kernel
theorem dX5_restThatComesTo_40 : decode cX5_restThatComesTo 40 = .ok (.iconst 0, 1) := by decide +kernel
theorem dX5_restThatComesTo_41 : decode cX5_restThatComesTo 41 = .ok (.ireturn, 1) := by decide +kernel
set_option maxRecDepth 20000 in
theorem ggX6_init_X2_init : GoodIn wsX6_init wsX2_init := goodIn_r _ [11, 12, 2, 3, 13, 14, 15, 16, 17, 18, 19, 22, 23] (by decide +kernel) (by decide +kernel)
set_option maxRecDepth 20000 in
theorem gX6_init_X2_init : GoodIn wsX6_init (wsX2_init) := ggX6_init_X2_init
theorem dX6_init_0 : decode cX6_init 0 = .ok (.aload_n 0, 1) := by decide +kernel
theorem dX6_init_1 : decode cX6_init 1 = .ok (.invokespecial 3, 3) := by decide +kernel
theorem dX6_init_4 : decode cX6_init 4 = .ok (.aload_n 0, 1) := by decide +kernel
theorem dX6_init_5 : decode cX6_init 5 = .ok (.iconst (-1), 1) := by decide +kernel
theorem dX6_init_6 : decode cX6_init 6 = .ok (.putfield 11, 3) := by decide +kernel
theorem dX6_init_9 : decode cX6_init 9 = .ok (.aload_n 0, 1) := by decide +kernel
theorem dX6_init_10 : decode cX6_init 10 = .ok (.new 15, 3) := by decide +kernel
theorem dX6_init_13 : decode cX6_init 13 = .ok (.dup, 1) := by decide +kernel
theorem dX6_init_14 : decode cX6_init 14 = .ok (.bipush 64, 2) := by decide +kernel
theorem dX6_init_16 : decode cX6_init 16 = .ok (.invokespecial 17, 3) := by decide +kernel
theorem dX6_init_19 : decode cX6_init 19 = .ok (.putfield 20, 3) := by decide +kernel
theorem dX6_init_22 : decode cX6_init 22 = .ok (.return_, 1) := by decide +kernel
set_option maxRecDepth 20000 in
theorem ggX6_begin_X2_zeros : GoodIn wsX6_begin wsX2_zeros := goodIn_r _ [7, 8, 9, 10, 11, 6, 12, 13, 16, 17] (by decide +kernel) (by decide +kernel)
set_option maxRecDepth 20000 in
theorem gX6_begin_X2_zeros : GoodIn wsX6_begin (wsV RX6 24 RX2 yX2_zeros wsX2_zeros) := goodIn_app (goodIn_of _ (by decide +kernel)) ggX6_begin_X2_zeros
theorem dX6_begin_0 : decode cX6_begin 0 = .ok (.iload_n 1, 1) := by decide +kernel
theorem dX6_begin_1 : decode cX6_begin 1 = .ok (.ifCond .lt 22, 3) := by decide +kernel
theorem dX6_begin_4 : decode cX6_begin 4 = .ok (.iload_n 1, 1) := by decide +kernel
theorem dX6_begin_5 : decode cX6_begin 5 = .ok (.iconst 2, 1) := by decide +kernel
theorem dX6_begin_6 : decode cX6_begin 6 = .ok (.if_icmp .gt 17, 3) := by decide +kernel
theorem dX6_begin_9 : decode cX6_begin 9 = .ok (.iload_n 2, 1) := by decide +kernel
theorem dX6_begin_10 : decode cX6_begin 10 = .ok (.ifCond .lt 13, 3) := by decide +kernel
theorem dX6_begin_13 : decode cX6_begin 13 = .ok (.iload_n 2, 1) := by decide +kernel
theorem dX6_begin_14 : decode cX6_begin 14 = .ok (.bipush 64, 2) := by decide +kernel
theorem dX6_begin_16 : decode cX6_begin 16 = .ok (.if_icmp .gt 7, 3) := by decide +kernel
theorem dX6_begin_19 : decode cX6_begin 19 = .ok (.iconst 1, 1) := by decide +kernel
theorem dX6_begin_20 : decode cX6_begin 20 = .ok (.goto 4, 3) := by decide +kernel
theorem dX6_begin_23 : decode cX6_begin 23 = .ok (.iconst 0, 1) := by decide +kernel
theorem dX6_begin_24 : decode cX6_begin 24 = .ok (.istore_n 3, 1) := by decide +kernel
theorem dX6_begin_25 : decode cX6_begin 25 = .ok (.iload_n 3, 1) := by decide +kernel
theorem dX6_begin_26 : decode cX6_begin 26 = .ok (.ifCond .ne 10, 3) := by decide +kernel
theorem dX6_begin_29 : decode cX6_begin 29 = .ok (.iload_n 1, 1) := by decide +kernel
theorem dX6_begin_30 : decode cX6_begin 30 = .ok (.iconst 3, 1) := by decide +kernel
theorem dX6_begin_31 : decode cX6_begin 31 = .ok (.if_icmp .eq 5, 3) := by decide +kernel
theorem dX6_begin_34 : decode cX6_begin 34 = .ok (.iconst 0, 1) := by decide +kernel
theorem dX6_begin_35 : decode cX6_begin 35 = .ok (.ireturn, 1) := by decide +kernel
theorem dX6_begin_36 : decode cX6_begin 36 = .ok (.aload_n 0, 1) := by decide +kernel
theorem dX6_begin_37 : decode cX6_begin 37 = .ok (.iload_n 1, 1) := by decide +kernel
theorem dX6_begin_38 : decode cX6_begin 38 = .ok (.putfield 11, 3) := by decide +kernel
theorem dX6_begin_41 : decode cX6_begin 41 = .ok (.aload_n 0, 1) := by decide +kernel
theorem dX6_begin_42 : decode cX6_begin 42 = .ok (.getfield 20, 3) := by decide +kernel
theorem dX6_begin_45 : decode cX6_begin 45 = .ok (.iload_n 3, 1) := by decide +kernel
theorem dX6_begin_46 : decode cX6_begin 46 = .ok (.ifCond .eq 7, 3) := by decide +kernel
theorem dX6_begin_49 : decode cX6_begin 49 = .ok (.iload_n 2, 1) := by decide +kernel
theorem dX6_begin_50 : decode cX6_begin 50 = .ok (.goto 4, 3) := by decide +kernel
theorem dX6_begin_53 : decode cX6_begin 53 = .ok (.iconst 0, 1) := by decide +kernel
theorem dX6_begin_54 : decode cX6_begin 54 = .ok (.invokevirtual 24, 3) := by decide +kernel
theorem dX6_begin_57 : decode cX6_begin 57 = .ok (.iconst 1, 1) := by decide +kernel
theorem dX6_begin_58 : decode cX6_begin 58 = .ok (.ireturn, 1) := by decide +kernel
theorem dX6_isThere_0 : decode cX6_isThere 0 = .ok (.aload_n 0, 1) := by decide +kernel
theorem dX6_isThere_1 : decode cX6_isThere 1 = .ok (.getfield 11, 3) := by decide +kernel
theorem dX6_isThere_4 : decode cX6_isThere 4 = .ok (.iconst (-1), 1) := by decide +kernel
theorem dX6_isThere_5 : decode cX6_isThere 5 = .ok (.if_icmp .eq 7, 3) := by decide +kernel
theorem dX6_isThere_8 : decode cX6_isThere 8 = .ok (.iconst 1, 1) := by decide +kernel
theorem dX6_isThere_9 : decode cX6_isThere 9 = .ok (.goto 4, 3) := by decide +kernel
theorem dX6_isThere_12 : decode cX6_isThere 12 = .ok (.iconst 0, 1) := by decide +kernel
theorem dX6_isThere_13 : decode cX6_isThere 13 = .ok (.ireturn, 1) := by decide +kernel
set_option maxRecDepth 20000 in
theorem ggX6_entries_X2_size : GoodIn wsX6_entries wsX2_size := goodIn_r _ [6, 7, 10, 11] (by decide +kernel) (by decide +kernel)
set_option maxRecDepth 20000 in
theorem gX6_entries_X2_size : GoodIn wsX6_entries (wsV RX6 27 RX2 yX2_size wsX2_size) := goodIn_app (goodIn_of _ (by decide +kernel)) ggX6_entries_X2_size
theorem dX6_entries_0 : decode cX6_entries 0 = .ok (.aload_n 0, 1) := by decide +kernel
theorem dX6_entries_1 : decode cX6_entries 1 = .ok (.getfield 20, 3) := by decide +kernel
theorem dX6_entries_4 : decode cX6_entries 4 = .ok (.invokevirtual 27, 3) := by decide +kernel
theorem dX6_entries_7 : decode cX6_entries 7 = .ok (.ireturn, 1) := by decide +kernel
set_option maxRecDepth 20000 in
theorem ggX6_read_X2_at : GoodIn wsX6_read wsX2_at := goodIn_r _ [6, 7, 8, 9, 10, 5, 11, 12, 15, 16] (by decide +kernel) (by decide +kernel)
set_option maxRecDepth 20000 in
theorem gX6_read_X2_at : GoodIn wsX6_read (wsV RX6 31 RX2 yX2_at wsX2_at) := goodIn_app (goodIn_of _ (by decide +kernel)) ggX6_read_X2_at
theorem dX6_read_0 : decode cX6_read 0 = .ok (.aload_n 0, 1) := by decide +kernel
theorem dX6_read_1 : decode cX6_read 1 = .ok (.getfield 20, 3) := by decide +kernel
theorem dX6_read_4 : decode cX6_read 4 = .ok (.iload_n 1, 1) := by decide +kernel
theorem dX6_read_5 : decode cX6_read 5 = .ok (.invokevirtual 31, 3) := by decide +kernel
theorem dX6_read_8 : decode cX6_read 8 = .ok (.lreturn, 1) := by decide +kernel
set_option maxRecDepth 20000 in
theorem ggX6_write_X2_has : GoodIn wsX6_write wsX2_has := goodIn_r _ [7, 8, 9, 17, 18] (by decide +kernel) (by decide +kernel)
set_option maxRecDepth 20000 in
theorem gX6_write_X2_has : GoodIn wsX6_write (wsV RX6 35 RX2 yX2_has wsX2_has) := goodIn_app (goodIn_of _ (by decide +kernel)) ggX6_write_X2_has
set_option maxRecDepth 20000 in
theorem ggX6_write_X2_put : GoodIn wsX6_write wsX2_put := goodIn_r _ [13, 9, 14, 4, 5, 6, 7, 8, 17, 18] (by decide +kernel) (by decide +kernel)
set_option maxRecDepth 20000 in
theorem gX6_write_X2_put : GoodIn wsX6_write (wsV RX6 39 RX2 yX2_put wsX2_put) := goodIn_app (goodIn_of _ (by decide +kernel)) ggX6_write_X2_put
theorem dX6_write_0 : decode cX6_write 0 = .ok (.aload_n 0, 1) := by decide +kernel
theorem dX6_write_1 : decode cX6_write 1 = .ok (.getfield 20, 3) := by decide +kernel
theorem dX6_write_4 : decode cX6_write 4 = .ok (.iload_n 1, 1) := by decide +kernel
theorem dX6_write_5 : decode cX6_write 5 = .ok (.invokevirtual 35, 3) := by decide +kernel
theorem dX6_write_8 : decode cX6_write 8 = .ok (.ifCond .ne 5, 3) := by decide +kernel
theorem dX6_write_11 : decode cX6_write 11 = .ok (.iconst 0, 1) := by decide +kernel
theorem dX6_write_12 : decode cX6_write 12 = .ok (.ireturn, 1) := by decide +kernel
theorem dX6_write_13 : decode cX6_write 13 = .ok (.aload_n 0, 1) := by decide +kernel
theorem dX6_write_14 : decode cX6_write 14 = .ok (.getfield 11, 3) := by decide +kernel
theorem dX6_write_17 : decode cX6_write 17 = .ok (.ifCond .ne 18, 3) := by decide +kernel
theorem dX6_write_20 : decode cX6_write 20 = .ok (.aload_n 0, 1) := by decide +kernel
theorem dX6_write_21 : decode cX6_write 21 = .ok (.getfield 20, 3) := by decide +kernel
theorem dX6_write_24 : decode cX6_write 24 = .ok (.iload_n 1, 1) := by decide +kernel
theorem dX6_write_25 : decode cX6_write 25 = .ok (.lload_n 2, 1) := by decide +kernel
theorem dX6_write_26 : decode cX6_write 26 = .ok (.l2i, 1) := by decide +kernel
theorem dX6_write_27 : decode cX6_write 27 = .ok (.i2b, 1) := by decide +kernel
theorem dX6_write_28 : decode cX6_write 28 = .ok (.i2l, 1) := by decide +kernel
theorem dX6_write_29 : decode cX6_write 29 = .ok (.invokevirtual 39, 3) := by decide +kernel
theorem dX6_write_32 : decode cX6_write 32 = .ok (.goto 34, 3) := by decide +kernel
theorem dX6_write_35 : decode cX6_write 35 = .ok (.aload_n 0, 1) := by decide +kernel
theorem dX6_write_36 : decode cX6_write 36 = .ok (.getfield 11, 3) := by decide +kernel
theorem dX6_write_39 : decode cX6_write 39 = .ok (.iconst 1, 1) := by decide +kernel
theorem dX6_write_40 : decode cX6_write 40 = .ok (.if_icmp .ne 17, 3) := by decide +kernel
theorem dX6_write_43 : decode cX6_write 43 = .ok (.aload_n 0, 1) := by decide +kernel
theorem dX6_write_44 : decode cX6_write 44 = .ok (.getfield 20, 3) := by decide +kernel
theorem dX6_write_47 : decode cX6_write 47 = .ok (.iload_n 1, 1) := by decide +kernel
theorem dX6_write_48 : decode cX6_write 48 = .ok (.lload_n 2, 1) := by decide +kernel
theorem dX6_write_49 : decode cX6_write 49 = .ok (.l2i, 1) := by decide +kernel
theorem dX6_write_50 : decode cX6_write 50 = .ok (.i2l, 1) := by decide +kernel
theorem dX6_write_51 : decode cX6_write 51 = .ok (.invokevirtual 39, 3) := by decide +kernel
theorem dX6_write_54 : decode cX6_write 54 = .ok (.goto 12, 3) := by decide +kernel
theorem dX6_write_57 : decode cX6_write 57 = .ok (.aload_n 0, 1) := by decide +kernel
theorem dX6_write_58 : decode cX6_write 58 = .ok (.getfield 20, 3) := by decide +kernel
theorem dX6_write_61 : decode cX6_write 61 = .ok (.iload_n 1, 1) := by decide +kernel
theorem dX6_write_62 : decode cX6_write 62 = .ok (.lload_n 2, 1) := by decide +kernel
theorem dX6_write_63 : decode cX6_write 63 = .ok (.invokevirtual 39, 3) := by decide +kernel
theorem dX6_write_66 : decode cX6_write 66 = .ok (.iconst 1, 1) := by decide +kernel
theorem dX6_write_67 : decode cX6_write 67 = .ok (.ireturn, 1) := by decide +kernel
set_option maxRecDepth 20000 in
theorem ggX6_drop_X2_empty : GoodIn wsX6_drop wsX2_empty := goodIn_r _ [7, 8, 11, 12] (by decide +kernel) (by decide +kernel)
set_option maxRecDepth 20000 in
theorem gX6_drop_X2_empty : GoodIn wsX6_drop (wsV RX6 43 RX2 yX2_empty wsX2_empty) := goodIn_app (goodIn_of _ (by decide +kernel)) ggX6_drop_X2_empty
theorem dX6_drop_0 : decode cX6_drop 0 = .ok (.aload_n 0, 1) := by decide +kernel
theorem dX6_drop_1 : decode cX6_drop 1 = .ok (.iconst (-1), 1) := by decide +kernel
theorem dX6_drop_2 : decode cX6_drop 2 = .ok (.putfield 11, 3) := by decide +kernel
theorem dX6_drop_5 : decode cX6_drop 5 = .ok (.aload_n 0, 1) := by decide +kernel
theorem dX6_drop_6 : decode cX6_drop 6 = .ok (.getfield 20, 3) := by decide +kernel
theorem dX6_drop_9 : decode cX6_drop 9 = .ok (.invokevirtual 43, 3) := by decide +kernel
theorem dX6_drop_12 : decode cX6_drop 12 = .ok (.return_, 1) := by decide +kernel
set_option maxRecDepth 20000 in
theorem ggX7_init_X5_init : GoodIn wsX7_init wsX5_init := goodIn_r _ [41, 42, 2, 3, 43, 44, 45, 46, 47, 108, 109, 110, 111] (by decide +kernel) (by decide +kernel)
set_option maxRecDepth 20000 in
theorem gX7_init_X5_init_n15 : GoodIn wsX7_init (wsX5_init) := ggX7_init_X5_init
set_option maxRecDepth 20000 in
theorem ggX7_init_X0_init : GoodIn wsX7_init wsX0_init := goodIn_r _ [49, 50, 2, 3, 51, 44, 52, 53, 112, 113, 114] (by decide +kernel) (by decide +kernel)
set_option maxRecDepth 20000 in
theorem gX7_init_X0_init_n28 : GoodIn wsX7_init (wsX0_init) := ggX7_init_X0_init
set_option maxRecDepth 20000 in
theorem ggX7_init_X6_init : GoodIn wsX7_init wsX6_init := goodIn_r _ [55, 56, 2, 3, 57, 58, 20, 21, 59, 60, 61, 62, 63, 64, 65, 66, 67, 68, 44, 69, 115, 116, 117, 118] (by decide +kernel) (by decide +kernel)
set_option maxRecDepth 20000 in
theorem gX7_init_X6_init_n35 : GoodIn wsX7_init (wsX6_init) := ggX7_init_X6_init
set_option maxRecDepth 20000 in
theorem ggX7_init_X2_init : GoodIn wsX7_init wsX2_init := goodIn_r _ [62, 63, 2, 3, 64, 65, 66, 67, 68, 44, 69, 117, 118] (by decide +kernel) (by decide +kernel)
set_option maxRecDepth 20000 in
theorem gX7_init_X2_init : GoodIn wsX7_init (wsX2_init) := ggX7_init_X2_init
set_option maxRecDepth 20000 in
theorem ggX7_init_X4_init : GoodIn wsX7_init wsX4_init := goodIn_r _ [73, 74, 2, 3, 44, 75, 76, 77, 119, 120, 121] (by decide +kernel) (by decide +kernel)
set_option maxRecDepth 20000 in
theorem gX7_init_X4_init : GoodIn wsX7_init (wsX4_init) := ggX7_init_X4_init
set_option maxRecDepth 20000 in
theorem ggX7_init_X3_init : GoodIn wsX7_init wsX3_init := goodIn_r _ [79, 80, 2, 3, 44, 81, 122] (by decide +kernel) (by decide +kernel)
set_option maxRecDepth 20000 in
theorem gX7_init_X3_init_n70 : GoodIn wsX7_init (wsX3_init) := ggX7_init_X3_init
set_option maxRecDepth 20000 in
theorem ggX7_init_X1_init : GoodIn wsX7_init wsX1_init := goodIn_r _ [83, 84, 2, 3, 85, 20, 21, 86, 87, 88, 89, 90, 91, 92, 61, 62, 63, 64, 65, 66, 67, 68, 44, 69, 117, 118, 123, 124, 125, 126, 127, 128] (by decide +kernel) (by decide +kernel)
set_option maxRecDepth 20000 in
theorem gX7_init_X1_init_n80 : GoodIn wsX7_init (wsX1_init) := ggX7_init_X1_init
