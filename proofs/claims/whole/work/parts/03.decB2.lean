theorem dX7_areHeaps_1 : decode cX7_areHeaps 1 = .ok (.invokestatic 376, 3) := by decide +kernel
theorem dX7_areHeaps_4 : decode cX7_areHeaps 4 = .ok (.ifCond .eq 28, 3) := by decide +kernel
theorem dX7_areHeaps_7 : decode cX7_areHeaps 7 = .ok (.iload_n 1, 1) := by decide +kernel
theorem dX7_areHeaps_8 : decode cX7_areHeaps 8 = .ok (.invokestatic 376, 3) := by decide +kernel
theorem dX7_areHeaps_11 : decode cX7_areHeaps 11 = .ok (.ifCond .eq 21, 3) := by decide +kernel
theorem dX7_areHeaps_14 : decode cX7_areHeaps 14 = .ok (.iload_n 2, 1) := by decide +kernel
theorem dX7_areHeaps_15 : decode cX7_areHeaps 15 = .ok (.invokestatic 376, 3) := by decide +kernel
theorem dX7_areHeaps_18 : decode cX7_areHeaps 18 = .ok (.ifCond .eq 14, 3) := by decide +kernel
theorem dX7_areHeaps_21 : decode cX7_areHeaps 21 = .ok (.iload_n 3, 1) := by decide +kernel
theorem dX7_areHeaps_22 : decode cX7_areHeaps 22 = .ok (.invokestatic 376, 3) := by decide +kernel
theorem dX7_areHeaps_25 : decode cX7_areHeaps 25 = .ok (.ifCond .eq 7, 3) := by decide +kernel
theorem dX7_areHeaps_28 : decode cX7_areHeaps 28 = .ok (.iconst 1, 1) := by decide +kernel
theorem dX7_areHeaps_29 : decode cX7_areHeaps 29 = .ok (.goto 4, 3) := by decide +kernel
theorem dX7_areHeaps_32 : decode cX7_areHeaps 32 = .ok (.iconst 0, 1) := by decide +kernel
theorem dX7_areHeaps_33 : decode cX7_areHeaps 33 = .ok (.ireturn, 1) := by decide +kernel
theorem dX7_isHeap_0 : decode cX7_isHeap 0 = .ok (.iload_n 0, 1) := by decide +kernel
theorem dX7_isHeap_1 : decode cX7_isHeap 1 = .ok (.ifCond .lt 14, 3) := by decide +kernel
theorem dX7_isHeap_4 : decode cX7_isHeap 4 = .ok (.iload_n 0, 1) := by decide +kernel
theorem dX7_isHeap_5 : decode cX7_isHeap 5 = .ok (.sipush 1000, 3) := by decide +kernel
theorem dX7_isHeap_8 : decode cX7_isHeap 8 = .ok (.if_icmp .gt 7, 3) := by decide +kernel
theorem dX7_isHeap_11 : decode cX7_isHeap 11 = .ok (.iconst 1, 1) := by decide +kernel
theorem dX7_isHeap_12 : decode cX7_isHeap 12 = .ok (.goto 4, 3) := by decide +kernel
theorem dX7_isHeap_15 : decode cX7_isHeap 15 = .ok (.iconst 0, 1) := by decide +kernel
theorem dX7_isHeap_16 : decode cX7_isHeap 16 = .ok (.ireturn, 1) := by decide +kernel
theorem dX7_commonDivisor_0 : decode cX7_commonDivisor 0 = .ok (.lload_n 0, 1) := by decide +kernel
theorem dX7_commonDivisor_1 : decode cX7_commonDivisor 1 = .ok (.invokestatic 293, 3) := by decide +kernel
theorem dX7_commonDivisor_4 : decode cX7_commonDivisor 4 = .ok (.lstore 4, 2) := by decide +kernel
theorem dX7_commonDivisor_6 : decode cX7_commonDivisor 6 = .ok (.lload_n 2, 1) := by decide +kernel
theorem dX7_commonDivisor_7 : decode cX7_commonDivisor 7 = .ok (.invokestatic 293, 3) := by decide +kernel
theorem dX7_commonDivisor_10 : decode cX7_commonDivisor 10 = .ok (.lstore 6, 2) := by decide +kernel
theorem dX7_commonDivisor_12 : decode cX7_commonDivisor 12 = .ok (.iconst 0, 1) := by decide +kernel
theorem dX7_commonDivisor_13 : decode cX7_commonDivisor 13 = .ok (.istore 8, 2) := by decide +kernel
theorem dX7_commonDivisor_15 : decode cX7_commonDivisor 15 = .ok (.iload 8, 2) := by decide +kernel
theorem dX7_commonDivisor_17 : decode cX7_commonDivisor 17 = .ok (.sipush 1000, 3) := by decide +kernel
theorem dX7_commonDivisor_20 : decode cX7_commonDivisor 20 = .ok (.if_icmp .ge 31, 3) := by decide +kernel
theorem dX7_commonDivisor_23 : decode cX7_commonDivisor 23 = .ok (.lload 6, 2) := by decide +kernel
theorem dX7_commonDivisor_25 : decode cX7_commonDivisor 25 = .ok (.lconst 0, 1) := by decide +kernel
theorem dX7_commonDivisor_26 : decode cX7_commonDivisor 26 = .ok (.lcmp, 1) := by decide +kernel
theorem dX7_commonDivisor_27 : decode cX7_commonDivisor 27 = .ok (.ifCond .eq 24, 3) := by decide +kernel
theorem dX7_commonDivisor_30 : decode cX7_commonDivisor 30 = .ok (.lload 4, 2) := by decide +kernel
theorem dX7_commonDivisor_32 : decode cX7_commonDivisor 32 = .ok (.lload 6, 2) := by decide +kernel
theorem dX7_commonDivisor_34 : decode cX7_commonDivisor 34 = .ok (.lrem, 1) := by decide +kernel
theorem dX7_commonDivisor_35 : decode cX7_commonDivisor 35 = .ok (.lstore 9, 2) := by decide +kernel
theorem dX7_commonDivisor_37 : decode cX7_commonDivisor 37 = .ok (.lload 6, 2) := by decide +kernel
theorem dX7_commonDivisor_39 : decode cX7_commonDivisor 39 = .ok (.lstore 4, 2) := by decide +kernel
theorem dX7_commonDivisor_41 : decode cX7_commonDivisor 41 = .ok (.lload 9, 2) := by decide +kernel
theorem dX7_commonDivisor_43 : decode cX7_commonDivisor 43 = .ok (.lstore 6, 2) := by decide +kernel
theorem dX7_commonDivisor_45 : decode cX7_commonDivisor 45 = .ok (.iinc 8 1, 3) := by decide +kernel
theorem dX7_commonDivisor_48 : decode cX7_commonDivisor 48 = .ok (.goto (-33), 3) := by decide +kernel
theorem dX7_commonDivisor_51 : decode cX7_commonDivisor 51 = .ok (.lload 4, 2) := by decide +kernel
theorem dX7_commonDivisor_53 : decode cX7_commonDivisor 53 = .ok (.lconst 0, 1) := by decide +kernel
theorem dX7_commonDivisor_54 : decode cX7_commonDivisor 54 = .ok (.lcmp, 1) := by decide +kernel
theorem dX7_commonDivisor_55 : decode cX7_commonDivisor 55 = .ok (.ifCond .ne 7, 3) := by decide +kernel
theorem dX7_commonDivisor_58 : decode cX7_commonDivisor 58 = .ok (.lconst 1, 1) := by decide +kernel
theorem dX7_commonDivisor_59 : decode cX7_commonDivisor 59 = .ok (.goto 5, 3) := by decide +kernel
theorem dX7_commonDivisor_62 : decode cX7_commonDivisor 62 = .ok (.lload 4, 2) := by decide +kernel
theorem dX7_commonDivisor_64 : decode cX7_commonDivisor 64 = .ok (.lreturn, 1) := by decide +kernel
theorem dX7_power_0 : decode cX7_power 0 = .ok (.iconst 1, 1) := by decide +kernel
theorem dX7_power_1 : decode cX7_power 1 = .ok (.istore_n 2, 1) := by decide +kernel
theorem dX7_power_2 : decode cX7_power 2 = .ok (.iconst 0, 1) := by decide +kernel
theorem dX7_power_3 : decode cX7_power 3 = .ok (.istore_n 3, 1) := by decide +kernel
theorem dX7_power_4 : decode cX7_power 4 = .ok (.iload_n 3, 1) := by decide +kernel
theorem dX7_power_5 : decode cX7_power 5 = .ok (.iload_n 1, 1) := by decide +kernel
theorem dX7_power_6 : decode cX7_power 6 = .ok (.if_icmp .ge 20, 3) := by decide +kernel
theorem dX7_power_9 : decode cX7_power 9 = .ok (.iload_n 2, 1) := by decide +kernel
theorem dX7_power_10 : decode cX7_power 10 = .ok (.sipush 20000, 3) := by decide +kernel
theorem dX7_power_13 : decode cX7_power 13 = .ok (.if_icmp .gt 13, 3) := by decide +kernel
theorem dX7_power_16 : decode cX7_power 16 = .ok (.iload_n 2, 1) := by decide +kernel
theorem dX7_power_17 : decode cX7_power 17 = .ok (.iload_n 0, 1) := by decide +kernel
theorem dX7_power_18 : decode cX7_power 18 = .ok (.imul, 1) := by decide +kernel
theorem dX7_power_19 : decode cX7_power 19 = .ok (.istore_n 2, 1) := by decide +kernel
theorem dX7_power_20 : decode cX7_power 20 = .ok (.iinc 3 1, 3) := by decide +kernel
theorem dX7_power_23 : decode cX7_power 23 = .ok (.goto (-19), 3) := by decide +kernel
theorem dX7_power_26 : decode cX7_power 26 = .ok (.iload_n 2, 1) := by decide +kernel
theorem dX7_power_27 : decode cX7_power 27 = .ok (.ireturn, 1) := by decide +kernel
set_option maxRecDepth 20000 in
theorem ggX7_refuseWrongStart_X7_isStepCount : GoodIn wsX7_refuseWrongStart wsX7_isStepCount := goodIn_r _ [11, 12] (by decide +kernel) (by decide +kernel)
set_option maxRecDepth 20000 in
theorem gX7_refuseWrongStart_X7_isStepCount : GoodIn wsX7_refuseWrongStart (va_wsS RX7 197 yX7_isStepCount wsX7_isStepCount) := goodIn_app (goodIn_of _ (by decide +kernel)) ggX7_refuseWrongStart_X7_isStepCount
set_option maxRecDepth 20000 in
theorem ggX7_refuseWrongStart_X7_isNumber : GoodIn wsX7_refuseWrongStart wsX7_isNumber := goodIn_r _ [15, 16, 17] (by decide +kernel) (by decide +kernel)
set_option maxRecDepth 20000 in
theorem gX7_refuseWrongStart_X7_isNumber : GoodIn wsX7_refuseWrongStart (va_wsS RX7 178 yX7_isNumber wsX7_isNumber) := goodIn_app (goodIn_of _ (by decide +kernel)) ggX7_refuseWrongStart_X7_isNumber
theorem dX7_refuseWrongStart_0 : decode cX7_refuseWrongStart 0 = .ok (.iload_n 3, 1) := by decide +kernel
theorem dX7_refuseWrongStart_1 : decode cX7_refuseWrongStart 1 = .ok (.invokestatic 197, 3) := by decide +kernel
theorem dX7_refuseWrongStart_4 : decode cX7_refuseWrongStart 4 = .ok (.ifCond .ne 14, 3) := by decide +kernel
theorem dX7_refuseWrongStart_7 : decode cX7_refuseWrongStart 7 = .ok (.new 347, 3) := by decide +kernel
theorem dX7_refuseWrongStart_10 : decode cX7_refuseWrongStart 10 = .ok (.dup, 1) := by decide +kernel
theorem dX7_refuseWrongStart_11 : decode cX7_refuseWrongStart 11 = .ok (.ldc_w 379, 3) := by decide +kernel
theorem dX7_refuseWrongStart_14 : decode cX7_refuseWrongStart 14 = .ok (.invokespecial 351, 3) := by decide +kernel
theorem dX7_refuseWrongStart_17 : decode cX7_refuseWrongStart 17 = .ok (.athrow, 1) := by decide +kernel
theorem dX7_refuseWrongStart_18 : decode cX7_refuseWrongStart 18 = .ok (.aload_n 0, 1) := by decide +kernel
theorem dX7_refuseWrongStart_19 : decode cX7_refuseWrongStart 19 = .ok (.getfield 9, 3) := by decide +kernel
theorem dX7_refuseWrongStart_22 : decode cX7_refuseWrongStart 22 = .ok (.ifCond .ne 14, 3) := by decide +kernel
theorem dX7_refuseWrongStart_25 : decode cX7_refuseWrongStart 25 = .ok (.new 122, 3) := by decide +kernel
theorem dX7_refuseWrongStart_28 : decode cX7_refuseWrongStart 28 = .ok (.dup, 1) := by decide +kernel
theorem dX7_refuseWrongStart_29 : decode cX7_refuseWrongStart 29 = .ok (.ldc_w 381, 3) := by decide +kernel
theorem dX7_refuseWrongStart_32 : decode cX7_refuseWrongStart 32 = .ok (.invokespecial 126, 3) := by decide +kernel
theorem dX7_refuseWrongStart_35 : decode cX7_refuseWrongStart 35 = .ok (.athrow, 1) := by decide +kernel
theorem dX7_refuseWrongStart_36 : decode cX7_refuseWrongStart 36 = .ok (.lload_n 1, 1) := by decide +kernel
theorem dX7_refuseWrongStart_37 : decode cX7_refuseWrongStart 37 = .ok (.invokestatic 178, 3) := by decide +kernel
theorem dX7_refuseWrongStart_40 : decode cX7_refuseWrongStart 40 = .ok (.ifCond .ne 14, 3) := by decide +kernel
theorem dX7_refuseWrongStart_43 : decode cX7_refuseWrongStart 43 = .ok (.new 192, 3) := by decide +kernel
theorem dX7_refuseWrongStart_46 : decode cX7_refuseWrongStart 46 = .ok (.dup, 1) := by decide +kernel
theorem dX7_refuseWrongStart_47 : decode cX7_refuseWrongStart 47 = .ok (.ldc_w 383, 3) := by decide +kernel
theorem dX7_refuseWrongStart_50 : decode cX7_refuseWrongStart 50 = .ok (.invokespecial 196, 3) := by decide +kernel
theorem dX7_refuseWrongStart_53 : decode cX7_refuseWrongStart 53 = .ok (.athrow, 1) := by decide +kernel
theorem dX7_refuseWrongStart_54 : decode cX7_refuseWrongStart 54 = .ok (.return_, 1) := by decide +kernel
set_option maxRecDepth 20000 in
theorem ggX7_after_X5_after : GoodIn wsX7_after wsX5_after := goodIn_ca (goodIn_r _ [8, 9, 10, 11, 12, 7, 13, 14, 15, 16, 17, 18, 19, 20, 21, 22, 23, 24, 25, 26, 27, 28, 29, 30, 31, 32, 33, 34, 35, 36, 37, 38, 39, 40, 41, 42, 85, 86, 87, 88] (by decide +kernel) (by decide +kernel)) (goodIn_sub (fun _ h => List.mem_cons_of_mem _ (List.mem_append_right _ h)) (by decide +kernel))
set_option maxRecDepth 20000 in
theorem gX7_after_X5_after : GoodIn wsX7_after (wsV RX7 385 RX5 yX5_after wsX5_after) := goodIn_app (goodIn_of _ (by decide +kernel)) ggX7_after_X5_after
set_option maxRecDepth 20000 in
theorem ggX7_after_X0_after : GoodIn wsX7_after wsX0_after := goodIn_ca (goodIn_r _ [47, 48, 49, 50, 51, 52, 53, 46, 54, 55, 56, 57, 58, 59, 60, 61, 62, 63, 64, 65, 66, 67, 68, 69, 89, 90, 91] (by decide +kernel) (by decide +kernel)) (goodIn_sub (fun _ h => List.mem_cons_of_mem _ (List.mem_append_right _ h)) (by decide +kernel))
set_option maxRecDepth 20000 in
theorem gX7_after_X0_after : GoodIn wsX7_after (wsV RX7 386 RX0 yX0_after wsX0_after) := goodIn_app (goodIn_of _ (by decide +kernel)) ggX7_after_X0_after
theorem dX7_after_0 : decode cX7_after 0 = .ok (.aload_n 0, 1) := by decide +kernel
theorem dX7_after_1 : decode cX7_after 1 = .ok (.getfield 9, 3) := by decide +kernel
theorem dX7_after_4 : decode cX7_after 4 = .ok (.iconst 1, 1) := by decide +kernel
theorem dX7_after_5 : decode cX7_after 5 = .ok (.if_icmp .ne 14, 3) := by decide +kernel
theorem dX7_after_8 : decode cX7_after 8 = .ok (.aload_n 0, 1) := by decide +kernel
theorem dX7_after_9 : decode cX7_after 9 = .ok (.getfield 16, 3) := by decide +kernel
theorem dX7_after_12 : decode cX7_after 12 = .ok (.lload_n 1, 1) := by decide +kernel
theorem dX7_after_13 : decode cX7_after 13 = .ok (.invokevirtual 385, 3) := by decide +kernel
theorem dX7_after_16 : decode cX7_after 16 = .ok (.goto 11, 3) := by decide +kernel
theorem dX7_after_19 : decode cX7_after 19 = .ok (.aload_n 0, 1) := by decide +kernel
theorem dX7_after_20 : decode cX7_after 20 = .ok (.getfield 29, 3) := by decide +kernel
theorem dX7_after_23 : decode cX7_after 23 = .ok (.lload_n 1, 1) := by decide +kernel
theorem dX7_after_24 : decode cX7_after 24 = .ok (.invokevirtual 386, 3) := by decide +kernel
theorem dX7_after_27 : decode cX7_after 27 = .ok (.lreturn, 1) := by decide +kernel
set_option maxRecDepth 20000 in
theorem ggX7_stepsTillBelow_X7_after : GoodIn wsX7_stepsTillBelow wsX7_after := goodIn_ca (goodIn_r _ [5, 6, 7, 8, 9, 10, 11, 12, 13, 14, 15, 16, 17, 18, 19, 20, 21, 22, 23, 24, 25, 26, 27, 28, 29, 30, 31, 32, 33, 34, 35, 36, 37, 38, 39, 40, 41, 42, 43, 4, 44, 45, 46, 47, 48, 49, 50, 51, 52, 53, 54, 55, 56, 57, 58, 59, 60, 61, 62, 63, 64, 65, 66, 67, 68, 69, 70, 71, 72, 73, 75, 76, 77, 78, 79, 80, 81, 82, 83, 84, 85, 86, 87, 88, 89, 90, 91, 92, 93, 94, 95, 96] (by decide +kernel) (by decide +kernel)) (goodIn_sub (fun _ h => List.mem_cons_of_mem _ (List.mem_append_right _ h)) (by decide +kernel))
set_option maxRecDepth 20000 in
theorem gX7_stepsTillBelow_X7_after : GoodIn wsX7_stepsTillBelow (wsV RX7 182 RX7 yX7_after wsX7_after) := goodIn_app (goodIn_of _ (by decide +kernel)) ggX7_stepsTillBelow_X7_after
set_option maxRecDepth 20000 in
theorem ggX7_stepsTillBelow_X7_isNumber : GoodIn wsX7_stepsTillBelow wsX7_isNumber := goodIn_r _ [44, 45, 46] (by decide +kernel) (by decide +kernel)
set_option maxRecDepth 20000 in
theorem gX7_stepsTillBelow_X7_isNumber : GoodIn wsX7_stepsTillBelow (va_wsS RX7 178 yX7_isNumber wsX7_isNumber) := goodIn_app (goodIn_of _ (by decide +kernel)) ggX7_stepsTillBelow_X7_isNumber
theorem dX7_stepsTillBelow_0 : decode cX7_stepsTillBelow 0 = .ok (.lload_n 1, 1) := by decide +kernel
theorem dX7_stepsTillBelow_1 : decode cX7_stepsTillBelow 1 = .ok (.lstore 4, 2) := by decide +kernel
theorem dX7_stepsTillBelow_3 : decode cX7_stepsTillBelow 3 = .ok (.iconst 1, 1) := by decide +kernel
theorem dX7_stepsTillBelow_4 : decode cX7_stepsTillBelow 4 = .ok (.istore 6, 2) := by decide +kernel
theorem dX7_stepsTillBelow_6 : decode cX7_stepsTillBelow 6 = .ok (.iload 6, 2) := by decide +kernel
theorem dX7_stepsTillBelow_8 : decode cX7_stepsTillBelow 8 = .ok (.iload_n 3, 1) := by decide +kernel
theorem dX7_stepsTillBelow_9 : decode cX7_stepsTillBelow 9 = .ok (.if_icmp .gt 37, 3) := by decide +kernel
theorem dX7_stepsTillBelow_12 : decode cX7_stepsTillBelow 12 = .ok (.aload_n 0, 1) := by decide +kernel
theorem dX7_stepsTillBelow_13 : decode cX7_stepsTillBelow 13 = .ok (.lload 4, 2) := by decide +kernel
theorem dX7_stepsTillBelow_15 : decode cX7_stepsTillBelow 15 = .ok (.invokevirtual 182, 3) := by decide +kernel
theorem dX7_stepsTillBelow_18 : decode cX7_stepsTillBelow 18 = .ok (.lstore 4, 2) := by decide +kernel
theorem dX7_stepsTillBelow_20 : decode cX7_stepsTillBelow 20 = .ok (.lload 4, 2) := by decide +kernel
theorem dX7_stepsTillBelow_22 : decode cX7_stepsTillBelow 22 = .ok (.invokestatic 178, 3) := by decide +kernel
theorem dX7_stepsTillBelow_25 : decode cX7_stepsTillBelow 25 = .ok (.ifCond .ne 5, 3) := by decide +kernel
theorem dX7_stepsTillBelow_28 : decode cX7_stepsTillBelow 28 = .ok (.iconst (-1), 1) := by decide +kernel
theorem dX7_stepsTillBelow_29 : decode cX7_stepsTillBelow 29 = .ok (.ireturn, 1) := by decide +kernel
theorem dX7_stepsTillBelow_30 : decode cX7_stepsTillBelow 30 = .ok (.lload 4, 2) := by decide +kernel
theorem dX7_stepsTillBelow_32 : decode cX7_stepsTillBelow 32 = .ok (.lload_n 1, 1) := by decide +kernel
theorem dX7_stepsTillBelow_33 : decode cX7_stepsTillBelow 33 = .ok (.lcmp, 1) := by decide +kernel
theorem dX7_stepsTillBelow_34 : decode cX7_stepsTillBelow 34 = .ok (.ifCond .ge 6, 3) := by decide +kernel
theorem dX7_stepsTillBelow_37 : decode cX7_stepsTillBelow 37 = .ok (.iload 6, 2) := by decide +kernel
theorem dX7_stepsTillBelow_39 : decode cX7_stepsTillBelow 39 = .ok (.ireturn, 1) := by decide +kernel
theorem dX7_stepsTillBelow_40 : decode cX7_stepsTillBelow 40 = .ok (.iinc 6 1, 3) := by decide +kernel
theorem dX7_stepsTillBelow_43 : decode cX7_stepsTillBelow 43 = .ok (.goto (-37), 3) := by decide +kernel
theorem dX7_stepsTillBelow_46 : decode cX7_stepsTillBelow 46 = .ok (.bipush (-2), 2) := by decide +kernel
theorem dX7_stepsTillBelow_48 : decode cX7_stepsTillBelow 48 = .ok (.ireturn, 1) := by decide +kernel
set_option maxRecDepth 20000 in
theorem ggX7_signOf_X5_restOf : GoodIn wsX7_signOf wsX5_restOf := goodIn_r _ [8, 9, 10, 11, 12, 13, 44, 45, 46, 47] (by decide +kernel) (by decide +kernel)
set_option maxRecDepth 20000 in
theorem gX7_signOf_X5_restOf : GoodIn wsX7_signOf (wsV RX7 309 RX5 yX5_restOf wsX5_restOf) := goodIn_app (goodIn_of _ (by decide +kernel)) ggX7_signOf_X5_restOf
set_option maxRecDepth 20000 in
theorem ggX7_signOf_X0_firstFit : GoodIn wsX7_signOf wsX0_firstFit := goodIn_ca (goodIn_r _ [18, 19, 20, 21, 22, 17, 23, 24, 25, 26, 27, 28, 48, 49, 50] (by decide +kernel) (by decide +kernel)) (goodIn_sub (fun _ h => List.mem_cons_of_mem _ (List.mem_append_right _ h)) (by decide +kernel))
set_option maxRecDepth 20000 in
theorem gX7_signOf_X0_firstFit : GoodIn wsX7_signOf (wsV RX7 387 RX0 yX0_firstFit wsX0_firstFit) := goodIn_app (goodIn_of _ (by decide +kernel)) ggX7_signOf_X0_firstFit
theorem dX7_signOf_0 : decode cX7_signOf 0 = .ok (.aload_n 0, 1) := by decide +kernel
theorem dX7_signOf_1 : decode cX7_signOf 1 = .ok (.getfield 9, 3) := by decide +kernel
theorem dX7_signOf_4 : decode cX7_signOf 4 = .ok (.iconst 1, 1) := by decide +kernel
theorem dX7_signOf_5 : decode cX7_signOf 5 = .ok (.if_icmp .ne 14, 3) := by decide +kernel
theorem dX7_signOf_8 : decode cX7_signOf 8 = .ok (.aload_n 0, 1) := by decide +kernel
theorem dX7_signOf_9 : decode cX7_signOf 9 = .ok (.getfield 16, 3) := by decide +kernel
theorem dX7_signOf_12 : decode cX7_signOf 12 = .ok (.lload_n 1, 1) := by decide +kernel
theorem dX7_signOf_13 : decode cX7_signOf 13 = .ok (.invokevirtual 309, 3) := by decide +kernel
theorem dX7_signOf_16 : decode cX7_signOf 16 = .ok (.goto 11, 3) := by decide +kernel
theorem dX7_signOf_19 : decode cX7_signOf 19 = .ok (.aload_n 0, 1) := by decide +kernel
theorem dX7_signOf_20 : decode cX7_signOf 20 = .ok (.getfield 29, 3) := by decide +kernel
theorem dX7_signOf_23 : decode cX7_signOf 23 = .ok (.lload_n 1, 1) := by decide +kernel
theorem dX7_signOf_24 : decode cX7_signOf 24 = .ok (.invokevirtual 387, 3) := by decide +kernel
theorem dX7_signOf_27 : decode cX7_signOf 27 = .ok (.ireturn, 1) := by decide +kernel
set_option maxRecDepth 20000 in
theorem ggX7_shapeTold_X2_size : GoodIn wsX7_shapeTold wsX2_size := goodIn_r _ [8, 9, 94, 95] (by decide +kernel) (by decide +kernel)
set_option maxRecDepth 20000 in
theorem gX7_shapeTold_X2_size : GoodIn wsX7_shapeTold (wsV RX7 149 RX2 yX2_size wsX2_size) := goodIn_app (goodIn_of _ (by decide +kernel)) ggX7_shapeTold_X2_size
set_option maxRecDepth 20000 in
theorem ggX7_shapeTold_X2_at : GoodIn wsX7_shapeTold wsX2_at := goodIn_r _ [13, 14, 15, 16, 17, 7, 18, 9, 94, 95] (by decide +kernel) (by decide +kernel)
set_option maxRecDepth 20000 in
theorem gX7_shapeTold_X2_at : GoodIn wsX7_shapeTold (wsV RX7 369 RX2 yX2_at wsX2_at) := goodIn_app (goodIn_of _ (by decide +kernel)) ggX7_shapeTold_X2_at
set_option maxRecDepth 20000 in
theorem ggX7_shapeTold_X5_measure : GoodIn wsX7_shapeTold wsX5_measure := goodIn_r _ [23, 24, 96, 97, 98, 99] (by decide +kernel) (by decide +kernel)
set_option maxRecDepth 20000 in
theorem gX7_shapeTold_X5_measure : GoodIn wsX7_shapeTold (wsV RX7 99 RX5 yX5_measure wsX5_measure) := goodIn_app (goodIn_of _ (by decide +kernel)) ggX7_shapeTold_X5_measure
set_option maxRecDepth 20000 in
theorem ggX7_shapeTold_X7_shapeWord : GoodIn wsX7_shapeTold wsX7_shapeWord := goodIn_ca (goodIn_r _ [29, 30, 3, 4, 5, 6, 7, 8, 9, 10, 11, 12, 13, 14, 15, 16, 17, 18, 31, 32, 33, 34, 35, 36, 37, 38, 39, 40, 41, 42, 43, 44, 22, 45, 46, 47, 48, 49, 50, 24, 51, 52, 53, 54, 55, 56, 57, 58, 59, 60, 61, 62, 63, 64, 65, 28, 66, 67, 68, 69, 70, 71, 72, 73, 74, 75, 76, 77, 78, 79, 80, 81, 82, 83, 84, 85, 86, 87, 88, 89, 90, 91, 92, 93, 94, 95, 100, 101, 102, 96, 97, 98, 99] (by decide +kernel) (by decide +kernel)) (goodIn_sub (fun _ h => List.mem_cons_of_mem _ (List.mem_append_right _ h)) (by decide +kernel))
set_option maxRecDepth 20000 in
theorem gX7_shapeTold_X7_shapeWord : GoodIn wsX7_shapeTold (wsV RX7 247 RX7 yX7_shapeWord wsX7_shapeWord) := goodIn_app (goodIn_of _ (by decide +kernel)) ggX7_shapeTold_X7_shapeWord
theorem dX7_shapeTold_0 : decode cX7_shapeTold 0 = .ok (.aload_n 0, 1) := by decide +kernel
theorem dX7_shapeTold_1 : decode cX7_shapeTold 1 = .ok (.getfield 9, 3) := by decide +kernel
theorem dX7_shapeTold_4 : decode cX7_shapeTold 4 = .ok (.iconst 1, 1) := by decide +kernel
theorem dX7_shapeTold_5 : decode cX7_shapeTold 5 = .ok (.if_icmp .ne 13, 3) := by decide +kernel
theorem dX7_shapeTold_8 : decode cX7_shapeTold 8 = .ok (.aload_n 0, 1) := by decide +kernel
theorem dX7_shapeTold_9 : decode cX7_shapeTold 9 = .ok (.getfield 55, 3) := by decide +kernel
theorem dX7_shapeTold_12 : decode cX7_shapeTold 12 = .ok (.invokevirtual 149, 3) := by decide +kernel
theorem dX7_shapeTold_15 : decode cX7_shapeTold 15 = .ok (.ifCond .ne 5, 3) := by decide +kernel
theorem dX7_shapeTold_18 : decode cX7_shapeTold 18 = .ok (.iconst (-1), 1) := by decide +kernel
theorem dX7_shapeTold_19 : decode cX7_shapeTold 19 = .ok (.ireturn, 1) := by decide +kernel
theorem dX7_shapeTold_20 : decode cX7_shapeTold 20 = .ok (.iconst 0, 1) := by decide +kernel
theorem dX7_shapeTold_21 : decode cX7_shapeTold 21 = .ok (.istore_n 1, 1) := by decide +kernel
theorem dX7_shapeTold_22 : decode cX7_shapeTold 22 = .ok (.iload_n 1, 1) := by decide +kernel
theorem dX7_shapeTold_23 : decode cX7_shapeTold 23 = .ok (.aload_n 0, 1) := by decide +kernel
theorem dX7_shapeTold_24 : decode cX7_shapeTold 24 = .ok (.getfield 55, 3) := by decide +kernel
theorem dX7_shapeTold_27 : decode cX7_shapeTold 27 = .ok (.invokevirtual 149, 3) := by decide +kernel
theorem dX7_shapeTold_30 : decode cX7_shapeTold 30 = .ok (.if_icmp .ge 31, 3) := by decide +kernel
theorem dX7_shapeTold_33 : decode cX7_shapeTold 33 = .ok (.aload_n 0, 1) := by decide +kernel
theorem dX7_shapeTold_34 : decode cX7_shapeTold 34 = .ok (.getfield 55, 3) := by decide +kernel
theorem dX7_shapeTold_37 : decode cX7_shapeTold 37 = .ok (.iload_n 1, 1) := by decide +kernel
theorem dX7_shapeTold_38 : decode cX7_shapeTold 38 = .ok (.invokevirtual 369, 3) := by decide +kernel
theorem dX7_shapeTold_41 : decode cX7_shapeTold 41 = .ok (.aload_n 0, 1) := by decide +kernel
theorem dX7_shapeTold_42 : decode cX7_shapeTold 42 = .ok (.getfield 16, 3) := by decide +kernel
theorem dX7_shapeTold_45 : decode cX7_shapeTold 45 = .ok (.invokevirtual 99, 3) := by decide +kernel
theorem dX7_shapeTold_48 : decode cX7_shapeTold 48 = .ok (.i2l, 1) := by decide +kernel
theorem dX7_shapeTold_49 : decode cX7_shapeTold 49 = .ok (.lcmp, 1) := by decide +kernel
theorem dX7_shapeTold_50 : decode cX7_shapeTold 50 = .ok (.ifCond .lt 5, 3) := by decide +kernel
theorem dX7_shapeTold_53 : decode cX7_shapeTold 53 = .ok (.iconst (-1), 1) := by decide +kernel
theorem dX7_shapeTold_54 : decode cX7_shapeTold 54 = .ok (.ireturn, 1) := by decide +kernel
theorem dX7_shapeTold_55 : decode cX7_shapeTold 55 = .ok (.iinc 1 1, 3) := by decide +kernel
theorem dX7_shapeTold_58 : decode cX7_shapeTold 58 = .ok (.goto (-36), 3) := by decide +kernel
theorem dX7_shapeTold_61 : decode cX7_shapeTold 61 = .ok (.aload_n 0, 1) := by decide +kernel
theorem dX7_shapeTold_62 : decode cX7_shapeTold 62 = .ok (.aload_n 0, 1) := by decide +kernel
theorem dX7_shapeTold_63 : decode cX7_shapeTold 63 = .ok (.getfield 55, 3) := by decide +kernel
theorem dX7_shapeTold_66 : decode cX7_shapeTold 66 = .ok (.iconst 0, 1) := by decide +kernel
theorem dX7_shapeTold_67 : decode cX7_shapeTold 67 = .ok (.invokevirtual 247, 3) := by decide +kernel
theorem dX7_shapeTold_70 : decode cX7_shapeTold 70 = .ok (.ifCond .eq 7, 3) := by decide +kernel
theorem dX7_shapeTold_73 : decode cX7_shapeTold 73 = .ok (.iconst 1, 1) := by decide +kernel
theorem dX7_shapeTold_74 : decode cX7_shapeTold 74 = .ok (.goto 5, 3) := by decide +kernel
theorem dX7_shapeTold_77 : decode cX7_shapeTold 77 = .ok (.bipush (-2), 2) := by decide +kernel
theorem dX7_shapeTold_79 : decode cX7_shapeTold 79 = .ok (.ireturn, 1) := by decide +kernel
set_option maxRecDepth 20000 in
theorem ggX7_shapeWord_X2_size : GoodIn wsX7_shapeWord wsX2_size := goodIn_r _ [7, 8, 84, 85] (by decide +kernel) (by decide +kernel)
set_option maxRecDepth 20000 in
theorem gX7_shapeWord_X2_size : GoodIn wsX7_shapeWord (wsV RX7 149 RX2 yX2_size wsX2_size) := goodIn_app (goodIn_of _ (by decide +kernel)) ggX7_shapeWord_X2_size
set_option maxRecDepth 20000 in
theorem ggX7_shapeWord_X2_at : GoodIn wsX7_shapeWord wsX2_at := goodIn_r _ [12, 13, 14, 15, 16, 6, 17, 8, 84, 85] (by decide +kernel) (by decide +kernel)
set_option maxRecDepth 20000 in
theorem gX7_shapeWord_X2_at : GoodIn wsX7_shapeWord (wsV RX7 369 RX2 yX2_at wsX2_at) := goodIn_app (goodIn_of _ (by decide +kernel)) ggX7_shapeWord_X2_at
set_option maxRecDepth 20000 in
theorem ggX7_shapeWord_X4_extend : GoodIn wsX7_shapeWord wsX4_extend := goodIn_ca (goodIn_r _ [22, 23, 24, 25, 26, 27, 21, 28, 29, 30, 31, 32, 33, 34, 35, 36, 37, 38, 39, 40, 41, 42, 43, 44, 45, 46, 47, 48, 49, 50, 51, 52, 53, 54, 55, 56, 57, 58, 59, 60, 61, 62, 63, 64, 65, 66, 67, 68, 86, 87, 88, 89, 90, 91, 92] (by decide +kernel) (by decide +kernel)) (goodIn_sub (fun _ h => List.mem_cons_of_mem _ (List.mem_append_right _ h)) (by decide +kernel))
set_option maxRecDepth 20000 in
theorem gX7_shapeWord_X4_extend : GoodIn wsX7_shapeWord (wsV RX7 390 RX4 yX4_extend wsX4_extend) := goodIn_app (goodIn_of _ (by decide +kernel)) ggX7_shapeWord_X4_extend
theorem dX7_shapeWord_0 : decode cX7_shapeWord 0 = .ok (.iload_n 2, 1) := by decide +kernel
theorem dX7_shapeWord_1 : decode cX7_shapeWord 1 = .ok (.istore_n 3, 1) := by decide +kernel
theorem dX7_shapeWord_2 : decode cX7_shapeWord 2 = .ok (.iload_n 3, 1) := by decide +kernel
theorem dX7_shapeWord_3 : decode cX7_shapeWord 3 = .ok (.aload_n 1, 1) := by decide +kernel
theorem dX7_shapeWord_4 : decode cX7_shapeWord 4 = .ok (.invokevirtual 149, 3) := by decide +kernel
theorem dX7_shapeWord_7 : decode cX7_shapeWord 7 = .ok (.if_icmp .ge 32, 3) := by decide +kernel
theorem dX7_shapeWord_10 : decode cX7_shapeWord 10 = .ok (.aload_n 0, 1) := by decide +kernel
theorem dX7_shapeWord_11 : decode cX7_shapeWord 11 = .ok (.getfield 64, 3) := by decide +kernel
theorem dX7_shapeWord_14 : decode cX7_shapeWord 14 = .ok (.iload_n 3, 1) := by decide +kernel
theorem dX7_shapeWord_15 : decode cX7_shapeWord 15 = .ok (.aload_n 0, 1) := by decide +kernel
theorem dX7_shapeWord_16 : decode cX7_shapeWord 16 = .ok (.getfield 16, 3) := by decide +kernel
theorem dX7_shapeWord_19 : decode cX7_shapeWord 19 = .ok (.aload_n 1, 1) := by decide +kernel
theorem dX7_shapeWord_20 : decode cX7_shapeWord 20 = .ok (.iload_n 3, 1) := by decide +kernel
theorem dX7_shapeWord_21 : decode cX7_shapeWord 21 = .ok (.invokevirtual 369, 3) := by decide +kernel
theorem dX7_shapeWord_24 : decode cX7_shapeWord 24 = .ok (.l2i, 1) := by decide +kernel
theorem dX7_shapeWord_25 : decode cX7_shapeWord 25 = .ok (.invokevirtual 390, 3) := by decide +kernel
theorem dX7_shapeWord_28 : decode cX7_shapeWord 28 = .ok (.ifCond .ne 5, 3) := by decide +kernel
theorem dX7_shapeWord_31 : decode cX7_shapeWord 31 = .ok (.iconst 0, 1) := by decide +kernel
theorem dX7_shapeWord_32 : decode cX7_shapeWord 32 = .ok (.ireturn, 1) := by decide +kernel
theorem dX7_shapeWord_33 : decode cX7_shapeWord 33 = .ok (.iinc 3 1, 3) := by decide +kernel
theorem dX7_shapeWord_36 : decode cX7_shapeWord 36 = .ok (.goto (-34), 3) := by decide +kernel
theorem dX7_shapeWord_39 : decode cX7_shapeWord 39 = .ok (.iconst 1, 1) := by decide +kernel
theorem dX7_shapeWord_40 : decode cX7_shapeWord 40 = .ok (.ireturn, 1) := by decide +kernel
set_option maxRecDepth 20000 in
theorem ggX7_ringNumber_X4_divisor : GoodIn wsX7_ringNumber wsX4_divisor := goodIn_r _ [8, 9, 10, 11, 7, 12, 90, 91, 92] (by decide +kernel) (by decide +kernel)
set_option maxRecDepth 20000 in
theorem gX7_ringNumber_X4_divisor : GoodIn wsX7_ringNumber (wsV RX7 230 RX4 yX4_divisor wsX4_divisor) := goodIn_app (goodIn_of _ (by decide +kernel)) ggX7_ringNumber_X4_divisor
set_option maxRecDepth 20000 in
theorem ggX7_ringNumber_X4_factor : GoodIn wsX7_ringNumber wsX4_factor := goodIn_r _ [16, 17, 10, 11, 7, 12, 90, 91, 92] (by decide +kernel) (by decide +kernel)
set_option maxRecDepth 20000 in
theorem gX7_ringNumber_X4_factor : GoodIn wsX7_ringNumber (wsV RX7 224 RX4 yX4_factor wsX4_factor) := goodIn_app (goodIn_of _ (by decide +kernel)) ggX7_ringNumber_X4_factor
set_option maxRecDepth 20000 in
theorem ggX7_ringNumber_X4_addend : GoodIn wsX7_ringNumber wsX4_addend := goodIn_r _ [21, 22, 10, 11, 7, 12, 90, 91, 92] (by decide +kernel) (by decide +kernel)
set_option maxRecDepth 20000 in
theorem gX7_ringNumber_X4_addend : GoodIn wsX7_ringNumber (wsV RX7 227 RX4 yX4_addend wsX4_addend) := goodIn_app (goodIn_of _ (by decide +kernel)) ggX7_ringNumber_X4_addend
set_option maxRecDepth 20000 in
theorem ggX7_ringNumber_X7_isNumber : GoodIn wsX7_ringNumber wsX7_isNumber := goodIn_r _ [26, 27, 28] (by decide +kernel) (by decide +kernel)
set_option maxRecDepth 20000 in
theorem gX7_ringNumber_X7_isNumber : GoodIn wsX7_ringNumber (va_wsS RX7 178 yX7_isNumber wsX7_isNumber) := goodIn_app (goodIn_of _ (by decide +kernel)) ggX7_ringNumber_X7_isNumber
set_option maxRecDepth 20000 in
theorem ggX7_ringNumber_X5_restOf : GoodIn wsX7_ringNumber wsX5_restOf := goodIn_r _ [33, 34, 35, 36, 37, 38, 93, 94, 95, 96] (by decide +kernel) (by decide +kernel)
set_option maxRecDepth 20000 in
theorem gX7_ringNumber_X5_restOf : GoodIn wsX7_ringNumber (wsV RX7 309 RX5 yX5_restOf wsX5_restOf) := goodIn_app (goodIn_of _ (by decide +kernel)) ggX7_ringNumber_X5_restOf
set_option maxRecDepth 20000 in
theorem ggX7_ringNumber_X2_at : GoodIn wsX7_ringNumber wsX2_at := goodIn_r _ [43, 44, 45, 46, 47, 42, 48, 49, 97, 98] (by decide +kernel) (by decide +kernel)
set_option maxRecDepth 20000 in
theorem gX7_ringNumber_X2_at : GoodIn wsX7_ringNumber (wsV RX7 369 RX2 yX2_at wsX2_at) := goodIn_app (goodIn_of _ (by decide +kernel)) ggX7_ringNumber_X2_at
set_option maxRecDepth 20000 in
theorem ggX7_ringNumber_X5_after : GoodIn wsX7_ringNumber wsX5_after := goodIn_ca (goodIn_r _ [53, 54, 55, 30, 31, 32, 33, 34, 35, 36, 37, 38, 56, 57, 58, 59, 60, 61, 62, 63, 64, 65, 66, 67, 68, 69, 70, 71, 72, 73, 74, 24, 25, 26, 27, 28, 93, 94, 95, 96] (by decide +kernel) (by decide +kernel)) (goodIn_sub (fun _ h => List.mem_cons_of_mem _ (List.mem_append_right _ h)) (by decide +kernel))
set_option maxRecDepth 20000 in
theorem gX7_ringNumber_X5_after : GoodIn wsX7_ringNumber (wsV RX7 385 RX5 yX5_after wsX5_after) := goodIn_app (goodIn_of _ (by decide +kernel)) ggX7_ringNumber_X5_after
theorem dX7_ringNumber_0 : decode cX7_ringNumber 0 = .ok (.aload_n 0, 1) := by decide +kernel
theorem dX7_ringNumber_1 : decode cX7_ringNumber 1 = .ok (.getfield 64, 3) := by decide +kernel
theorem dX7_ringNumber_4 : decode cX7_ringNumber 4 = .ok (.iload_n 2, 1) := by decide +kernel
theorem dX7_ringNumber_5 : decode cX7_ringNumber 5 = .ok (.invokevirtual 230, 3) := by decide +kernel
theorem dX7_ringNumber_8 : decode cX7_ringNumber 8 = .ok (.aload_n 0, 1) := by decide +kernel
theorem dX7_ringNumber_9 : decode cX7_ringNumber 9 = .ok (.getfield 64, 3) := by decide +kernel
theorem dX7_ringNumber_12 : decode cX7_ringNumber 12 = .ok (.iload_n 2, 1) := by decide +kernel
theorem dX7_ringNumber_13 : decode cX7_ringNumber 13 = .ok (.invokevirtual 224, 3) := by decide +kernel
theorem dX7_ringNumber_16 : decode cX7_ringNumber 16 = .ok (.lsub, 1) := by decide +kernel
theorem dX7_ringNumber_17 : decode cX7_ringNumber 17 = .ok (.lstore_n 3, 1) := by decide +kernel
theorem dX7_ringNumber_18 : decode cX7_ringNumber 18 = .ok (.lload_n 3, 1) := by decide +kernel
theorem dX7_ringNumber_19 : decode cX7_ringNumber 19 = .ok (.lconst 0, 1) := by decide +kernel
theorem dX7_ringNumber_20 : decode cX7_ringNumber 20 = .ok (.lcmp, 1) := by decide +kernel
theorem dX7_ringNumber_21 : decode cX7_ringNumber 21 = .ok (.ifCond .eq 18, 3) := by decide +kernel
theorem dX7_ringNumber_24 : decode cX7_ringNumber 24 = .ok (.aload_n 0, 1) := by decide +kernel
theorem dX7_ringNumber_25 : decode cX7_ringNumber 25 = .ok (.getfield 64, 3) := by decide +kernel
theorem dX7_ringNumber_28 : decode cX7_ringNumber 28 = .ok (.iload_n 2, 1) := by decide +kernel
theorem dX7_ringNumber_29 : decode cX7_ringNumber 29 = .ok (.invokevirtual 227, 3) := by decide +kernel
theorem dX7_ringNumber_32 : decode cX7_ringNumber 32 = .ok (.lload_n 3, 1) := by decide +kernel
theorem dX7_ringNumber_33 : decode cX7_ringNumber 33 = .ok (.lrem, 1) := by decide +kernel
theorem dX7_ringNumber_34 : decode cX7_ringNumber 34 = .ok (.lconst 0, 1) := by decide +kernel
theorem dX7_ringNumber_35 : decode cX7_ringNumber 35 = .ok (.lcmp, 1) := by decide +kernel
theorem dX7_ringNumber_36 : decode cX7_ringNumber 36 = .ok (.ifCond .eq 7, 3) := by decide +kernel
theorem dX7_ringNumber_39 : decode cX7_ringNumber 39 = .ok (.ldc2_w 190, 3) := by decide +kernel
theorem dX7_ringNumber_42 : decode cX7_ringNumber 42 = .ok (.lreturn, 1) := by decide +kernel
theorem dX7_ringNumber_43 : decode cX7_ringNumber 43 = .ok (.aload_n 0, 1) := by decide +kernel
theorem dX7_ringNumber_44 : decode cX7_ringNumber 44 = .ok (.getfield 64, 3) := by decide +kernel
theorem dX7_ringNumber_47 : decode cX7_ringNumber 47 = .ok (.iload_n 2, 1) := by decide +kernel
theorem dX7_ringNumber_48 : decode cX7_ringNumber 48 = .ok (.invokevirtual 227, 3) := by decide +kernel
theorem dX7_ringNumber_51 : decode cX7_ringNumber 51 = .ok (.lload_n 3, 1) := by decide +kernel
theorem dX7_ringNumber_52 : decode cX7_ringNumber 52 = .ok (.ldiv, 1) := by decide +kernel
theorem dX7_ringNumber_53 : decode cX7_ringNumber 53 = .ok (.lstore 5, 2) := by decide +kernel
theorem dX7_ringNumber_55 : decode cX7_ringNumber 55 = .ok (.lload 5, 2) := by decide +kernel
theorem dX7_ringNumber_57 : decode cX7_ringNumber 57 = .ok (.lstore 7, 2) := by decide +kernel
theorem dX7_ringNumber_59 : decode cX7_ringNumber 59 = .ok (.iconst 0, 1) := by decide +kernel
theorem dX7_ringNumber_60 : decode cX7_ringNumber 60 = .ok (.istore 9, 2) := by decide +kernel
theorem dX7_ringNumber_62 : decode cX7_ringNumber 62 = .ok (.iload 9, 2) := by decide +kernel
theorem dX7_ringNumber_64 : decode cX7_ringNumber 64 = .ok (.iload_n 2, 1) := by decide +kernel
theorem dX7_ringNumber_65 : decode cX7_ringNumber 65 = .ok (.if_icmp .ge 52, 3) := by decide +kernel
theorem dX7_ringNumber_68 : decode cX7_ringNumber 68 = .ok (.lload 7, 2) := by decide +kernel
theorem dX7_ringNumber_70 : decode cX7_ringNumber 70 = .ok (.invokestatic 178, 3) := by decide +kernel
theorem dX7_ringNumber_73 : decode cX7_ringNumber 73 = .ok (.ifCond .eq 23, 3) := by decide +kernel
theorem dX7_ringNumber_76 : decode cX7_ringNumber 76 = .ok (.aload_n 0, 1) := by decide +kernel
theorem dX7_ringNumber_77 : decode cX7_ringNumber 77 = .ok (.getfield 16, 3) := by decide +kernel
theorem dX7_ringNumber_80 : decode cX7_ringNumber 80 = .ok (.lload 7, 2) := by decide +kernel
theorem dX7_ringNumber_82 : decode cX7_ringNumber 82 = .ok (.invokevirtual 309, 3) := by decide +kernel
theorem dX7_ringNumber_85 : decode cX7_ringNumber 85 = .ok (.i2l, 1) := by decide +kernel
theorem dX7_ringNumber_86 : decode cX7_ringNumber 86 = .ok (.aload_n 1, 1) := by decide +kernel
theorem dX7_ringNumber_87 : decode cX7_ringNumber 87 = .ok (.iload 9, 2) := by decide +kernel
theorem dX7_ringNumber_89 : decode cX7_ringNumber 89 = .ok (.invokevirtual 369, 3) := by decide +kernel
theorem dX7_ringNumber_92 : decode cX7_ringNumber 92 = .ok (.lcmp, 1) := by decide +kernel
theorem dX7_ringNumber_93 : decode cX7_ringNumber 93 = .ok (.ifCond .eq 7, 3) := by decide +kernel
theorem dX7_ringNumber_96 : decode cX7_ringNumber 96 = .ok (.ldc2_w 190, 3) := by decide +kernel
theorem dX7_ringNumber_99 : decode cX7_ringNumber 99 = .ok (.lreturn, 1) := by decide +kernel
theorem dX7_ringNumber_100 : decode cX7_ringNumber 100 = .ok (.aload_n 0, 1) := by decide +kernel
theorem dX7_ringNumber_101 : decode cX7_ringNumber 101 = .ok (.getfield 16, 3) := by decide +kernel
theorem dX7_ringNumber_104 : decode cX7_ringNumber 104 = .ok (.lload 7, 2) := by decide +kernel
theorem dX7_ringNumber_106 : decode cX7_ringNumber 106 = .ok (.invokevirtual 385, 3) := by decide +kernel
theorem dX7_ringNumber_109 : decode cX7_ringNumber 109 = .ok (.lstore 7, 2) := by decide +kernel
theorem dX7_ringNumber_111 : decode cX7_ringNumber 111 = .ok (.iinc 9 1, 3) := by decide +kernel
theorem dX7_ringNumber_114 : decode cX7_ringNumber 114 = .ok (.goto (-52), 3) := by decide +kernel
theorem dX7_ringNumber_117 : decode cX7_ringNumber 117 = .ok (.lload 7, 2) := by decide +kernel
theorem dX7_ringNumber_119 : decode cX7_ringNumber 119 = .ok (.lload 5, 2) := by decide +kernel
theorem dX7_ringNumber_121 : decode cX7_ringNumber 121 = .ok (.lcmp, 1) := by decide +kernel
theorem dX7_ringNumber_122 : decode cX7_ringNumber 122 = .ok (.ifCond .ne 8, 3) := by decide +kernel
theorem dX7_ringNumber_125 : decode cX7_ringNumber 125 = .ok (.lload 5, 2) := by decide +kernel
theorem dX7_ringNumber_127 : decode cX7_ringNumber 127 = .ok (.goto 6, 3) := by decide +kernel
theorem dX7_ringNumber_130 : decode cX7_ringNumber 130 = .ok (.ldc2_w 190, 3) := by decide +kernel
theorem dX7_ringNumber_133 : decode cX7_ringNumber 133 = .ok (.lreturn, 1) := by decide +kernel
set_option maxRecDepth 20000 in
theorem ggX7_isLeastOfRing_X5_after : GoodIn wsX7_isLeastOfRing wsX5_after := goodIn_ca (goodIn_r _ [6, 7, 8, 9, 10, 5, 11, 12, 13, 14, 15, 16, 17, 18, 19, 20, 21, 22, 23, 24, 25, 26, 27, 28, 29, 30, 31, 32, 33, 34, 35, 36, 37, 38, 39, 40, 56, 57, 58, 59] (by decide +kernel) (by decide +kernel)) (goodIn_sub (fun _ h => List.mem_cons_of_mem _ (List.mem_append_right _ h)) (by decide +kernel))
set_option maxRecDepth 20000 in
theorem gX7_isLeastOfRing_X5_after : GoodIn wsX7_isLeastOfRing (wsV RX7 385 RX5 yX5_after wsX5_after) := goodIn_app (goodIn_of _ (by decide +kernel)) ggX7_isLeastOfRing_X5_after
theorem dX7_isLeastOfRing_0 : decode cX7_isLeastOfRing 0 = .ok (.lload_n 1, 1) := by decide +kernel
theorem dX7_isLeastOfRing_1 : decode cX7_isLeastOfRing 1 = .ok (.lstore 4, 2) := by decide +kernel
theorem dX7_isLeastOfRing_3 : decode cX7_isLeastOfRing 3 = .ok (.iconst 1, 1) := by decide +kernel
theorem dX7_isLeastOfRing_4 : decode cX7_isLeastOfRing 4 = .ok (.istore 6, 2) := by decide +kernel
theorem dX7_isLeastOfRing_6 : decode cX7_isLeastOfRing 6 = .ok (.iload 6, 2) := by decide +kernel
theorem dX7_isLeastOfRing_8 : decode cX7_isLeastOfRing 8 = .ok (.iload_n 3, 1) := by decide +kernel
theorem dX7_isLeastOfRing_9 : decode cX7_isLeastOfRing 9 = .ok (.if_icmp .ge 29, 3) := by decide +kernel
theorem dX7_isLeastOfRing_12 : decode cX7_isLeastOfRing 12 = .ok (.aload_n 0, 1) := by decide +kernel
theorem dX7_isLeastOfRing_13 : decode cX7_isLeastOfRing 13 = .ok (.getfield 16, 3) := by decide +kernel
theorem dX7_isLeastOfRing_16 : decode cX7_isLeastOfRing 16 = .ok (.lload 4, 2) := by decide +kernel
theorem dX7_isLeastOfRing_18 : decode cX7_isLeastOfRing 18 = .ok (.invokevirtual 385, 3) := by decide +kernel
theorem dX7_isLeastOfRing_21 : decode cX7_isLeastOfRing 21 = .ok (.lstore 4, 2) := by decide +kernel
theorem dX7_isLeastOfRing_23 : decode cX7_isLeastOfRing 23 = .ok (.lload 4, 2) := by decide +kernel
theorem dX7_isLeastOfRing_25 : decode cX7_isLeastOfRing 25 = .ok (.lload_n 1, 1) := by decide +kernel
theorem dX7_isLeastOfRing_26 : decode cX7_isLeastOfRing 26 = .ok (.lcmp, 1) := by decide +kernel
theorem dX7_isLeastOfRing_27 : decode cX7_isLeastOfRing 27 = .ok (.ifCond .gt 5, 3) := by decide +kernel
theorem dX7_isLeastOfRing_30 : decode cX7_isLeastOfRing 30 = .ok (.iconst 0, 1) := by decide +kernel
theorem dX7_isLeastOfRing_31 : decode cX7_isLeastOfRing 31 = .ok (.ireturn, 1) := by decide +kernel
theorem dX7_isLeastOfRing_32 : decode cX7_isLeastOfRing 32 = .ok (.iinc 6 1, 3) := by decide +kernel
theorem dX7_isLeastOfRing_35 : decode cX7_isLeastOfRing 35 = .ok (.goto (-29), 3) := by decide +kernel
theorem dX7_isLeastOfRing_38 : decode cX7_isLeastOfRing 38 = .ok (.iconst 1, 1) := by decide +kernel
theorem dX7_isLeastOfRing_39 : decode cX7_isLeastOfRing 39 = .ok (.ireturn, 1) := by decide +kernel
set_option maxRecDepth 20000 in
theorem ggX7_firstWord_X2_zeros : GoodIn wsX7_firstWord wsX2_zeros := goodIn_r _ [6, 7, 8, 9, 10, 5, 11, 12, 28, 29] (by decide +kernel) (by decide +kernel)
set_option maxRecDepth 20000 in
theorem gX7_firstWord_X2_zeros : GoodIn wsX7_firstWord (wsV RX7 394 RX2 yX2_zeros wsX2_zeros) := goodIn_app (goodIn_of _ (by decide +kernel)) ggX7_firstWord_X2_zeros
theorem dX7_firstWord_0 : decode cX7_firstWord 0 = .ok (.aload_n 0, 1) := by decide +kernel
theorem dX7_firstWord_1 : decode cX7_firstWord 1 = .ok (.getfield 58, 3) := by decide +kernel
theorem dX7_firstWord_4 : decode cX7_firstWord 4 = .ok (.iload_n 1, 1) := by decide +kernel
theorem dX7_firstWord_5 : decode cX7_firstWord 5 = .ok (.invokevirtual 394, 3) := by decide +kernel
theorem dX7_firstWord_8 : decode cX7_firstWord 8 = .ok (.iconst 0, 1) := by decide +kernel
theorem dX7_firstWord_9 : decode cX7_firstWord 9 = .ok (.ireturn, 1) := by decide +kernel
set_option maxRecDepth 20000 in
theorem ggX7_nextWord_X2_at : GoodIn wsX7_nextWord wsX2_at := goodIn_r _ [7, 8, 9, 10, 11, 6, 12, 13, 39, 40] (by decide +kernel) (by decide +kernel)
set_option maxRecDepth 20000 in
theorem gX7_nextWord_X2_at : GoodIn wsX7_nextWord (wsV RX7 369 RX2 yX2_at wsX2_at) := goodIn_app (goodIn_of _ (by decide +kernel)) ggX7_nextWord_X2_at
set_option maxRecDepth 20000 in
theorem ggX7_nextWord_X5_measure : GoodIn wsX7_nextWord wsX5_measure := goodIn_r _ [18, 19, 41, 42, 43, 44] (by decide +kernel) (by decide +kernel)
set_option maxRecDepth 20000 in
theorem gX7_nextWord_X5_measure : GoodIn wsX7_nextWord (wsV RX7 99 RX5 yX5_measure wsX5_measure) := goodIn_app (goodIn_of _ (by decide +kernel)) ggX7_nextWord_X5_measure
set_option maxRecDepth 20000 in
theorem ggX7_nextWord_X2_put : GoodIn wsX7_nextWord wsX2_put := goodIn_r _ [23, 8, 9, 10, 11, 6, 12, 13, 39, 40] (by decide +kernel) (by decide +kernel)
set_option maxRecDepth 20000 in
theorem gX7_nextWord_X2_put : GoodIn wsX7_nextWord (wsV RX7 397 RX2 yX2_put wsX2_put) := goodIn_app (goodIn_of _ (by decide +kernel)) ggX7_nextWord_X2_put
theorem dX7_nextWord_0 : decode cX7_nextWord 0 = .ok (.iload_n 1, 1) := by decide +kernel
theorem dX7_nextWord_1 : decode cX7_nextWord 1 = .ok (.iconst 1, 1) := by decide +kernel
theorem dX7_nextWord_2 : decode cX7_nextWord 2 = .ok (.isub, 1) := by decide +kernel
theorem dX7_nextWord_3 : decode cX7_nextWord 3 = .ok (.istore_n 2, 1) := by decide +kernel
theorem dX7_nextWord_4 : decode cX7_nextWord 4 = .ok (.iload_n 2, 1) := by decide +kernel
theorem dX7_nextWord_5 : decode cX7_nextWord 5 = .ok (.ifCond .le 40, 3) := by decide +kernel
theorem dX7_nextWord_8 : decode cX7_nextWord 8 = .ok (.aload_n 0, 1) := by decide +kernel
theorem dX7_nextWord_9 : decode cX7_nextWord 9 = .ok (.getfield 58, 3) := by decide +kernel
theorem dX7_nextWord_12 : decode cX7_nextWord 12 = .ok (.iload_n 2, 1) := by decide +kernel
theorem dX7_nextWord_13 : decode cX7_nextWord 13 = .ok (.invokevirtual 369, 3) := by decide +kernel
theorem dX7_nextWord_16 : decode cX7_nextWord 16 = .ok (.aload_n 0, 1) := by decide +kernel
theorem dX7_nextWord_17 : decode cX7_nextWord 17 = .ok (.getfield 16, 3) := by decide +kernel
theorem dX7_nextWord_20 : decode cX7_nextWord 20 = .ok (.invokevirtual 99, 3) := by decide +kernel
theorem dX7_nextWord_23 : decode cX7_nextWord 23 = .ok (.iconst 1, 1) := by decide +kernel
theorem dX7_nextWord_24 : decode cX7_nextWord 24 = .ok (.isub, 1) := by decide +kernel
theorem dX7_nextWord_25 : decode cX7_nextWord 25 = .ok (.i2l, 1) := by decide +kernel
theorem dX7_nextWord_26 : decode cX7_nextWord 26 = .ok (.lcmp, 1) := by decide +kernel
theorem dX7_nextWord_27 : decode cX7_nextWord 27 = .ok (.ifCond .ne 18, 3) := by decide +kernel
theorem dX7_nextWord_30 : decode cX7_nextWord 30 = .ok (.aload_n 0, 1) := by decide +kernel
theorem dX7_nextWord_31 : decode cX7_nextWord 31 = .ok (.getfield 58, 3) := by decide +kernel
theorem dX7_nextWord_34 : decode cX7_nextWord 34 = .ok (.iload_n 2, 1) := by decide +kernel
theorem dX7_nextWord_35 : decode cX7_nextWord 35 = .ok (.lconst 0, 1) := by decide +kernel
theorem dX7_nextWord_36 : decode cX7_nextWord 36 = .ok (.invokevirtual 397, 3) := by decide +kernel
theorem dX7_nextWord_39 : decode cX7_nextWord 39 = .ok (.iinc 2 (-1), 3) := by decide +kernel
theorem dX7_nextWord_42 : decode cX7_nextWord 42 = .ok (.goto (-38), 3) := by decide +kernel
theorem dX7_nextWord_45 : decode cX7_nextWord 45 = .ok (.aload_n 0, 1) := by decide +kernel
theorem dX7_nextWord_46 : decode cX7_nextWord 46 = .ok (.getfield 58, 3) := by decide +kernel
theorem dX7_nextWord_49 : decode cX7_nextWord 49 = .ok (.iload_n 2, 1) := by decide +kernel
theorem dX7_nextWord_50 : decode cX7_nextWord 50 = .ok (.aload_n 0, 1) := by decide +kernel
theorem dX7_nextWord_51 : decode cX7_nextWord 51 = .ok (.getfield 58, 3) := by decide +kernel
theorem dX7_nextWord_54 : decode cX7_nextWord 54 = .ok (.iload_n 2, 1) := by decide +kernel
theorem dX7_nextWord_55 : decode cX7_nextWord 55 = .ok (.invokevirtual 369, 3) := by decide +kernel
theorem dX7_nextWord_58 : decode cX7_nextWord 58 = .ok (.lconst 1, 1) := by decide +kernel
theorem dX7_nextWord_59 : decode cX7_nextWord 59 = .ok (.ladd, 1) := by decide +kernel
theorem dX7_nextWord_60 : decode cX7_nextWord 60 = .ok (.invokevirtual 397, 3) := by decide +kernel
theorem dX7_nextWord_63 : decode cX7_nextWord 63 = .ok (.iload_n 2, 1) := by decide +kernel
theorem dX7_nextWord_64 : decode cX7_nextWord 64 = .ok (.ireturn, 1) := by decide +kernel
set_option maxRecDepth 20000 in
theorem ggX7_fallOfClass_X5_restOf : GoodIn wsX7_fallOfClass wsX5_restOf := goodIn_r _ [7, 8, 9, 10, 11, 12, 97, 98, 99, 100] (by decide +kernel) (by decide +kernel)
set_option maxRecDepth 20000 in
theorem gX7_fallOfClass_X5_restOf : GoodIn wsX7_fallOfClass (wsV RX7 309 RX5 yX5_restOf wsX5_restOf) := goodIn_app (goodIn_of _ (by decide +kernel)) ggX7_fallOfClass_X5_restOf
set_option maxRecDepth 20000 in
theorem ggX7_fallOfClass_X4_extend : GoodIn wsX7_fallOfClass wsX4_extend := goodIn_ca (goodIn_r _ [17, 18, 19, 20, 21, 22, 16, 23, 24, 25, 26, 6, 27, 28, 29, 30, 31, 32, 8, 33, 34, 35, 36, 37, 38, 39, 40, 41, 42, 43, 44, 45, 46, 47, 48, 49, 50, 51, 52, 53, 54, 55, 56, 57, 58, 59, 60, 61, 101, 102, 103, 97, 98, 99, 100] (by decide +kernel) (by decide +kernel)) (goodIn_sub (fun _ h => List.mem_cons_of_mem _ (List.mem_append_right _ h)) (by decide +kernel))
set_option maxRecDepth 20000 in
theorem gX7_fallOfClass_X4_extend : GoodIn wsX7_fallOfClass (wsV RX7 390 RX4 yX4_extend wsX4_extend) := goodIn_app (goodIn_of _ (by decide +kernel)) ggX7_fallOfClass_X4_extend
set_option maxRecDepth 20000 in
theorem ggX7_fallOfClass_X5_after : GoodIn wsX7_fallOfClass wsX5_after := goodIn_ca (goodIn_r _ [65, 66, 67, 4, 5, 6, 7, 8, 9, 10, 11, 12, 68, 25, 26, 27, 28, 29, 30, 31, 32, 69, 34, 35, 36, 37, 70, 39, 40, 41, 42, 47, 48, 49, 50, 51, 97, 98, 99, 100] (by decide +kernel) (by decide +kernel)) (goodIn_sub (fun _ h => List.mem_cons_of_mem _ (List.mem_append_right _ h)) (by decide +kernel))
set_option maxRecDepth 20000 in
theorem gX7_fallOfClass_X5_after : GoodIn wsX7_fallOfClass (wsV RX7 385 RX5 yX5_after wsX5_after) := goodIn_app (goodIn_of _ (by decide +kernel)) ggX7_fallOfClass_X5_after
set_option maxRecDepth 20000 in
theorem ggX7_fallOfClass_X5_a : GoodIn wsX7_fallOfClass wsX5_a := goodIn_r _ [27, 28, 29, 30, 31, 6, 32, 8, 97, 98, 99, 100] (by decide +kernel) (by decide +kernel)
set_option maxRecDepth 20000 in
theorem gX7_fallOfClass_X5_a : GoodIn wsX7_fallOfClass (wsV RX7 266 RX5 yX5_a wsX5_a) := goodIn_app (goodIn_of _ (by decide +kernel)) ggX7_fallOfClass_X5_a
set_option maxRecDepth 20000 in
theorem ggX7_fallOfClass_X5_d : GoodIn wsX7_fallOfClass wsX5_d := goodIn_r _ [41, 42, 29, 30, 31, 6, 32, 8, 97, 98, 99, 100] (by decide +kernel) (by decide +kernel)
set_option maxRecDepth 20000 in
theorem gX7_fallOfClass_X5_d : GoodIn wsX7_fallOfClass (wsV RX7 299 RX5 yX5_d wsX5_d) := goodIn_app (goodIn_of _ (by decide +kernel)) ggX7_fallOfClass_X5_d
set_option maxRecDepth 20000 in
theorem ggX7_fallOfClass_X7_isNumber : GoodIn wsX7_fallOfClass wsX7_isNumber := goodIn_r _ [49, 50, 51] (by decide +kernel) (by decide +kernel)
set_option maxRecDepth 20000 in
theorem gX7_fallOfClass_X7_isNumber : GoodIn wsX7_fallOfClass (va_wsS RX7 178 yX7_isNumber wsX7_isNumber) := goodIn_app (goodIn_of _ (by decide +kernel)) ggX7_fallOfClass_X7_isNumber
set_option maxRecDepth 20000 in
theorem ggX7_fallOfClass_X4_factor : GoodIn wsX7_fallOfClass wsX4_factor := goodIn_r _ [77, 18, 21, 22, 16, 23, 101, 102, 103] (by decide +kernel) (by decide +kernel)
set_option maxRecDepth 20000 in
theorem gX7_fallOfClass_X4_factor : GoodIn wsX7_fallOfClass (wsV RX7 224 RX4 yX4_factor wsX4_factor) := goodIn_app (goodIn_of _ (by decide +kernel)) ggX7_fallOfClass_X4_factor
set_option maxRecDepth 20000 in
theorem ggX7_fallOfClass_X4_divisor : GoodIn wsX7_fallOfClass wsX4_divisor := goodIn_r _ [81, 20, 21, 22, 16, 23, 101, 102, 103] (by decide +kernel) (by decide +kernel)
set_option maxRecDepth 20000 in
theorem gX7_fallOfClass_X4_divisor : GoodIn wsX7_fallOfClass (wsV RX7 230 RX4 yX4_divisor wsX4_divisor) := goodIn_app (goodIn_of _ (by decide +kernel)) ggX7_fallOfClass_X4_divisor
theorem dX7_fallOfClass_0 : decode cX7_fallOfClass 0 = .ok (.iload_n 1, 1) := by decide +kernel
theorem dX7_fallOfClass_1 : decode cX7_fallOfClass 1 = .ok (.i2l, 1) := by decide +kernel
theorem dX7_fallOfClass_2 : decode cX7_fallOfClass 2 = .ok (.lstore 4, 2) := by decide +kernel
theorem dX7_fallOfClass_4 : decode cX7_fallOfClass 4 = .ok (.iload_n 2, 1) := by decide +kernel
theorem dX7_fallOfClass_5 : decode cX7_fallOfClass 5 = .ok (.i2l, 1) := by decide +kernel
theorem dX7_fallOfClass_6 : decode cX7_fallOfClass 6 = .ok (.lstore 6, 2) := by decide +kernel
theorem dX7_fallOfClass_8 : decode cX7_fallOfClass 8 = .ok (.iconst 0, 1) := by decide +kernel
theorem dX7_fallOfClass_9 : decode cX7_fallOfClass 9 = .ok (.istore 8, 2) := by decide +kernel
theorem dX7_fallOfClass_11 : decode cX7_fallOfClass 11 = .ok (.iload 8, 2) := by decide +kernel
theorem dX7_fallOfClass_13 : decode cX7_fallOfClass 13 = .ok (.iload_n 3, 1) := by decide +kernel
theorem dX7_fallOfClass_14 : decode cX7_fallOfClass 14 = .ok (.if_icmp .ge 111, 3) := by decide +kernel
theorem dX7_fallOfClass_17 : decode cX7_fallOfClass 17 = .ok (.aload_n 0, 1) := by decide +kernel
theorem dX7_fallOfClass_18 : decode cX7_fallOfClass 18 = .ok (.getfield 16, 3) := by decide +kernel
theorem dX7_fallOfClass_21 : decode cX7_fallOfClass 21 = .ok (.lload 6, 2) := by decide +kernel
theorem dX7_fallOfClass_23 : decode cX7_fallOfClass 23 = .ok (.invokevirtual 309, 3) := by decide +kernel
theorem dX7_fallOfClass_26 : decode cX7_fallOfClass 26 = .ok (.ifCond .eq 6, 3) := by decide +kernel
theorem dX7_fallOfClass_29 : decode cX7_fallOfClass 29 = .ok (.bipush (-3), 2) := by decide +kernel
theorem dX7_fallOfClass_31 : decode cX7_fallOfClass 31 = .ok (.ireturn, 1) := by decide +kernel
theorem dX7_fallOfClass_32 : decode cX7_fallOfClass 32 = .ok (.aload_n 0, 1) := by decide +kernel
theorem dX7_fallOfClass_33 : decode cX7_fallOfClass 33 = .ok (.getfield 16, 3) := by decide +kernel
theorem dX7_fallOfClass_36 : decode cX7_fallOfClass 36 = .ok (.lload 4, 2) := by decide +kernel
theorem dX7_fallOfClass_38 : decode cX7_fallOfClass 38 = .ok (.invokevirtual 309, 3) := by decide +kernel
theorem dX7_fallOfClass_41 : decode cX7_fallOfClass 41 = .ok (.istore 9, 2) := by decide +kernel
theorem dX7_fallOfClass_43 : decode cX7_fallOfClass 43 = .ok (.aload_n 0, 1) := by decide +kernel
theorem dX7_fallOfClass_44 : decode cX7_fallOfClass 44 = .ok (.getfield 64, 3) := by decide +kernel
theorem dX7_fallOfClass_47 : decode cX7_fallOfClass 47 = .ok (.iload 8, 2) := by decide +kernel
theorem dX7_fallOfClass_49 : decode cX7_fallOfClass 49 = .ok (.aload_n 0, 1) := by decide +kernel
theorem dX7_fallOfClass_50 : decode cX7_fallOfClass 50 = .ok (.getfield 16, 3) := by decide +kernel
theorem dX7_fallOfClass_53 : decode cX7_fallOfClass 53 = .ok (.iload 9, 2) := by decide +kernel
theorem dX7_fallOfClass_55 : decode cX7_fallOfClass 55 = .ok (.invokevirtual 390, 3) := by decide +kernel
theorem dX7_fallOfClass_58 : decode cX7_fallOfClass 58 = .ok (.istore 10, 2) := by decide +kernel
theorem dX7_fallOfClass_60 : decode cX7_fallOfClass 60 = .ok (.aload_n 0, 1) := by decide +kernel
theorem dX7_fallOfClass_61 : decode cX7_fallOfClass 61 = .ok (.getfield 16, 3) := by decide +kernel
theorem dX7_fallOfClass_64 : decode cX7_fallOfClass 64 = .ok (.lload 4, 2) := by decide +kernel
theorem dX7_fallOfClass_66 : decode cX7_fallOfClass 66 = .ok (.invokevirtual 385, 3) := by decide +kernel
theorem dX7_fallOfClass_69 : decode cX7_fallOfClass 69 = .ok (.lstore 4, 2) := by decide +kernel
theorem dX7_fallOfClass_71 : decode cX7_fallOfClass 71 = .ok (.lload 6, 2) := by decide +kernel
theorem dX7_fallOfClass_73 : decode cX7_fallOfClass 73 = .ok (.aload_n 0, 1) := by decide +kernel
theorem dX7_fallOfClass_74 : decode cX7_fallOfClass 74 = .ok (.getfield 16, 3) := by decide +kernel
theorem dX7_fallOfClass_77 : decode cX7_fallOfClass 77 = .ok (.iload 9, 2) := by decide +kernel
theorem dX7_fallOfClass_79 : decode cX7_fallOfClass 79 = .ok (.invokevirtual 266, 3) := by decide +kernel
theorem dX7_fallOfClass_82 : decode cX7_fallOfClass 82 = .ok (.lmul, 1) := by decide +kernel
theorem dX7_fallOfClass_83 : decode cX7_fallOfClass 83 = .ok (.aload_n 0, 1) := by decide +kernel
theorem dX7_fallOfClass_84 : decode cX7_fallOfClass 84 = .ok (.getfield 16, 3) := by decide +kernel
theorem dX7_fallOfClass_87 : decode cX7_fallOfClass 87 = .ok (.iload 9, 2) := by decide +kernel
theorem dX7_fallOfClass_89 : decode cX7_fallOfClass 89 = .ok (.invokevirtual 299, 3) := by decide +kernel
theorem dX7_fallOfClass_92 : decode cX7_fallOfClass 92 = .ok (.ldiv, 1) := by decide +kernel
theorem dX7_fallOfClass_93 : decode cX7_fallOfClass 93 = .ok (.lstore 6, 2) := by decide +kernel
theorem dX7_fallOfClass_95 : decode cX7_fallOfClass 95 = .ok (.iload 10, 2) := by decide +kernel
theorem dX7_fallOfClass_97 : decode cX7_fallOfClass 97 = .ok (.ifCond .eq 19, 3) := by decide +kernel
theorem dX7_fallOfClass_100 : decode cX7_fallOfClass 100 = .ok (.lload 4, 2) := by decide +kernel
theorem dX7_fallOfClass_102 : decode cX7_fallOfClass 102 = .ok (.invokestatic 178, 3) := by decide +kernel
theorem dX7_fallOfClass_105 : decode cX7_fallOfClass 105 = .ok (.ifCond .eq 11, 3) := by decide +kernel
theorem dX7_fallOfClass_108 : decode cX7_fallOfClass 108 = .ok (.lload 6, 2) := by decide +kernel
theorem dX7_fallOfClass_110 : decode cX7_fallOfClass 110 = .ok (.invokestatic 178, 3) := by decide +kernel
theorem dX7_fallOfClass_113 : decode cX7_fallOfClass 113 = .ok (.ifCond .ne 6, 3) := by decide +kernel
theorem dX7_fallOfClass_116 : decode cX7_fallOfClass 116 = .ok (.bipush (-4), 2) := by decide +kernel
theorem dX7_fallOfClass_118 : decode cX7_fallOfClass 118 = .ok (.ireturn, 1) := by decide +kernel
theorem dX7_fallOfClass_119 : decode cX7_fallOfClass 119 = .ok (.iinc 8 1, 3) := by decide +kernel
theorem dX7_fallOfClass_122 : decode cX7_fallOfClass 122 = .ok (.goto (-111), 3) := by decide +kernel
theorem dX7_fallOfClass_125 : decode cX7_fallOfClass 125 = .ok (.aload_n 0, 1) := by decide +kernel
theorem dX7_fallOfClass_126 : decode cX7_fallOfClass 126 = .ok (.getfield 64, 3) := by decide +kernel
theorem dX7_fallOfClass_129 : decode cX7_fallOfClass 129 = .ok (.iload_n 3, 1) := by decide +kernel
theorem dX7_fallOfClass_130 : decode cX7_fallOfClass 130 = .ok (.invokevirtual 224, 3) := by decide +kernel
theorem dX7_fallOfClass_133 : decode cX7_fallOfClass 133 = .ok (.aload_n 0, 1) := by decide +kernel
theorem dX7_fallOfClass_134 : decode cX7_fallOfClass 134 = .ok (.getfield 64, 3) := by decide +kernel
theorem dX7_fallOfClass_137 : decode cX7_fallOfClass 137 = .ok (.iload_n 3, 1) := by decide +kernel
theorem dX7_fallOfClass_138 : decode cX7_fallOfClass 138 = .ok (.invokevirtual 230, 3) := by decide +kernel
theorem dX7_fallOfClass_141 : decode cX7_fallOfClass 141 = .ok (.lcmp, 1) := by decide +kernel
theorem dX7_fallOfClass_142 : decode cX7_fallOfClass 142 = .ok (.ifCond .ge 7, 3) := by decide +kernel
theorem dX7_fallOfClass_145 : decode cX7_fallOfClass 145 = .ok (.iconst 1, 1) := by decide +kernel
theorem dX7_fallOfClass_146 : decode cX7_fallOfClass 146 = .ok (.goto 4, 3) := by decide +kernel
theorem dX7_fallOfClass_149 : decode cX7_fallOfClass 149 = .ok (.iconst 0, 1) := by decide +kernel
theorem dX7_fallOfClass_150 : decode cX7_fallOfClass 150 = .ok (.ireturn, 1) := by decide +kernel
set_option maxRecDepth 20000 in
theorem ggX7_goBackFromFound_X2_empty : GoodIn wsX7_goBackFromFound wsX2_empty := goodIn_r _ [8, 9, 92, 93] (by decide +kernel) (by decide +kernel)
set_option maxRecDepth 20000 in
theorem gX7_goBackFromFound_X2_empty : GoodIn wsX7_goBackFromFound (wsV RX7 208 RX2 yX2_empty wsX2_empty) := goodIn_app (goodIn_of _ (by decide +kernel)) ggX7_goBackFromFound_X2_empty
set_option maxRecDepth 20000 in
theorem ggX7_goBackFromFound_X2_size : GoodIn wsX7_goBackFromFound wsX2_size := goodIn_r _ [13, 9, 92, 93] (by decide +kernel) (by decide +kernel)
set_option maxRecDepth 20000 in
theorem gX7_goBackFromFound_X2_size : GoodIn wsX7_goBackFromFound (wsV RX7 149 RX2 yX2_size wsX2_size) := goodIn_app (goodIn_of _ (by decide +kernel)) ggX7_goBackFromFound_X2_size
set_option maxRecDepth 20000 in
theorem ggX7_goBackFromFound_X5_measure : GoodIn wsX7_goBackFromFound wsX5_measure := goodIn_r _ [18, 19, 94, 95, 96, 97] (by decide +kernel) (by decide +kernel)
set_option maxRecDepth 20000 in
theorem gX7_goBackFromFound_X5_measure : GoodIn wsX7_goBackFromFound (wsV RX7 99 RX5 yX5_measure wsX5_measure) := goodIn_app (goodIn_of _ (by decide +kernel)) ggX7_goBackFromFound_X5_measure
set_option maxRecDepth 20000 in
theorem ggX7_goBackFromFound_X2_at : GoodIn wsX7_goBackFromFound wsX2_at := goodIn_r _ [23, 24, 25, 26, 27, 7, 28, 9, 92, 93] (by decide +kernel) (by decide +kernel)
set_option maxRecDepth 20000 in
theorem gX7_goBackFromFound_X2_at : GoodIn wsX7_goBackFromFound (wsV RX7 369 RX2 yX2_at wsX2_at) := goodIn_app (goodIn_of _ (by decide +kernel)) ggX7_goBackFromFound_X2_at
set_option maxRecDepth 20000 in
theorem ggX7_goBackFromFound_X5_before : GoodIn wsX7_goBackFromFound wsX5_before := goodIn_ca (goodIn_r _ [32, 33, 34, 35, 36, 17, 37, 38, 39, 40, 41, 42, 19, 43, 44, 45, 46, 47, 48, 49, 50, 51, 52, 53, 54, 55, 56, 57, 58, 59, 60, 61, 62, 63, 64, 65, 94, 95, 96, 97] (by decide +kernel) (by decide +kernel)) (goodIn_sub (fun _ h => List.mem_cons_of_mem _ (List.mem_append_right _ h)) (by decide +kernel))
set_option maxRecDepth 20000 in
theorem gX7_goBackFromFound_X5_before : GoodIn wsX7_goBackFromFound (wsV RX7 263 RX5 yX5_before wsX5_before) := goodIn_app (goodIn_of _ (by decide +kernel)) ggX7_goBackFromFound_X5_before
set_option maxRecDepth 20000 in
theorem ggX7_goBackFromFound_X7_isNumber : GoodIn wsX7_goBackFromFound wsX7_isNumber := goodIn_r _ [55, 56, 57] (by decide +kernel) (by decide +kernel)
set_option maxRecDepth 20000 in
theorem gX7_goBackFromFound_X7_isNumber : GoodIn wsX7_goBackFromFound (va_wsS RX7 178 yX7_isNumber wsX7_isNumber) := goodIn_app (goodIn_of _ (by decide +kernel)) ggX7_goBackFromFound_X7_isNumber
set_option maxRecDepth 20000 in
theorem ggX7_goBackFromFound_X2_add : GoodIn wsX7_goBackFromFound wsX2_add := goodIn_r _ [70, 9, 24, 92, 93] (by decide +kernel) (by decide +kernel)
set_option maxRecDepth 20000 in
theorem gX7_goBackFromFound_X2_add : GoodIn wsX7_goBackFromFound (wsV RX7 213 RX2 yX2_add wsX2_add) := goodIn_app (goodIn_of _ (by decide +kernel)) ggX7_goBackFromFound_X2_add
set_option maxRecDepth 20000 in
theorem ggX7_goBackFromFound_X2_become : GoodIn wsX7_goBackFromFound wsX2_become := goodIn_r _ [74, 9, 75, 21, 22, 7, 23, 24, 25, 26, 27, 28, 76, 68, 69, 70, 92, 93] (by decide +kernel) (by decide +kernel)
set_option maxRecDepth 20000 in
theorem gX7_goBackFromFound_X2_become : GoodIn wsX7_goBackFromFound (wsV RX7 215 RX2 yX2_become wsX2_become) := goodIn_app (goodIn_of _ (by decide +kernel)) ggX7_goBackFromFound_X2_become
theorem dX7_goBackFromFound_0 : decode cX7_goBackFromFound 0 = .ok (.aload_n 0, 1) := by decide +kernel
theorem dX7_goBackFromFound_1 : decode cX7_goBackFromFound 1 = .ok (.getfield 52, 3) := by decide +kernel
theorem dX7_goBackFromFound_4 : decode cX7_goBackFromFound 4 = .ok (.invokevirtual 208, 3) := by decide +kernel
theorem dX7_goBackFromFound_7 : decode cX7_goBackFromFound 7 = .ok (.iconst 0, 1) := by decide +kernel
theorem dX7_goBackFromFound_8 : decode cX7_goBackFromFound 8 = .ok (.istore_n 1, 1) := by decide +kernel
theorem dX7_goBackFromFound_9 : decode cX7_goBackFromFound 9 = .ok (.iload_n 1, 1) := by decide +kernel
theorem dX7_goBackFromFound_10 : decode cX7_goBackFromFound 10 = .ok (.aload_n 0, 1) := by decide +kernel
theorem dX7_goBackFromFound_11 : decode cX7_goBackFromFound 11 = .ok (.getfield 49, 3) := by decide +kernel
theorem dX7_goBackFromFound_14 : decode cX7_goBackFromFound 14 = .ok (.invokevirtual 149, 3) := by decide +kernel
theorem dX7_goBackFromFound_17 : decode cX7_goBackFromFound 17 = .ok (.if_icmp .ge 65, 3) := by decide +kernel
theorem dX7_goBackFromFound_20 : decode cX7_goBackFromFound 20 = .ok (.iconst 0, 1) := by decide +kernel
theorem dX7_goBackFromFound_21 : decode cX7_goBackFromFound 21 = .ok (.istore_n 2, 1) := by decide +kernel
theorem dX7_goBackFromFound_22 : decode cX7_goBackFromFound 22 = .ok (.iload_n 2, 1) := by decide +kernel
theorem dX7_goBackFromFound_23 : decode cX7_goBackFromFound 23 = .ok (.aload_n 0, 1) := by decide +kernel
theorem dX7_goBackFromFound_24 : decode cX7_goBackFromFound 24 = .ok (.getfield 16, 3) := by decide +kernel
theorem dX7_goBackFromFound_27 : decode cX7_goBackFromFound 27 = .ok (.invokevirtual 99, 3) := by decide +kernel
theorem dX7_goBackFromFound_30 : decode cX7_goBackFromFound 30 = .ok (.if_icmp .ge 46, 3) := by decide +kernel
theorem dX7_goBackFromFound_33 : decode cX7_goBackFromFound 33 = .ok (.aload_n 0, 1) := by decide +kernel
theorem dX7_goBackFromFound_34 : decode cX7_goBackFromFound 34 = .ok (.getfield 16, 3) := by decide +kernel
theorem dX7_goBackFromFound_37 : decode cX7_goBackFromFound 37 = .ok (.aload_n 0, 1) := by decide +kernel
theorem dX7_goBackFromFound_38 : decode cX7_goBackFromFound 38 = .ok (.getfield 49, 3) := by decide +kernel
theorem dX7_goBackFromFound_41 : decode cX7_goBackFromFound 41 = .ok (.iload_n 1, 1) := by decide +kernel
theorem dX7_goBackFromFound_42 : decode cX7_goBackFromFound 42 = .ok (.invokevirtual 369, 3) := by decide +kernel
theorem dX7_goBackFromFound_45 : decode cX7_goBackFromFound 45 = .ok (.iload_n 2, 1) := by decide +kernel
theorem dX7_goBackFromFound_46 : decode cX7_goBackFromFound 46 = .ok (.invokevirtual 263, 3) := by decide +kernel
theorem dX7_goBackFromFound_49 : decode cX7_goBackFromFound 49 = .ok (.lstore_n 3, 1) := by decide +kernel
theorem dX7_goBackFromFound_50 : decode cX7_goBackFromFound 50 = .ok (.lload_n 3, 1) := by decide +kernel
theorem dX7_goBackFromFound_51 : decode cX7_goBackFromFound 51 = .ok (.invokestatic 178, 3) := by decide +kernel
theorem dX7_goBackFromFound_54 : decode cX7_goBackFromFound 54 = .ok (.ifCond .eq 16, 3) := by decide +kernel
theorem dX7_goBackFromFound_57 : decode cX7_goBackFromFound 57 = .ok (.aload_n 0, 1) := by decide +kernel
theorem dX7_goBackFromFound_58 : decode cX7_goBackFromFound 58 = .ok (.getfield 52, 3) := by decide +kernel
theorem dX7_goBackFromFound_61 : decode cX7_goBackFromFound 61 = .ok (.lload_n 3, 1) := by decide +kernel
theorem dX7_goBackFromFound_62 : decode cX7_goBackFromFound 62 = .ok (.invokevirtual 213, 3) := by decide +kernel
theorem dX7_goBackFromFound_65 : decode cX7_goBackFromFound 65 = .ok (.ifCond .ne 5, 3) := by decide +kernel
theorem dX7_goBackFromFound_68 : decode cX7_goBackFromFound 68 = .ok (.iconst 0, 1) := by decide +kernel
theorem dX7_goBackFromFound_69 : decode cX7_goBackFromFound 69 = .ok (.ireturn, 1) := by decide +kernel
theorem dX7_goBackFromFound_70 : decode cX7_goBackFromFound 70 = .ok (.iinc 2 1, 3) := by decide +kernel
theorem dX7_goBackFromFound_73 : decode cX7_goBackFromFound 73 = .ok (.goto (-51), 3) := by decide +kernel
theorem dX7_goBackFromFound_76 : decode cX7_goBackFromFound 76 = .ok (.iinc 1 1, 3) := by decide +kernel
theorem dX7_goBackFromFound_79 : decode cX7_goBackFromFound 79 = .ok (.goto (-70), 3) := by decide +kernel
theorem dX7_goBackFromFound_82 : decode cX7_goBackFromFound 82 = .ok (.aload_n 0, 1) := by decide +kernel
theorem dX7_goBackFromFound_83 : decode cX7_goBackFromFound 83 = .ok (.getfield 49, 3) := by decide +kernel
theorem dX7_goBackFromFound_86 : decode cX7_goBackFromFound 86 = .ok (.aload_n 0, 1) := by decide +kernel
theorem dX7_goBackFromFound_87 : decode cX7_goBackFromFound 87 = .ok (.getfield 52, 3) := by decide +kernel
theorem dX7_goBackFromFound_90 : decode cX7_goBackFromFound 90 = .ok (.invokevirtual 215, 3) := by decide +kernel
theorem dX7_goBackFromFound_93 : decode cX7_goBackFromFound 93 = .ok (.iconst 1, 1) := by decide +kernel
theorem dX7_goBackFromFound_94 : decode cX7_goBackFromFound 94 = .ok (.ireturn, 1) := by decide +kernel
set_option maxRecDepth 20000 in
theorem ggX7_turnRest_X5_restThatComesTo : GoodIn wsX7_turnRest wsX5_restThatComesTo := goodIn_ca (goodIn_r _ [8, 9, 10, 11, 12, 13, 14, 15, 16, 7, 17, 18, 19, 20, 21, 22, 23, 24, 25, 26, 27, 28, 29, 30, 31, 32, 33, 34, 35, 36, 37, 38, 39, 40, 41, 42, 43, 71, 72, 73, 74] (by decide +kernel) (by decide +kernel)) (goodIn_sub (fun _ h => List.mem_cons_of_mem _ (List.mem_append_right _ h)) (by decide +kernel))
set_option maxRecDepth 20000 in
theorem gX7_turnRest_X5_restThatComesTo : GoodIn wsX7_turnRest (wsV RX7 401 RX5 yX5_restThatComesTo wsX5_restThatComesTo) := goodIn_app (goodIn_of _ (by decide +kernel)) ggX7_turnRest_X5_restThatComesTo
set_option maxRecDepth 20000 in
theorem ggX7_turnRest_X5_a : GoodIn wsX7_turnRest wsX5_a := goodIn_r _ [21, 22, 23, 24, 25, 7, 26, 9, 71, 72, 73, 74] (by decide +kernel) (by decide +kernel)
set_option maxRecDepth 20000 in
theorem gX7_turnRest_X5_a : GoodIn wsX7_turnRest (wsV RX7 266 RX5 yX5_a wsX5_a) := goodIn_app (goodIn_of _ (by decide +kernel)) ggX7_turnRest_X5_a
set_option maxRecDepth 20000 in
theorem ggX7_turnRest_X5_d : GoodIn wsX7_turnRest wsX5_d := goodIn_r _ [35, 36, 23, 24, 25, 7, 26, 9, 71, 72, 73, 74] (by decide +kernel) (by decide +kernel)
set_option maxRecDepth 20000 in
theorem gX7_turnRest_X5_d : GoodIn wsX7_turnRest (wsV RX7 299 RX5 yX5_d wsX5_d) := goodIn_app (goodIn_of _ (by decide +kernel)) ggX7_turnRest_X5_d
set_option maxRecDepth 20000 in
theorem ggX7_turnRest_X5_b : GoodIn wsX7_turnRest wsX5_b := goodIn_r _ [30, 31, 23, 24, 25, 7, 26, 9, 71, 72, 73, 74] (by decide +kernel) (by decide +kernel)
set_option maxRecDepth 20000 in
theorem gX7_turnRest_X5_b : GoodIn wsX7_turnRest (wsV RX7 306 RX5 yX5_b wsX5_b) := goodIn_app (goodIn_of _ (by decide +kernel)) ggX7_turnRest_X5_b
set_option maxRecDepth 20000 in
theorem ggX7_turnRest_X7_commonDivisor : GoodIn wsX7_turnRest wsX7_commonDivisor := goodIn_ca (goodIn_r _ [50, 51, 42, 12, 43] (by decide +kernel) (by decide +kernel)) (goodIn_sub (fun _ h => List.mem_cons_of_mem _ (List.mem_append_right _ h)) (by decide +kernel))
set_option maxRecDepth 20000 in
theorem gX7_turnRest_X7_commonDivisor : GoodIn wsX7_turnRest (va_wsS RX7 406 yX7_commonDivisor wsX7_commonDivisor) := goodIn_app (goodIn_of _ (by decide +kernel)) ggX7_turnRest_X7_commonDivisor
set_option maxRecDepth 20000 in
theorem ggX7_turnRest_X5_write : GoodIn wsX7_turnRest wsX5_write := goodIn_r _ [55, 22, 31, 36, 23, 24, 25, 7, 26, 9, 71, 72, 73, 74] (by decide +kernel) (by decide +kernel)
set_option maxRecDepth 20000 in
theorem gX7_turnRest_X5_write : GoodIn wsX7_turnRest (wsV RX7 116 RX5 yX5_write wsX5_write) := goodIn_app (goodIn_of _ (by decide +kernel)) ggX7_turnRest_X5_write
theorem dX7_turnRest_0 : decode cX7_turnRest 0 = .ok (.aload_n 0, 1) := by decide +kernel
theorem dX7_turnRest_1 : decode cX7_turnRest 1 = .ok (.getfield 16, 3) := by decide +kernel
theorem dX7_turnRest_4 : decode cX7_turnRest 4 = .ok (.iload_n 1, 1) := by decide +kernel
theorem dX7_turnRest_5 : decode cX7_turnRest 5 = .ok (.i2l, 1) := by decide +kernel
theorem dX7_turnRest_6 : decode cX7_turnRest 6 = .ok (.invokevirtual 401, 3) := by decide +kernel
theorem dX7_turnRest_9 : decode cX7_turnRest 9 = .ok (.istore_n 2, 1) := by decide +kernel
theorem dX7_turnRest_10 : decode cX7_turnRest 10 = .ok (.aload_n 0, 1) := by decide +kernel
theorem dX7_turnRest_11 : decode cX7_turnRest 11 = .ok (.getfield 16, 3) := by decide +kernel
theorem dX7_turnRest_14 : decode cX7_turnRest 14 = .ok (.iload_n 2, 1) := by decide +kernel
theorem dX7_turnRest_15 : decode cX7_turnRest 15 = .ok (.invokevirtual 266, 3) := by decide +kernel
theorem dX7_turnRest_18 : decode cX7_turnRest 18 = .ok (.lconst 0, 1) := by decide +kernel
theorem dX7_turnRest_19 : decode cX7_turnRest 19 = .ok (.lcmp, 1) := by decide +kernel
theorem dX7_turnRest_20 : decode cX7_turnRest 20 = .ok (.ifCond .ge 9, 3) := by decide +kernel
theorem dX7_turnRest_23 : decode cX7_turnRest 23 = .ok (.ldc2_w 404, 3) := by decide +kernel
theorem dX7_turnRest_26 : decode cX7_turnRest 26 = .ok (.goto 4, 3) := by decide +kernel
theorem dX7_turnRest_29 : decode cX7_turnRest 29 = .ok (.lconst 1, 1) := by decide +kernel
theorem dX7_turnRest_30 : decode cX7_turnRest 30 = .ok (.lstore_n 3, 1) := by decide +kernel
theorem dX7_turnRest_31 : decode cX7_turnRest 31 = .ok (.lload_n 3, 1) := by decide +kernel
theorem dX7_turnRest_32 : decode cX7_turnRest 32 = .ok (.aload_n 0, 1) := by decide +kernel
theorem dX7_turnRest_33 : decode cX7_turnRest 33 = .ok (.getfield 16, 3) := by decide +kernel
theorem dX7_turnRest_36 : decode cX7_turnRest 36 = .ok (.iload_n 2, 1) := by decide +kernel
theorem dX7_turnRest_37 : decode cX7_turnRest 37 = .ok (.invokevirtual 299, 3) := by decide +kernel
theorem dX7_turnRest_40 : decode cX7_turnRest 40 = .ok (.lmul, 1) := by decide +kernel
theorem dX7_turnRest_41 : decode cX7_turnRest 41 = .ok (.lstore 5, 2) := by decide +kernel
theorem dX7_turnRest_43 : decode cX7_turnRest 43 = .ok (.lload_n 3, 1) := by decide +kernel
theorem dX7_turnRest_44 : decode cX7_turnRest 44 = .ok (.lneg, 1) := by decide +kernel
theorem dX7_turnRest_45 : decode cX7_turnRest 45 = .ok (.aload_n 0, 1) := by decide +kernel
theorem dX7_turnRest_46 : decode cX7_turnRest 46 = .ok (.getfield 16, 3) := by decide +kernel
theorem dX7_turnRest_49 : decode cX7_turnRest 49 = .ok (.iload_n 2, 1) := by decide +kernel
theorem dX7_turnRest_50 : decode cX7_turnRest 50 = .ok (.invokevirtual 306, 3) := by decide +kernel
theorem dX7_turnRest_53 : decode cX7_turnRest 53 = .ok (.lmul, 1) := by decide +kernel
theorem dX7_turnRest_54 : decode cX7_turnRest 54 = .ok (.lstore 7, 2) := by decide +kernel
theorem dX7_turnRest_56 : decode cX7_turnRest 56 = .ok (.lload_n 3, 1) := by decide +kernel
theorem dX7_turnRest_57 : decode cX7_turnRest 57 = .ok (.aload_n 0, 1) := by decide +kernel
theorem dX7_turnRest_58 : decode cX7_turnRest 58 = .ok (.getfield 16, 3) := by decide +kernel
theorem dX7_turnRest_61 : decode cX7_turnRest 61 = .ok (.iload_n 2, 1) := by decide +kernel
theorem dX7_turnRest_62 : decode cX7_turnRest 62 = .ok (.invokevirtual 266, 3) := by decide +kernel
theorem dX7_turnRest_65 : decode cX7_turnRest 65 = .ok (.lmul, 1) := by decide +kernel
theorem dX7_turnRest_66 : decode cX7_turnRest 66 = .ok (.lstore 9, 2) := by decide +kernel
theorem dX7_turnRest_68 : decode cX7_turnRest 68 = .ok (.lload 5, 2) := by decide +kernel
theorem dX7_turnRest_70 : decode cX7_turnRest 70 = .ok (.lload 7, 2) := by decide +kernel
theorem dX7_turnRest_72 : decode cX7_turnRest 72 = .ok (.invokestatic 406, 3) := by decide +kernel
theorem dX7_turnRest_75 : decode cX7_turnRest 75 = .ok (.lload 9, 2) := by decide +kernel
theorem dX7_turnRest_77 : decode cX7_turnRest 77 = .ok (.invokestatic 406, 3) := by decide +kernel
theorem dX7_turnRest_80 : decode cX7_turnRest 80 = .ok (.lstore 11, 2) := by decide +kernel
theorem dX7_turnRest_82 : decode cX7_turnRest 82 = .ok (.aload_n 0, 1) := by decide +kernel
theorem dX7_turnRest_83 : decode cX7_turnRest 83 = .ok (.getfield 23, 3) := by decide +kernel
theorem dX7_turnRest_86 : decode cX7_turnRest 86 = .ok (.iload_n 1, 1) := by decide +kernel
theorem dX7_turnRest_87 : decode cX7_turnRest 87 = .ok (.iconst 0, 1) := by decide +kernel
theorem dX7_turnRest_88 : decode cX7_turnRest 88 = .ok (.lload 5, 2) := by decide +kernel
theorem dX7_turnRest_90 : decode cX7_turnRest 90 = .ok (.lload 11, 2) := by decide +kernel
theorem dX7_turnRest_92 : decode cX7_turnRest 92 = .ok (.ldiv, 1) := by decide +kernel
theorem dX7_turnRest_93 : decode cX7_turnRest 93 = .ok (.invokevirtual 116, 3) := by decide +kernel
theorem dX7_turnRest_96 : decode cX7_turnRest 96 = .ok (.aload_n 0, 1) := by decide +kernel
theorem dX7_turnRest_97 : decode cX7_turnRest 97 = .ok (.getfield 23, 3) := by decide +kernel
theorem dX7_turnRest_100 : decode cX7_turnRest 100 = .ok (.iload_n 1, 1) := by decide +kernel
theorem dX7_turnRest_101 : decode cX7_turnRest 101 = .ok (.iconst 1, 1) := by decide +kernel
theorem dX7_turnRest_102 : decode cX7_turnRest 102 = .ok (.lload 7, 2) := by decide +kernel
theorem dX7_turnRest_104 : decode cX7_turnRest 104 = .ok (.lload 11, 2) := by decide +kernel
theorem dX7_turnRest_106 : decode cX7_turnRest 106 = .ok (.ldiv, 1) := by decide +kernel
theorem dX7_turnRest_107 : decode cX7_turnRest 107 = .ok (.invokevirtual 116, 3) := by decide +kernel
theorem dX7_turnRest_110 : decode cX7_turnRest 110 = .ok (.aload_n 0, 1) := by decide +kernel
theorem dX7_turnRest_111 : decode cX7_turnRest 111 = .ok (.getfield 23, 3) := by decide +kernel
theorem dX7_turnRest_114 : decode cX7_turnRest 114 = .ok (.iload_n 1, 1) := by decide +kernel
theorem dX7_turnRest_115 : decode cX7_turnRest 115 = .ok (.iconst 2, 1) := by decide +kernel
theorem dX7_turnRest_116 : decode cX7_turnRest 116 = .ok (.lload 9, 2) := by decide +kernel
theorem dX7_turnRest_118 : decode cX7_turnRest 118 = .ok (.lload 11, 2) := by decide +kernel
theorem dX7_turnRest_120 : decode cX7_turnRest 120 = .ok (.ldiv, 1) := by decide +kernel
theorem dX7_turnRest_121 : decode cX7_turnRest 121 = .ok (.invokevirtual 116, 3) := by decide +kernel
theorem dX7_turnRest_124 : decode cX7_turnRest 124 = .ok (.return_, 1) := by decide +kernel
set_option maxRecDepth 20000 in
theorem ggX7_heapPrime_X7_prime : GoodIn wsX7_heapPrime wsX7_prime := goodIn_r _ [4, 5] (by decide +kernel) (by decide +kernel)
set_option maxRecDepth 20000 in
theorem gX7_heapPrime_X7_prime : GoodIn wsX7_heapPrime (va_wsS RX7 409 yX7_prime wsX7_prime) := goodIn_app (goodIn_of _ (by decide +kernel)) ggX7_heapPrime_X7_prime
theorem dX7_heapPrime_0 : decode cX7_heapPrime 0 = .ok (.iload_n 0, 1) := by decide +kernel
theorem dX7_heapPrime_1 : decode cX7_heapPrime 1 = .ok (.invokestatic 409, 3) := by decide +kernel
theorem dX7_heapPrime_4 : decode cX7_heapPrime 4 = .ok (.lreturn, 1) := by decide +kernel
set_option maxRecDepth 20000 in
theorem ggX7_goPrime_X7_prime : GoodIn wsX7_goPrime wsX7_prime := goodIn_r _ [4, 5] (by decide +kernel) (by decide +kernel)
set_option maxRecDepth 20000 in
theorem gX7_goPrime_X7_prime : GoodIn wsX7_goPrime (va_wsS RX7 409 yX7_prime wsX7_prime) := goodIn_app (goodIn_of _ (by decide +kernel)) ggX7_goPrime_X7_prime
theorem dX7_goPrime_0 : decode cX7_goPrime 0 = .ok (.iconst 4, 1) := by decide +kernel
theorem dX7_goPrime_1 : decode cX7_goPrime 1 = .ok (.iconst 2, 1) := by decide +kernel
theorem dX7_goPrime_2 : decode cX7_goPrime 2 = .ok (.iload_n 0, 1) := by decide +kernel
theorem dX7_goPrime_3 : decode cX7_goPrime 3 = .ok (.imul, 1) := by decide +kernel
theorem dX7_goPrime_4 : decode cX7_goPrime 4 = .ok (.iadd, 1) := by decide +kernel
theorem dX7_goPrime_5 : decode cX7_goPrime 5 = .ok (.invokestatic 409, 3) := by decide +kernel
theorem dX7_goPrime_8 : decode cX7_goPrime 8 = .ok (.lreturn, 1) := by decide +kernel
set_option maxRecDepth 20000 in
theorem ggX7_waitPrime_X7_prime : GoodIn wsX7_waitPrime wsX7_prime := goodIn_r _ [4, 5] (by decide +kernel) (by decide +kernel)
set_option maxRecDepth 20000 in
theorem gX7_waitPrime_X7_prime : GoodIn wsX7_waitPrime (va_wsS RX7 409 yX7_prime wsX7_prime) := goodIn_app (goodIn_of _ (by decide +kernel)) ggX7_waitPrime_X7_prime
theorem dX7_waitPrime_0 : decode cX7_waitPrime 0 = .ok (.iconst 4, 1) := by decide +kernel
theorem dX7_waitPrime_1 : decode cX7_waitPrime 1 = .ok (.iconst 2, 1) := by decide +kernel
theorem dX7_waitPrime_2 : decode cX7_waitPrime 2 = .ok (.iload_n 0, 1) := by decide +kernel
theorem dX7_waitPrime_3 : decode cX7_waitPrime 3 = .ok (.imul, 1) := by decide +kernel
theorem dX7_waitPrime_4 : decode cX7_waitPrime 4 = .ok (.iadd, 1) := by decide +kernel
theorem dX7_waitPrime_5 : decode cX7_waitPrime 5 = .ok (.iconst 1, 1) := by decide +kernel
theorem dX7_waitPrime_6 : decode cX7_waitPrime 6 = .ok (.iadd, 1) := by decide +kernel
theorem dX7_waitPrime_7 : decode cX7_waitPrime 7 = .ok (.invokestatic 409, 3) := by decide +kernel
theorem dX7_waitPrime_10 : decode cX7_waitPrime 10 = .ok (.lreturn, 1) := by decide +kernel
theorem dX7_prime_0 : decode cX7_prime 0 = .ok (.iload_n 0, 1) := by decide +kernel
theorem dX7_prime_1 : decode cX7_prime 1 = .ok (.ifCond .lt 20, 3) := by decide +kernel
theorem dX7_prime_4 : decode cX7_prime 4 = .ok (.iload_n 0, 1) := by decide +kernel
theorem dX7_prime_5 : decode cX7_prime 5 = .ok (.getstatic 412, 3) := by decide +kernel
theorem dX7_prime_8 : decode cX7_prime 8 = .ok (.arraylength, 1) := by decide +kernel
theorem dX7_prime_9 : decode cX7_prime 9 = .ok (.if_icmp .ge 12, 3) := by decide +kernel
theorem dX7_prime_12 : decode cX7_prime 12 = .ok (.getstatic 412, 3) := by decide +kernel
theorem dX7_prime_15 : decode cX7_prime 15 = .ok (.iload_n 0, 1) := by decide +kernel
theorem dX7_prime_16 : decode cX7_prime 16 = .ok (.iaload, 1) := by decide +kernel
theorem dX7_prime_17 : decode cX7_prime 17 = .ok (.i2l, 1) := by decide +kernel
theorem dX7_prime_18 : decode cX7_prime 18 = .ok (.goto 4, 3) := by decide +kernel
theorem dX7_prime_21 : decode cX7_prime 21 = .ok (.lconst 1, 1) := by decide +kernel
theorem dX7_prime_22 : decode cX7_prime 22 = .ok (.lreturn, 1) := by decide +kernel
set_option maxRecDepth 20000 in
theorem ggX7_addFractionsOfAct_X1_next : GoodIn wsX7_addFractionsOfAct wsX1_next := goodIn_r _ [7, 8, 9, 10, 11, 12, 13, 14, 15, 16, 17, 18, 19, 78, 79, 80, 81, 82, 83, 84, 85] (by decide +kernel) (by decide +kernel)
set_option maxRecDepth 20000 in
theorem gX7_addFractionsOfAct_X1_next : GoodIn wsX7_addFractionsOfAct (wsV RX7 416 RX1 yX1_next wsX1_next) := goodIn_app (goodIn_of _ (by decide +kernel)) ggX7_addFractionsOfAct_X1_next
set_option maxRecDepth 20000 in
theorem ggX7_addFractionsOfAct_X7_waitPrime : GoodIn wsX7_addFractionsOfAct wsX7_waitPrime := goodIn_r _ [23, 24, 25, 22, 26, 27] (by decide +kernel) (by decide +kernel)
set_option maxRecDepth 20000 in
theorem gX7_addFractionsOfAct_X7_waitPrime : GoodIn wsX7_addFractionsOfAct (va_wsS RX7 344 yX7_waitPrime wsX7_waitPrime) := goodIn_app (goodIn_of _ (by decide +kernel)) ggX7_addFractionsOfAct_X7_waitPrime
set_option maxRecDepth 20000 in
theorem ggX7_addFractionsOfAct_X1_heap : GoodIn wsX7_addFractionsOfAct wsX1_heap := goodIn_r _ [31, 32, 9, 10, 11, 12, 13, 14, 15, 16, 17, 18, 19, 78, 79, 80, 81, 82, 83, 84, 85] (by decide +kernel) (by decide +kernel)
set_option maxRecDepth 20000 in
theorem gX7_addFractionsOfAct_X1_heap : GoodIn wsX7_addFractionsOfAct (wsV RX7 419 RX1 yX1_heap wsX1_heap) := goodIn_app (goodIn_of _ (by decide +kernel)) ggX7_addFractionsOfAct_X1_heap
set_option maxRecDepth 20000 in
theorem ggX7_addFractionsOfAct_X7_heapPrime : GoodIn wsX7_addFractionsOfAct wsX7_heapPrime := goodIn_r _ [35, 24, 25, 22, 26, 27] (by decide +kernel) (by decide +kernel)
set_option maxRecDepth 20000 in
theorem gX7_addFractionsOfAct_X7_heapPrime : GoodIn wsX7_addFractionsOfAct (va_wsS RX7 352 yX7_heapPrime wsX7_heapPrime) := goodIn_app (goodIn_of _ (by decide +kernel)) ggX7_addFractionsOfAct_X7_heapPrime
set_option maxRecDepth 20000 in
theorem ggX7_addFractionsOfAct_X1_kind : GoodIn wsX7_addFractionsOfAct wsX1_kind := goodIn_r _ [39, 40, 9, 10, 11, 12, 13, 14, 15, 16, 17, 18, 19, 78, 79, 80, 81, 82, 83, 84, 85] (by decide +kernel) (by decide +kernel)
set_option maxRecDepth 20000 in
theorem gX7_addFractionsOfAct_X1_kind : GoodIn wsX7_addFractionsOfAct (wsV RX7 422 RX1 yX1_kind wsX1_kind) := goodIn_app (goodIn_of _ (by decide +kernel)) ggX7_addFractionsOfAct_X1_kind
set_option maxRecDepth 20000 in
theorem ggX7_addFractionsOfAct_X7_goPrime : GoodIn wsX7_addFractionsOfAct wsX7_goPrime := goodIn_r _ [43, 24, 25, 22, 26, 27] (by decide +kernel) (by decide +kernel)
set_option maxRecDepth 20000 in
theorem gX7_addFractionsOfAct_X7_goPrime : GoodIn wsX7_addFractionsOfAct (va_wsS RX7 341 yX7_goPrime wsX7_goPrime) := goodIn_app (goodIn_of _ (by decide +kernel)) ggX7_addFractionsOfAct_X7_goPrime
set_option maxRecDepth 20000 in
theorem ggX7_addFractionsOfAct_X0_add : GoodIn wsX7_addFractionsOfAct wsX0_add := goodIn_ca (goodIn_r _ [48, 49, 50, 51, 52, 22, 53, 54, 55, 56, 57, 86, 87, 88] (by decide +kernel) (by decide +kernel)) (goodIn_sub (fun _ h => List.mem_cons_of_mem _ (List.mem_append_right _ h)) (by decide +kernel))
set_option maxRecDepth 20000 in
theorem gX7_addFractionsOfAct_X0_add : GoodIn wsX7_addFractionsOfAct (wsV RX7 142 RX0 yX0_add wsX0_add) := goodIn_app (goodIn_of _ (by decide +kernel)) ggX7_addFractionsOfAct_X0_add
set_option maxRecDepth 20000 in
theorem ggX7_addFractionsOfAct_X1_otherwise : GoodIn wsX7_addFractionsOfAct wsX1_otherwise := goodIn_r _ [61, 62, 9, 10, 11, 12, 13, 14, 15, 16, 17, 18, 19, 78, 79, 80, 81, 82, 83, 84, 85] (by decide +kernel) (by decide +kernel)
set_option maxRecDepth 20000 in
theorem gX7_addFractionsOfAct_X1_otherwise : GoodIn wsX7_addFractionsOfAct (wsV RX7 425 RX1 yX1_otherwise wsX1_otherwise) := goodIn_app (goodIn_of _ (by decide +kernel)) ggX7_addFractionsOfAct_X1_otherwise
theorem dX7_addFractionsOfAct_0 : decode cX7_addFractionsOfAct 0 = .ok (.aload_n 0, 1) := by decide +kernel
theorem dX7_addFractionsOfAct_1 : decode cX7_addFractionsOfAct 1 = .ok (.getfield 81, 3) := by decide +kernel
theorem dX7_addFractionsOfAct_4 : decode cX7_addFractionsOfAct 4 = .ok (.iload_n 1, 1) := by decide +kernel
theorem dX7_addFractionsOfAct_5 : decode cX7_addFractionsOfAct 5 = .ok (.invokevirtual 416, 3) := by decide +kernel
theorem dX7_addFractionsOfAct_8 : decode cX7_addFractionsOfAct 8 = .ok (.invokestatic 344, 3) := by decide +kernel
theorem dX7_addFractionsOfAct_11 : decode cX7_addFractionsOfAct 11 = .ok (.lstore_n 2, 1) := by decide +kernel
theorem dX7_addFractionsOfAct_12 : decode cX7_addFractionsOfAct 12 = .ok (.aload_n 0, 1) := by decide +kernel
theorem dX7_addFractionsOfAct_13 : decode cX7_addFractionsOfAct 13 = .ok (.getfield 81, 3) := by decide +kernel
theorem dX7_addFractionsOfAct_16 : decode cX7_addFractionsOfAct 16 = .ok (.iload_n 1, 1) := by decide +kernel
theorem dX7_addFractionsOfAct_17 : decode cX7_addFractionsOfAct 17 = .ok (.invokevirtual 419, 3) := by decide +kernel
theorem dX7_addFractionsOfAct_20 : decode cX7_addFractionsOfAct 20 = .ok (.invokestatic 352, 3) := by decide +kernel
theorem dX7_addFractionsOfAct_23 : decode cX7_addFractionsOfAct 23 = .ok (.lstore 4, 2) := by decide +kernel
theorem dX7_addFractionsOfAct_25 : decode cX7_addFractionsOfAct 25 = .ok (.aload_n 0, 1) := by decide +kernel
theorem dX7_addFractionsOfAct_26 : decode cX7_addFractionsOfAct 26 = .ok (.getfield 81, 3) := by decide +kernel
theorem dX7_addFractionsOfAct_29 : decode cX7_addFractionsOfAct 29 = .ok (.iload_n 1, 1) := by decide +kernel
theorem dX7_addFractionsOfAct_30 : decode cX7_addFractionsOfAct 30 = .ok (.invokevirtual 422, 3) := by decide +kernel
theorem dX7_addFractionsOfAct_33 : decode cX7_addFractionsOfAct 33 = .ok (.lookupswitch 88 #[(0, 27), (1, 46)], 27) := by decide +kernel
theorem dX7_addFractionsOfAct_60 : decode cX7_addFractionsOfAct 60 = .ok (.aload_n 0, 1) := by decide +kernel
theorem dX7_addFractionsOfAct_61 : decode cX7_addFractionsOfAct 61 = .ok (.getfield 29, 3) := by decide +kernel
theorem dX7_addFractionsOfAct_64 : decode cX7_addFractionsOfAct 64 = .ok (.lload_n 2, 1) := by decide +kernel
theorem dX7_addFractionsOfAct_65 : decode cX7_addFractionsOfAct 65 = .ok (.lload 4, 2) := by decide +kernel
theorem dX7_addFractionsOfAct_67 : decode cX7_addFractionsOfAct 67 = .ok (.lmul, 1) := by decide +kernel
theorem dX7_addFractionsOfAct_68 : decode cX7_addFractionsOfAct 68 = .ok (.iload_n 1, 1) := by decide +kernel
theorem dX7_addFractionsOfAct_69 : decode cX7_addFractionsOfAct 69 = .ok (.invokestatic 341, 3) := by decide +kernel
theorem dX7_addFractionsOfAct_72 : decode cX7_addFractionsOfAct 72 = .ok (.invokevirtual 142, 3) := by decide +kernel
theorem dX7_addFractionsOfAct_75 : decode cX7_addFractionsOfAct 75 = .ok (.pop, 1) := by decide +kernel
theorem dX7_addFractionsOfAct_76 : decode cX7_addFractionsOfAct 76 = .ok (.goto 58, 3) := by decide +kernel
theorem dX7_addFractionsOfAct_79 : decode cX7_addFractionsOfAct 79 = .ok (.aload_n 0, 1) := by decide +kernel
theorem dX7_addFractionsOfAct_80 : decode cX7_addFractionsOfAct 80 = .ok (.getfield 29, 3) := by decide +kernel
theorem dX7_addFractionsOfAct_83 : decode cX7_addFractionsOfAct 83 = .ok (.lload_n 2, 1) := by decide +kernel
theorem dX7_addFractionsOfAct_84 : decode cX7_addFractionsOfAct 84 = .ok (.iload_n 1, 1) := by decide +kernel
theorem dX7_addFractionsOfAct_85 : decode cX7_addFractionsOfAct 85 = .ok (.invokestatic 341, 3) := by decide +kernel
theorem dX7_addFractionsOfAct_88 : decode cX7_addFractionsOfAct 88 = .ok (.lload 4, 2) := by decide +kernel
theorem dX7_addFractionsOfAct_90 : decode cX7_addFractionsOfAct 90 = .ok (.lmul, 1) := by decide +kernel
theorem dX7_addFractionsOfAct_91 : decode cX7_addFractionsOfAct 91 = .ok (.invokevirtual 142, 3) := by decide +kernel
theorem dX7_addFractionsOfAct_94 : decode cX7_addFractionsOfAct 94 = .ok (.pop, 1) := by decide +kernel
theorem dX7_addFractionsOfAct_95 : decode cX7_addFractionsOfAct 95 = .ok (.aload_n 0, 1) := by decide +kernel
theorem dX7_addFractionsOfAct_96 : decode cX7_addFractionsOfAct 96 = .ok (.getfield 29, 3) := by decide +kernel
theorem dX7_addFractionsOfAct_99 : decode cX7_addFractionsOfAct 99 = .ok (.aload_n 0, 1) := by decide +kernel
theorem dX7_addFractionsOfAct_100 : decode cX7_addFractionsOfAct 100 = .ok (.getfield 81, 3) := by decide +kernel
theorem dX7_addFractionsOfAct_103 : decode cX7_addFractionsOfAct 103 = .ok (.iload_n 1, 1) := by decide +kernel
theorem dX7_addFractionsOfAct_104 : decode cX7_addFractionsOfAct 104 = .ok (.invokevirtual 425, 3) := by decide +kernel
theorem dX7_addFractionsOfAct_107 : decode cX7_addFractionsOfAct 107 = .ok (.invokestatic 344, 3) := by decide +kernel
theorem dX7_addFractionsOfAct_110 : decode cX7_addFractionsOfAct 110 = .ok (.iload_n 1, 1) := by decide +kernel
theorem dX7_addFractionsOfAct_111 : decode cX7_addFractionsOfAct 111 = .ok (.invokestatic 341, 3) := by decide +kernel
theorem dX7_addFractionsOfAct_114 : decode cX7_addFractionsOfAct 114 = .ok (.invokevirtual 142, 3) := by decide +kernel
theorem dX7_addFractionsOfAct_117 : decode cX7_addFractionsOfAct 117 = .ok (.pop, 1) := by decide +kernel
theorem dX7_addFractionsOfAct_118 : decode cX7_addFractionsOfAct 118 = .ok (.goto 16, 3) := by decide +kernel
theorem dX7_addFractionsOfAct_121 : decode cX7_addFractionsOfAct 121 = .ok (.aload_n 0, 1) := by decide +kernel
theorem dX7_addFractionsOfAct_122 : decode cX7_addFractionsOfAct 122 = .ok (.getfield 29, 3) := by decide +kernel
theorem dX7_addFractionsOfAct_125 : decode cX7_addFractionsOfAct 125 = .ok (.lconst 1, 1) := by decide +kernel
theorem dX7_addFractionsOfAct_126 : decode cX7_addFractionsOfAct 126 = .ok (.iload_n 1, 1) := by decide +kernel
theorem dX7_addFractionsOfAct_127 : decode cX7_addFractionsOfAct 127 = .ok (.invokestatic 341, 3) := by decide +kernel
theorem dX7_addFractionsOfAct_130 : decode cX7_addFractionsOfAct 130 = .ok (.invokevirtual 142, 3) := by decide +kernel
theorem dX7_addFractionsOfAct_133 : decode cX7_addFractionsOfAct 133 = .ok (.pop, 1) := by decide +kernel
theorem dX7_addFractionsOfAct_134 : decode cX7_addFractionsOfAct 134 = .ok (.return_, 1) := by decide +kernel
set_option maxRecDepth 20000 in
theorem ggX7_timesPower_X7_isNumber : GoodIn wsX7_timesPower wsX7_isNumber := goodIn_r _ [5, 6, 7] (by decide +kernel) (by decide +kernel)
set_option maxRecDepth 20000 in
theorem gX7_timesPower_X7_isNumber : GoodIn wsX7_timesPower (va_wsS RX7 178 yX7_isNumber wsX7_isNumber) := goodIn_app (goodIn_of _ (by decide +kernel)) ggX7_timesPower_X7_isNumber
theorem dX7_timesPower_0 : decode cX7_timesPower 0 = .ok (.lload_n 0, 1) := by decide +kernel
theorem dX7_timesPower_1 : decode cX7_timesPower 1 = .ok (.lstore 5, 2) := by decide +kernel
theorem dX7_timesPower_3 : decode cX7_timesPower 3 = .ok (.iconst 0, 1) := by decide +kernel
theorem dX7_timesPower_4 : decode cX7_timesPower 4 = .ok (.istore 7, 2) := by decide +kernel
theorem dX7_timesPower_6 : decode cX7_timesPower 6 = .ok (.iload 7, 2) := by decide +kernel
theorem dX7_timesPower_8 : decode cX7_timesPower 8 = .ok (.iload 4, 2) := by decide +kernel
theorem dX7_timesPower_10 : decode cX7_timesPower 10 = .ok (.if_icmp .ge 23, 3) := by decide +kernel
theorem dX7_timesPower_13 : decode cX7_timesPower 13 = .ok (.lload 5, 2) := by decide +kernel
theorem dX7_timesPower_15 : decode cX7_timesPower 15 = .ok (.invokestatic 178, 3) := by decide +kernel
theorem dX7_timesPower_18 : decode cX7_timesPower 18 = .ok (.ifCond .eq 15, 3) := by decide +kernel
theorem dX7_timesPower_21 : decode cX7_timesPower 21 = .ok (.lload 5, 2) := by decide +kernel
theorem dX7_timesPower_23 : decode cX7_timesPower 23 = .ok (.lload_n 2, 1) := by decide +kernel
theorem dX7_timesPower_24 : decode cX7_timesPower 24 = .ok (.lmul, 1) := by decide +kernel
theorem dX7_timesPower_25 : decode cX7_timesPower 25 = .ok (.lstore 5, 2) := by decide +kernel
theorem dX7_timesPower_27 : decode cX7_timesPower 27 = .ok (.iinc 7 1, 3) := by decide +kernel
theorem dX7_timesPower_30 : decode cX7_timesPower 30 = .ok (.goto (-24), 3) := by decide +kernel
theorem dX7_timesPower_33 : decode cX7_timesPower 33 = .ok (.lload 5, 2) := by decide +kernel
theorem dX7_timesPower_35 : decode cX7_timesPower 35 = .ok (.invokestatic 178, 3) := by decide +kernel
theorem dX7_timesPower_38 : decode cX7_timesPower 38 = .ok (.ifCond .eq 8, 3) := by decide +kernel
theorem dX7_timesPower_41 : decode cX7_timesPower 41 = .ok (.lload 5, 2) := by decide +kernel
theorem dX7_timesPower_43 : decode cX7_timesPower 43 = .ok (.goto 6, 3) := by decide +kernel
theorem dX7_timesPower_46 : decode cX7_timesPower 46 = .ok (.ldc2_w 190, 3) := by decide +kernel
theorem dX7_timesPower_49 : decode cX7_timesPower 49 = .ok (.lreturn, 1) := by decide +kernel
set_option maxRecDepth 20000 in
theorem ggX7_weight_X7_weightOfPrime : GoodIn wsX7_weight wsX7_weightOfPrime := goodIn_r _ [6, 7, 8, 5, 9, 10, 11, 12, 13] (by decide +kernel) (by decide +kernel)
set_option maxRecDepth 20000 in
theorem gX7_weight_X7_weightOfPrime : GoodIn wsX7_weight (va_wsS RX7 430 yX7_weightOfPrime wsX7_weightOfPrime) := goodIn_app (goodIn_of _ (by decide +kernel)) ggX7_weight_X7_weightOfPrime
theorem dX7_weight_0 : decode cX7_weight 0 = .ok (.lconst 0, 1) := by decide +kernel
theorem dX7_weight_1 : decode cX7_weight 1 = .ok (.lstore 7, 2) := by decide +kernel
theorem dX7_weight_3 : decode cX7_weight 3 = .ok (.lload_n 0, 1) := by decide +kernel
theorem dX7_weight_4 : decode cX7_weight 4 = .ok (.lstore 9, 2) := by decide +kernel
theorem dX7_weight_6 : decode cX7_weight 6 = .ok (.ldc2_w 428, 3) := by decide +kernel
theorem dX7_weight_9 : decode cX7_weight 9 = .ok (.lstore 11, 2) := by decide +kernel
theorem dX7_weight_11 : decode cX7_weight 11 = .ok (.lload 11, 2) := by decide +kernel
theorem dX7_weight_13 : decode cX7_weight 13 = .ok (.lload 11, 2) := by decide +kernel
theorem dX7_weight_15 : decode cX7_weight 15 = .ok (.lmul, 1) := by decide +kernel
theorem dX7_weight_16 : decode cX7_weight 16 = .ok (.ldc2_w 140, 3) := by decide +kernel
theorem dX7_weight_19 : decode cX7_weight 19 = .ok (.lcmp, 1) := by decide +kernel
theorem dX7_weight_20 : decode cX7_weight 20 = .ok (.ifCond .gt 89, 3) := by decide +kernel
theorem dX7_weight_23 : decode cX7_weight 23 = .ok (.lload 11, 2) := by decide +kernel
theorem dX7_weight_25 : decode cX7_weight 25 = .ok (.lload 11, 2) := by decide +kernel
theorem dX7_weight_27 : decode cX7_weight 27 = .ok (.lmul, 1) := by decide +kernel
theorem dX7_weight_28 : decode cX7_weight 28 = .ok (.lload 9, 2) := by decide +kernel
theorem dX7_weight_30 : decode cX7_weight 30 = .ok (.lcmp, 1) := by decide +kernel
theorem dX7_weight_31 : decode cX7_weight 31 = .ok (.ifCond .gt 78, 3) := by decide +kernel
theorem dX7_weight_34 : decode cX7_weight 34 = .ok (.iconst 0, 1) := by decide +kernel
theorem dX7_weight_35 : decode cX7_weight 35 = .ok (.istore 13, 2) := by decide +kernel
theorem dX7_weight_37 : decode cX7_weight 37 = .ok (.iload 13, 2) := by decide +kernel
theorem dX7_weight_39 : decode cX7_weight 39 = .ok (.bipush 64, 2) := by decide +kernel
theorem dX7_weight_41 : decode cX7_weight 41 = .ok (.if_icmp .ge 44, 3) := by decide +kernel
theorem dX7_weight_44 : decode cX7_weight 44 = .ok (.lload 9, 2) := by decide +kernel
theorem dX7_weight_46 : decode cX7_weight 46 = .ok (.lload 11, 2) := by decide +kernel
theorem dX7_weight_48 : decode cX7_weight 48 = .ok (.lrem, 1) := by decide +kernel
theorem dX7_weight_49 : decode cX7_weight 49 = .ok (.lconst 0, 1) := by decide +kernel
theorem dX7_weight_50 : decode cX7_weight 50 = .ok (.lcmp, 1) := by decide +kernel
theorem dX7_weight_51 : decode cX7_weight 51 = .ok (.ifCond .ne 34, 3) := by decide +kernel
theorem dX7_weight_54 : decode cX7_weight 54 = .ok (.lload 9, 2) := by decide +kernel
theorem dX7_weight_56 : decode cX7_weight 56 = .ok (.lload 11, 2) := by decide +kernel
theorem dX7_weight_58 : decode cX7_weight 58 = .ok (.ldiv, 1) := by decide +kernel
theorem dX7_weight_59 : decode cX7_weight 59 = .ok (.lstore 9, 2) := by decide +kernel
theorem dX7_weight_61 : decode cX7_weight 61 = .ok (.lload 7, 2) := by decide +kernel
theorem dX7_weight_63 : decode cX7_weight 63 = .ok (.lload 11, 2) := by decide +kernel
theorem dX7_weight_65 : decode cX7_weight 65 = .ok (.iload_n 2, 1) := by decide +kernel
theorem dX7_weight_66 : decode cX7_weight 66 = .ok (.iload_n 3, 1) := by decide +kernel
theorem dX7_weight_67 : decode cX7_weight 67 = .ok (.iload 4, 2) := by decide +kernel
theorem dX7_weight_69 : decode cX7_weight 69 = .ok (.iload 5, 2) := by decide +kernel
theorem dX7_weight_71 : decode cX7_weight 71 = .ok (.iload 6, 2) := by decide +kernel
theorem dX7_weight_73 : decode cX7_weight 73 = .ok (.invokestatic 430, 3) := by decide +kernel
theorem dX7_weight_76 : decode cX7_weight 76 = .ok (.ladd, 1) := by decide +kernel
theorem dX7_weight_77 : decode cX7_weight 77 = .ok (.lstore 7, 2) := by decide +kernel
theorem dX7_weight_79 : decode cX7_weight 79 = .ok (.iinc 13 1, 3) := by decide +kernel
theorem dX7_weight_82 : decode cX7_weight 82 = .ok (.goto (-45), 3) := by decide +kernel
theorem dX7_weight_85 : decode cX7_weight 85 = .ok (.lload 11, 2) := by decide +kernel
theorem dX7_weight_87 : decode cX7_weight 87 = .ok (.lload 11, 2) := by decide +kernel
theorem dX7_weight_89 : decode cX7_weight 89 = .ok (.ldc2_w 428, 3) := by decide +kernel
theorem dX7_weight_92 : decode cX7_weight 92 = .ok (.lcmp, 1) := by decide +kernel
theorem dX7_weight_93 : decode cX7_weight 93 = .ok (.ifCond .ne 7, 3) := by decide +kernel
theorem dX7_weight_96 : decode cX7_weight 96 = .ok (.lconst 1, 1) := by decide +kernel
theorem dX7_weight_97 : decode cX7_weight 97 = .ok (.goto 6, 3) := by decide +kernel
theorem dX7_weight_100 : decode cX7_weight 100 = .ok (.ldc2_w 428, 3) := by decide +kernel
theorem dX7_weight_103 : decode cX7_weight 103 = .ok (.ladd, 1) := by decide +kernel
theorem dX7_weight_104 : decode cX7_weight 104 = .ok (.lstore 11, 2) := by decide +kernel
theorem dX7_weight_106 : decode cX7_weight 106 = .ok (.goto (-95), 3) := by decide +kernel
theorem dX7_weight_109 : decode cX7_weight 109 = .ok (.lload 9, 2) := by decide +kernel
theorem dX7_weight_111 : decode cX7_weight 111 = .ok (.lconst 1, 1) := by decide +kernel
theorem dX7_weight_112 : decode cX7_weight 112 = .ok (.lcmp, 1) := by decide +kernel
theorem dX7_weight_113 : decode cX7_weight 113 = .ok (.ifCond .le 22, 3) := by decide +kernel
theorem dX7_weight_116 : decode cX7_weight 116 = .ok (.lload 7, 2) := by decide +kernel
theorem dX7_weight_118 : decode cX7_weight 118 = .ok (.lload 9, 2) := by decide +kernel
theorem dX7_weight_120 : decode cX7_weight 120 = .ok (.iload_n 2, 1) := by decide +kernel
theorem dX7_weight_121 : decode cX7_weight 121 = .ok (.iload_n 3, 1) := by decide +kernel
theorem dX7_weight_122 : decode cX7_weight 122 = .ok (.iload 4, 2) := by decide +kernel
theorem dX7_weight_124 : decode cX7_weight 124 = .ok (.iload 5, 2) := by decide +kernel
theorem dX7_weight_126 : decode cX7_weight 126 = .ok (.iload 6, 2) := by decide +kernel
theorem dX7_weight_128 : decode cX7_weight 128 = .ok (.invokestatic 430, 3) := by decide +kernel
theorem dX7_weight_131 : decode cX7_weight 131 = .ok (.ladd, 1) := by decide +kernel
theorem dX7_weight_132 : decode cX7_weight 132 = .ok (.goto 5, 3) := by decide +kernel
theorem dX7_weight_135 : decode cX7_weight 135 = .ok (.lload 7, 2) := by decide +kernel
theorem dX7_weight_137 : decode cX7_weight 137 = .ok (.lreturn, 1) := by decide +kernel
set_option maxRecDepth 20000 in
theorem ggX7_weightOfPrime_X7_heapPrime : GoodIn wsX7_weightOfPrime wsX7_heapPrime := goodIn_r _ [4, 5, 6, 3, 7, 8] (by decide +kernel) (by decide +kernel)
set_option maxRecDepth 20000 in
theorem gX7_weightOfPrime_X7_heapPrime : GoodIn wsX7_weightOfPrime (va_wsS RX7 352 yX7_heapPrime wsX7_heapPrime) := goodIn_app (goodIn_of _ (by decide +kernel)) ggX7_weightOfPrime_X7_heapPrime
theorem dX7_weightOfPrime_0 : decode cX7_weightOfPrime 0 = .ok (.lload_n 0, 1) := by decide +kernel
theorem dX7_weightOfPrime_1 : decode cX7_weightOfPrime 1 = .ok (.iconst 0, 1) := by decide +kernel
theorem dX7_weightOfPrime_2 : decode cX7_weightOfPrime 2 = .ok (.invokestatic 352, 3) := by decide +kernel
theorem dX7_weightOfPrime_5 : decode cX7_weightOfPrime 5 = .ok (.lcmp, 1) := by decide +kernel
theorem dX7_weightOfPrime_6 : decode cX7_weightOfPrime 6 = .ok (.ifCond .ne 6, 3) := by decide +kernel
theorem dX7_weightOfPrime_9 : decode cX7_weightOfPrime 9 = .ok (.iload_n 2, 1) := by decide +kernel
theorem dX7_weightOfPrime_10 : decode cX7_weightOfPrime 10 = .ok (.i2l, 1) := by decide +kernel
theorem dX7_weightOfPrime_11 : decode cX7_weightOfPrime 11 = .ok (.lreturn, 1) := by decide +kernel
theorem dX7_weightOfPrime_12 : decode cX7_weightOfPrime 12 = .ok (.lload_n 0, 1) := by decide +kernel
theorem dX7_weightOfPrime_13 : decode cX7_weightOfPrime 13 = .ok (.iconst 1, 1) := by decide +kernel
theorem dX7_weightOfPrime_14 : decode cX7_weightOfPrime 14 = .ok (.invokestatic 352, 3) := by decide +kernel
theorem dX7_weightOfPrime_17 : decode cX7_weightOfPrime 17 = .ok (.lcmp, 1) := by decide +kernel
theorem dX7_weightOfPrime_18 : decode cX7_weightOfPrime 18 = .ok (.ifCond .ne 6, 3) := by decide +kernel
theorem dX7_weightOfPrime_21 : decode cX7_weightOfPrime 21 = .ok (.iload_n 3, 1) := by decide +kernel
theorem dX7_weightOfPrime_22 : decode cX7_weightOfPrime 22 = .ok (.i2l, 1) := by decide +kernel
theorem dX7_weightOfPrime_23 : decode cX7_weightOfPrime 23 = .ok (.lreturn, 1) := by decide +kernel
theorem dX7_weightOfPrime_24 : decode cX7_weightOfPrime 24 = .ok (.lload_n 0, 1) := by decide +kernel
theorem dX7_weightOfPrime_25 : decode cX7_weightOfPrime 25 = .ok (.iconst 2, 1) := by decide +kernel
theorem dX7_weightOfPrime_26 : decode cX7_weightOfPrime 26 = .ok (.invokestatic 352, 3) := by decide +kernel
theorem dX7_weightOfPrime_29 : decode cX7_weightOfPrime 29 = .ok (.lcmp, 1) := by decide +kernel
theorem dX7_weightOfPrime_30 : decode cX7_weightOfPrime 30 = .ok (.ifCond .ne 7, 3) := by decide +kernel
theorem dX7_weightOfPrime_33 : decode cX7_weightOfPrime 33 = .ok (.iload 4, 2) := by decide +kernel
theorem dX7_weightOfPrime_35 : decode cX7_weightOfPrime 35 = .ok (.i2l, 1) := by decide +kernel
theorem dX7_weightOfPrime_36 : decode cX7_weightOfPrime 36 = .ok (.lreturn, 1) := by decide +kernel
theorem dX7_weightOfPrime_37 : decode cX7_weightOfPrime 37 = .ok (.lload_n 0, 1) := by decide +kernel
theorem dX7_weightOfPrime_38 : decode cX7_weightOfPrime 38 = .ok (.iconst 3, 1) := by decide +kernel
theorem dX7_weightOfPrime_39 : decode cX7_weightOfPrime 39 = .ok (.invokestatic 352, 3) := by decide +kernel
theorem dX7_weightOfPrime_42 : decode cX7_weightOfPrime 42 = .ok (.lcmp, 1) := by decide +kernel
theorem dX7_weightOfPrime_43 : decode cX7_weightOfPrime 43 = .ok (.ifCond .ne 9, 3) := by decide +kernel
theorem dX7_weightOfPrime_46 : decode cX7_weightOfPrime 46 = .ok (.iload 5, 2) := by decide +kernel
theorem dX7_weightOfPrime_48 : decode cX7_weightOfPrime 48 = .ok (.i2l, 1) := by decide +kernel
theorem dX7_weightOfPrime_49 : decode cX7_weightOfPrime 49 = .ok (.goto 6, 3) := by decide +kernel
theorem dX7_weightOfPrime_52 : decode cX7_weightOfPrime 52 = .ok (.iload 6, 2) := by decide +kernel
theorem dX7_weightOfPrime_54 : decode cX7_weightOfPrime 54 = .ok (.i2l, 1) := by decide +kernel
theorem dX7_weightOfPrime_55 : decode cX7_weightOfPrime 55 = .ok (.lreturn, 1) := by decide +kernel
