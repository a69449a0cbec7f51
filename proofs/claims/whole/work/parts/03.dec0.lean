theorem dX0_init_0 : decode cX0_init 0 = .ok (.aload_n 0, 1) := by decide +kernel
theorem dX0_init_1 : decode cX0_init 1 = .ok (.invokespecial 3, 3) := by decide +kernel
theorem dX0_init_4 : decode cX0_init 4 = .ok (.aload_n 0, 1) := by decide +kernel
theorem dX0_init_5 : decode cX0_init 5 = .ok (.sipush 1000, 3) := by decide +kernel
theorem dX0_init_8 : decode cX0_init 8 = .ok (.newarray .int, 2) := by decide +kernel
theorem dX0_init_10 : decode cX0_init 10 = .ok (.putfield 9, 3) := by decide +kernel
theorem dX0_init_13 : decode cX0_init 13 = .ok (.aload_n 0, 1) := by decide +kernel
theorem dX0_init_14 : decode cX0_init 14 = .ok (.sipush 1000, 3) := by decide +kernel
theorem dX0_init_17 : decode cX0_init 17 = .ok (.newarray .int, 2) := by decide +kernel
theorem dX0_init_19 : decode cX0_init 19 = .ok (.putfield 15, 3) := by decide +kernel
theorem dX0_init_22 : decode cX0_init 22 = .ok (.aload_n 0, 1) := by decide +kernel
theorem dX0_init_23 : decode cX0_init 23 = .ok (.sipush 1000, 3) := by decide +kernel
theorem dX0_init_26 : decode cX0_init 26 = .ok (.newarray .int, 2) := by decide +kernel
theorem dX0_init_28 : decode cX0_init 28 = .ok (.putfield 18, 3) := by decide +kernel
theorem dX0_init_31 : decode cX0_init 31 = .ok (.aload_n 0, 1) := by decide +kernel
theorem dX0_init_32 : decode cX0_init 32 = .ok (.sipush 1000, 3) := by decide +kernel
theorem dX0_init_35 : decode cX0_init 35 = .ok (.newarray .int, 2) := by decide +kernel
theorem dX0_init_37 : decode cX0_init 37 = .ok (.putfield 21, 3) := by decide +kernel
theorem dX0_init_40 : decode cX0_init 40 = .ok (.aload_n 0, 1) := by decide +kernel
theorem dX0_init_41 : decode cX0_init 41 = .ok (.iconst 0, 1) := by decide +kernel
theorem dX0_init_42 : decode cX0_init 42 = .ok (.putfield 24, 3) := by decide +kernel
theorem dX0_init_45 : decode cX0_init 45 = .ok (.return_, 1) := by decide +kernel
theorem dX0_places_0 : decode cX0_places 0 = .ok (.aload_n 0, 1) := by decide +kernel
theorem dX0_places_1 : decode cX0_places 1 = .ok (.aload_n 0, 1) := by decide +kernel
theorem dX0_places_2 : decode cX0_places 2 = .ok (.getfield 24, 3) := by decide +kernel
theorem dX0_places_5 : decode cX0_places 5 = .ok (.invokevirtual 28, 3) := by decide +kernel
theorem dX0_places_8 : decode cX0_places 8 = .ok (.ireturn, 1) := by decide +kernel
theorem dX0_lowAhead_0 : decode cX0_lowAhead 0 = .ok (.iload_n 1, 1) := by decide +kernel
theorem dX0_lowAhead_1 : decode cX0_lowAhead 1 = .ok (.iconst 1, 1) := by decide +kernel
theorem dX0_lowAhead_2 : decode cX0_lowAhead 2 = .ok (.if_icmp .lt 10, 3) := by decide +kernel
theorem dX0_lowAhead_5 : decode cX0_lowAhead 5 = .ok (.iload_n 1, 1) := by decide +kernel
theorem dX0_lowAhead_6 : decode cX0_lowAhead 6 = .ok (.sipush 1000, 3) := by decide +kernel
theorem dX0_lowAhead_9 : decode cX0_lowAhead 9 = .ok (.if_icmp .le 7, 3) := by decide +kernel
theorem dX0_lowAhead_12 : decode cX0_lowAhead 12 = .ok (.iconst 0, 1) := by decide +kernel
theorem dX0_lowAhead_13 : decode cX0_lowAhead 13 = .ok (.goto 11, 3) := by decide +kernel
theorem dX0_lowAhead_16 : decode cX0_lowAhead 16 = .ok (.aload_n 0, 1) := by decide +kernel
theorem dX0_lowAhead_17 : decode cX0_lowAhead 17 = .ok (.getfield 15, 3) := by decide +kernel
theorem dX0_lowAhead_20 : decode cX0_lowAhead 20 = .ok (.iload_n 1, 1) := by decide +kernel
theorem dX0_lowAhead_21 : decode cX0_lowAhead 21 = .ok (.iconst 1, 1) := by decide +kernel
theorem dX0_lowAhead_22 : decode cX0_lowAhead 22 = .ok (.isub, 1) := by decide +kernel
theorem dX0_lowAhead_23 : decode cX0_lowAhead 23 = .ok (.iaload, 1) := by decide +kernel
theorem dX0_lowAhead_24 : decode cX0_lowAhead 24 = .ok (.ireturn, 1) := by decide +kernel
theorem dX0_gap_0 : decode cX0_gap 0 = .ok (.aload_n 0, 1) := by decide +kernel
theorem dX0_gap_1 : decode cX0_gap 1 = .ok (.getfield 15, 3) := by decide +kernel
theorem dX0_gap_4 : decode cX0_gap 4 = .ok (.iload_n 1, 1) := by decide +kernel
theorem dX0_gap_5 : decode cX0_gap 5 = .ok (.iaload, 1) := by decide +kernel
theorem dX0_gap_6 : decode cX0_gap 6 = .ok (.aload_n 0, 1) := by decide +kernel
theorem dX0_gap_7 : decode cX0_gap 7 = .ok (.iload_n 1, 1) := by decide +kernel
theorem dX0_gap_8 : decode cX0_gap 8 = .ok (.invokevirtual 28, 3) := by decide +kernel
theorem dX0_gap_11 : decode cX0_gap 11 = .ok (.isub, 1) := by decide +kernel
theorem dX0_gap_12 : decode cX0_gap 12 = .ok (.ireturn, 1) := by decide +kernel
theorem dX0_high_0 : decode cX0_high 0 = .ok (.aload_n 0, 1) := by decide +kernel
theorem dX0_high_1 : decode cX0_high 1 = .ok (.getfield 15, 3) := by decide +kernel
theorem dX0_high_4 : decode cX0_high 4 = .ok (.iload_n 1, 1) := by decide +kernel
theorem dX0_high_5 : decode cX0_high 5 = .ok (.iaload, 1) := by decide +kernel
theorem dX0_high_6 : decode cX0_high 6 = .ok (.aload_n 0, 1) := by decide +kernel
theorem dX0_high_7 : decode cX0_high 7 = .ok (.getfield 18, 3) := by decide +kernel
theorem dX0_high_10 : decode cX0_high 10 = .ok (.iload_n 1, 1) := by decide +kernel
theorem dX0_high_11 : decode cX0_high 11 = .ok (.iaload, 1) := by decide +kernel
theorem dX0_high_12 : decode cX0_high 12 = .ok (.iadd, 1) := by decide +kernel
theorem dX0_high_13 : decode cX0_high 13 = .ok (.ireturn, 1) := by decide +kernel
theorem dX0_width_0 : decode cX0_width 0 = .ok (.aload_n 0, 1) := by decide +kernel
theorem dX0_width_1 : decode cX0_width 1 = .ok (.getfield 15, 3) := by decide +kernel
theorem dX0_width_4 : decode cX0_width 4 = .ok (.iload_n 1, 1) := by decide +kernel
theorem dX0_width_5 : decode cX0_width 5 = .ok (.iaload, 1) := by decide +kernel
theorem dX0_width_6 : decode cX0_width 6 = .ok (.aload_n 0, 1) := by decide +kernel
theorem dX0_width_7 : decode cX0_width 7 = .ok (.iload_n 1, 1) := by decide +kernel
theorem dX0_width_8 : decode cX0_width 8 = .ok (.invokevirtual 28, 3) := by decide +kernel
theorem dX0_width_11 : decode cX0_width 11 = .ok (.isub, 1) := by decide +kernel
theorem dX0_width_12 : decode cX0_width 12 = .ok (.aload_n 0, 1) := by decide +kernel
theorem dX0_width_13 : decode cX0_width 13 = .ok (.getfield 18, 3) := by decide +kernel
theorem dX0_width_16 : decode cX0_width 16 = .ok (.iload_n 1, 1) := by decide +kernel
theorem dX0_width_17 : decode cX0_width 17 = .ok (.iaload, 1) := by decide +kernel
theorem dX0_width_18 : decode cX0_width 18 = .ok (.iadd, 1) := by decide +kernel
theorem dX0_width_19 : decode cX0_width 19 = .ok (.ireturn, 1) := by decide +kernel
theorem dX0_widest_0 : decode cX0_widest 0 = .ok (.iconst 0, 1) := by decide +kernel
theorem dX0_widest_1 : decode cX0_widest 1 = .ok (.istore_n 1, 1) := by decide +kernel
theorem dX0_widest_2 : decode cX0_widest 2 = .ok (.iconst 0, 1) := by decide +kernel
theorem dX0_widest_3 : decode cX0_widest 3 = .ok (.istore_n 2, 1) := by decide +kernel
theorem dX0_widest_4 : decode cX0_widest 4 = .ok (.iload_n 2, 1) := by decide +kernel
theorem dX0_widest_5 : decode cX0_widest 5 = .ok (.aload_n 0, 1) := by decide +kernel
theorem dX0_widest_6 : decode cX0_widest 6 = .ok (.getfield 24, 3) := by decide +kernel
theorem dX0_widest_9 : decode cX0_widest 9 = .ok (.if_icmp .ge 19, 3) := by decide +kernel
theorem dX0_widest_12 : decode cX0_widest 12 = .ok (.iload_n 1, 1) := by decide +kernel
theorem dX0_widest_13 : decode cX0_widest 13 = .ok (.aload_n 0, 1) := by decide +kernel
theorem dX0_widest_14 : decode cX0_widest 14 = .ok (.iload_n 2, 1) := by decide +kernel
theorem dX0_widest_15 : decode cX0_widest 15 = .ok (.invokevirtual 32, 3) := by decide +kernel
theorem dX0_widest_18 : decode cX0_widest 18 = .ok (.invokestatic 35, 3) := by decide +kernel
theorem dX0_widest_21 : decode cX0_widest 21 = .ok (.istore_n 1, 1) := by decide +kernel
theorem dX0_widest_22 : decode cX0_widest 22 = .ok (.iinc 2 1, 3) := by decide +kernel
theorem dX0_widest_25 : decode cX0_widest 25 = .ok (.goto (-21), 3) := by decide +kernel
theorem dX0_widest_28 : decode cX0_widest 28 = .ok (.iload_n 1, 1) := by decide +kernel
theorem dX0_widest_29 : decode cX0_widest 29 = .ok (.ireturn, 1) := by decide +kernel
theorem dX0_tuplesUpTo_0 : decode cX0_tuplesUpTo 0 = .ok (.iconst 0, 1) := by decide +kernel
theorem dX0_tuplesUpTo_1 : decode cX0_tuplesUpTo 1 = .ok (.istore_n 2, 1) := by decide +kernel
theorem dX0_tuplesUpTo_2 : decode cX0_tuplesUpTo 2 = .ok (.sipush 512, 3) := by decide +kernel
theorem dX0_tuplesUpTo_5 : decode cX0_tuplesUpTo 5 = .ok (.istore_n 3, 1) := by decide +kernel
theorem dX0_tuplesUpTo_6 : decode cX0_tuplesUpTo 6 = .ok (.iload_n 3, 1) := by decide +kernel
theorem dX0_tuplesUpTo_7 : decode cX0_tuplesUpTo 7 = .ok (.ifCond .le 38, 3) := by decide +kernel
theorem dX0_tuplesUpTo_10 : decode cX0_tuplesUpTo 10 = .ok (.iload_n 2, 1) := by decide +kernel
theorem dX0_tuplesUpTo_11 : decode cX0_tuplesUpTo 11 = .ok (.iload_n 3, 1) := by decide +kernel
theorem dX0_tuplesUpTo_12 : decode cX0_tuplesUpTo 12 = .ok (.iadd, 1) := by decide +kernel
theorem dX0_tuplesUpTo_13 : decode cX0_tuplesUpTo 13 = .ok (.aload_n 0, 1) := by decide +kernel
theorem dX0_tuplesUpTo_14 : decode cX0_tuplesUpTo 14 = .ok (.getfield 24, 3) := by decide +kernel
theorem dX0_tuplesUpTo_17 : decode cX0_tuplesUpTo 17 = .ok (.if_icmp .gt 21, 3) := by decide +kernel
theorem dX0_tuplesUpTo_20 : decode cX0_tuplesUpTo 20 = .ok (.aload_n 0, 1) := by decide +kernel
theorem dX0_tuplesUpTo_21 : decode cX0_tuplesUpTo 21 = .ok (.getfield 9, 3) := by decide +kernel
theorem dX0_tuplesUpTo_24 : decode cX0_tuplesUpTo 24 = .ok (.iload_n 2, 1) := by decide +kernel
theorem dX0_tuplesUpTo_25 : decode cX0_tuplesUpTo 25 = .ok (.iload_n 3, 1) := by decide +kernel
theorem dX0_tuplesUpTo_26 : decode cX0_tuplesUpTo 26 = .ok (.iadd, 1) := by decide +kernel
theorem dX0_tuplesUpTo_27 : decode cX0_tuplesUpTo 27 = .ok (.iconst 1, 1) := by decide +kernel
theorem dX0_tuplesUpTo_28 : decode cX0_tuplesUpTo 28 = .ok (.isub, 1) := by decide +kernel
theorem dX0_tuplesUpTo_29 : decode cX0_tuplesUpTo 29 = .ok (.iaload, 1) := by decide +kernel
theorem dX0_tuplesUpTo_30 : decode cX0_tuplesUpTo 30 = .ok (.iload_n 1, 1) := by decide +kernel
theorem dX0_tuplesUpTo_31 : decode cX0_tuplesUpTo 31 = .ok (.if_icmp .gt 7, 3) := by decide +kernel
theorem dX0_tuplesUpTo_34 : decode cX0_tuplesUpTo 34 = .ok (.iload_n 2, 1) := by decide +kernel
theorem dX0_tuplesUpTo_35 : decode cX0_tuplesUpTo 35 = .ok (.iload_n 3, 1) := by decide +kernel
theorem dX0_tuplesUpTo_36 : decode cX0_tuplesUpTo 36 = .ok (.iadd, 1) := by decide +kernel
theorem dX0_tuplesUpTo_37 : decode cX0_tuplesUpTo 37 = .ok (.istore_n 2, 1) := by decide +kernel
theorem dX0_tuplesUpTo_38 : decode cX0_tuplesUpTo 38 = .ok (.iload_n 3, 1) := by decide +kernel
theorem dX0_tuplesUpTo_39 : decode cX0_tuplesUpTo 39 = .ok (.iconst 2, 1) := by decide +kernel
theorem dX0_tuplesUpTo_40 : decode cX0_tuplesUpTo 40 = .ok (.idiv, 1) := by decide +kernel
theorem dX0_tuplesUpTo_41 : decode cX0_tuplesUpTo 41 = .ok (.istore_n 3, 1) := by decide +kernel
theorem dX0_tuplesUpTo_42 : decode cX0_tuplesUpTo 42 = .ok (.goto (-36), 3) := by decide +kernel
theorem dX0_tuplesUpTo_45 : decode cX0_tuplesUpTo 45 = .ok (.iload_n 2, 1) := by decide +kernel
theorem dX0_tuplesUpTo_46 : decode cX0_tuplesUpTo 46 = .ok (.ireturn, 1) := by decide +kernel
theorem dX0_sureUpTo_0 : decode cX0_sureUpTo 0 = .ok (.aload_n 0, 1) := by decide +kernel
theorem dX0_sureUpTo_1 : decode cX0_sureUpTo 1 = .ok (.aload_n 0, 1) := by decide +kernel
theorem dX0_sureUpTo_2 : decode cX0_sureUpTo 2 = .ok (.iload_n 1, 1) := by decide +kernel
theorem dX0_sureUpTo_3 : decode cX0_sureUpTo 3 = .ok (.invokevirtual 41, 3) := by decide +kernel
theorem dX0_sureUpTo_6 : decode cX0_sureUpTo 6 = .ok (.invokevirtual 28, 3) := by decide +kernel
theorem dX0_sureUpTo_9 : decode cX0_sureUpTo 9 = .ok (.ireturn, 1) := by decide +kernel
theorem dX0_mostUpTo_0 : decode cX0_mostUpTo 0 = .ok (.aload_n 0, 1) := by decide +kernel
theorem dX0_mostUpTo_1 : decode cX0_mostUpTo 1 = .ok (.iload_n 1, 1) := by decide +kernel
theorem dX0_mostUpTo_2 : decode cX0_mostUpTo 2 = .ok (.invokevirtual 41, 3) := by decide +kernel
theorem dX0_mostUpTo_5 : decode cX0_mostUpTo 5 = .ok (.istore_n 2, 1) := by decide +kernel
theorem dX0_mostUpTo_6 : decode cX0_mostUpTo 6 = .ok (.iload_n 2, 1) := by decide +kernel
theorem dX0_mostUpTo_7 : decode cX0_mostUpTo 7 = .ok (.aload_n 0, 1) := by decide +kernel
theorem dX0_mostUpTo_8 : decode cX0_mostUpTo 8 = .ok (.getfield 24, 3) := by decide +kernel
theorem dX0_mostUpTo_11 : decode cX0_mostUpTo 11 = .ok (.if_icmp .ge 13, 3) := by decide +kernel
theorem dX0_mostUpTo_14 : decode cX0_mostUpTo 14 = .ok (.aload_n 0, 1) := by decide +kernel
theorem dX0_mostUpTo_15 : decode cX0_mostUpTo 15 = .ok (.iload_n 2, 1) := by decide +kernel
theorem dX0_mostUpTo_16 : decode cX0_mostUpTo 16 = .ok (.invokevirtual 44, 3) := by decide +kernel
theorem dX0_mostUpTo_19 : decode cX0_mostUpTo 19 = .ok (.iconst 1, 1) := by decide +kernel
theorem dX0_mostUpTo_20 : decode cX0_mostUpTo 20 = .ok (.isub, 1) := by decide +kernel
theorem dX0_mostUpTo_21 : decode cX0_mostUpTo 21 = .ok (.goto 7, 3) := by decide +kernel
theorem dX0_mostUpTo_24 : decode cX0_mostUpTo 24 = .ok (.aload_n 0, 1) := by decide +kernel
theorem dX0_mostUpTo_25 : decode cX0_mostUpTo 25 = .ok (.invokevirtual 47, 3) := by decide +kernel
theorem dX0_mostUpTo_28 : decode cX0_mostUpTo 28 = .ok (.ireturn, 1) := by decide +kernel
theorem dX0_countAbove_0 : decode cX0_countAbove 0 = .ok (.iload_n 3, 1) := by decide +kernel
theorem dX0_countAbove_1 : decode cX0_countAbove 1 = .ok (.ifCond .eq 15, 3) := by decide +kernel
theorem dX0_countAbove_4 : decode cX0_countAbove 4 = .ok (.aload_n 0, 1) := by decide +kernel
theorem dX0_countAbove_5 : decode cX0_countAbove 5 = .ok (.iload_n 2, 1) := by decide +kernel
theorem dX0_countAbove_6 : decode cX0_countAbove 6 = .ok (.invokevirtual 51, 3) := by decide +kernel
theorem dX0_countAbove_9 : decode cX0_countAbove 9 = .ok (.aload_n 0, 1) := by decide +kernel
theorem dX0_countAbove_10 : decode cX0_countAbove 10 = .ok (.iload_n 1, 1) := by decide +kernel
theorem dX0_countAbove_11 : decode cX0_countAbove 11 = .ok (.invokevirtual 54, 3) := by decide +kernel
theorem dX0_countAbove_14 : decode cX0_countAbove 14 = .ok (.isub, 1) := by decide +kernel
theorem dX0_countAbove_15 : decode cX0_countAbove 15 = .ok (.ireturn, 1) := by decide +kernel
theorem dX0_countAbove_16 : decode cX0_countAbove 16 = .ok (.iconst 0, 1) := by decide +kernel
theorem dX0_countAbove_17 : decode cX0_countAbove 17 = .ok (.aload_n 0, 1) := by decide +kernel
theorem dX0_countAbove_18 : decode cX0_countAbove 18 = .ok (.iload_n 2, 1) := by decide +kernel
theorem dX0_countAbove_19 : decode cX0_countAbove 19 = .ok (.invokevirtual 54, 3) := by decide +kernel
theorem dX0_countAbove_22 : decode cX0_countAbove 22 = .ok (.aload_n 0, 1) := by decide +kernel
theorem dX0_countAbove_23 : decode cX0_countAbove 23 = .ok (.iload_n 1, 1) := by decide +kernel
theorem dX0_countAbove_24 : decode cX0_countAbove 24 = .ok (.invokevirtual 51, 3) := by decide +kernel
theorem dX0_countAbove_27 : decode cX0_countAbove 27 = .ok (.isub, 1) := by decide +kernel
theorem dX0_countAbove_28 : decode cX0_countAbove 28 = .ok (.invokestatic 35, 3) := by decide +kernel
theorem dX0_countAbove_31 : decode cX0_countAbove 31 = .ok (.ireturn, 1) := by decide +kernel
theorem dX0_firstWrong_0 : decode cX0_firstWrong 0 = .ok (.iconst 1, 1) := by decide +kernel
theorem dX0_firstWrong_1 : decode cX0_firstWrong 1 = .ok (.istore_n 3, 1) := by decide +kernel
theorem dX0_firstWrong_2 : decode cX0_firstWrong 2 = .ok (.iload_n 3, 1) := by decide +kernel
theorem dX0_firstWrong_3 : decode cX0_firstWrong 3 = .ok (.aload_n 0, 1) := by decide +kernel
theorem dX0_firstWrong_4 : decode cX0_firstWrong 4 = .ok (.getfield 24, 3) := by decide +kernel
theorem dX0_firstWrong_7 : decode cX0_firstWrong 7 = .ok (.if_icmp .ge 28, 3) := by decide +kernel
theorem dX0_firstWrong_10 : decode cX0_firstWrong 10 = .ok (.aload_n 0, 1) := by decide +kernel
theorem dX0_firstWrong_11 : decode cX0_firstWrong 11 = .ok (.getfield 9, 3) := by decide +kernel
theorem dX0_firstWrong_14 : decode cX0_firstWrong 14 = .ok (.iload_n 3, 1) := by decide +kernel
theorem dX0_firstWrong_15 : decode cX0_firstWrong 15 = .ok (.iaload, 1) := by decide +kernel
theorem dX0_firstWrong_16 : decode cX0_firstWrong 16 = .ok (.aload_n 0, 1) := by decide +kernel
theorem dX0_firstWrong_17 : decode cX0_firstWrong 17 = .ok (.getfield 9, 3) := by decide +kernel
theorem dX0_firstWrong_20 : decode cX0_firstWrong 20 = .ok (.iload_n 3, 1) := by decide +kernel
theorem dX0_firstWrong_21 : decode cX0_firstWrong 21 = .ok (.iconst 1, 1) := by decide +kernel
theorem dX0_firstWrong_22 : decode cX0_firstWrong 22 = .ok (.isub, 1) := by decide +kernel
theorem dX0_firstWrong_23 : decode cX0_firstWrong 23 = .ok (.iaload, 1) := by decide +kernel
theorem dX0_firstWrong_24 : decode cX0_firstWrong 24 = .ok (.if_icmp .ge 5, 3) := by decide +kernel
theorem dX0_firstWrong_27 : decode cX0_firstWrong 27 = .ok (.iconst 1, 1) := by decide +kernel
theorem dX0_firstWrong_28 : decode cX0_firstWrong 28 = .ok (.ireturn, 1) := by decide +kernel
theorem dX0_firstWrong_29 : decode cX0_firstWrong 29 = .ok (.iinc 3 1, 3) := by decide +kernel
theorem dX0_firstWrong_32 : decode cX0_firstWrong 32 = .ok (.goto (-30), 3) := by decide +kernel
theorem dX0_firstWrong_35 : decode cX0_firstWrong 35 = .ok (.iconst 0, 1) := by decide +kernel
theorem dX0_firstWrong_36 : decode cX0_firstWrong 36 = .ok (.istore_n 3, 1) := by decide +kernel
theorem dX0_firstWrong_37 : decode cX0_firstWrong 37 = .ok (.iload_n 3, 1) := by decide +kernel
theorem dX0_firstWrong_38 : decode cX0_firstWrong 38 = .ok (.aload_n 0, 1) := by decide +kernel
theorem dX0_firstWrong_39 : decode cX0_firstWrong 39 = .ok (.getfield 24, 3) := by decide +kernel
theorem dX0_firstWrong_42 : decode cX0_firstWrong 42 = .ok (.if_icmp .ge 29, 3) := by decide +kernel
theorem dX0_firstWrong_45 : decode cX0_firstWrong 45 = .ok (.aload_n 0, 1) := by decide +kernel
theorem dX0_firstWrong_46 : decode cX0_firstWrong 46 = .ok (.iload_n 3, 1) := by decide +kernel
theorem dX0_firstWrong_47 : decode cX0_firstWrong 47 = .ok (.invokevirtual 57, 3) := by decide +kernel
theorem dX0_firstWrong_50 : decode cX0_firstWrong 50 = .ok (.iconst 1, 1) := by decide +kernel
theorem dX0_firstWrong_51 : decode cX0_firstWrong 51 = .ok (.if_icmp .lt 12, 3) := by decide +kernel
theorem dX0_firstWrong_54 : decode cX0_firstWrong 54 = .ok (.aload_n 0, 1) := by decide +kernel
theorem dX0_firstWrong_55 : decode cX0_firstWrong 55 = .ok (.getfield 18, 3) := by decide +kernel
theorem dX0_firstWrong_58 : decode cX0_firstWrong 58 = .ok (.iload_n 3, 1) := by decide +kernel
theorem dX0_firstWrong_59 : decode cX0_firstWrong 59 = .ok (.iaload, 1) := by decide +kernel
theorem dX0_firstWrong_60 : decode cX0_firstWrong 60 = .ok (.ifCond .ge 5, 3) := by decide +kernel
theorem dX0_firstWrong_63 : decode cX0_firstWrong 63 = .ok (.iconst 2, 1) := by decide +kernel
theorem dX0_firstWrong_64 : decode cX0_firstWrong 64 = .ok (.ireturn, 1) := by decide +kernel
theorem dX0_firstWrong_65 : decode cX0_firstWrong 65 = .ok (.iinc 3 1, 3) := by decide +kernel
theorem dX0_firstWrong_68 : decode cX0_firstWrong 68 = .ok (.goto (-31), 3) := by decide +kernel
theorem dX0_firstWrong_71 : decode cX0_firstWrong 71 = .ok (.aload_n 0, 1) := by decide +kernel
theorem dX0_firstWrong_72 : decode cX0_firstWrong 72 = .ok (.invokevirtual 47, 3) := by decide +kernel
theorem dX0_firstWrong_75 : decode cX0_firstWrong 75 = .ok (.iload_n 1, 1) := by decide +kernel
theorem dX0_firstWrong_76 : decode cX0_firstWrong 76 = .ok (.if_icmp .eq 5, 3) := by decide +kernel
theorem dX0_firstWrong_79 : decode cX0_firstWrong 79 = .ok (.iconst 3, 1) := by decide +kernel
theorem dX0_firstWrong_80 : decode cX0_firstWrong 80 = .ok (.ireturn, 1) := by decide +kernel
theorem dX0_firstWrong_81 : decode cX0_firstWrong 81 = .ok (.aload_n 0, 1) := by decide +kernel
theorem dX0_firstWrong_82 : decode cX0_firstWrong 82 = .ok (.invokevirtual 60, 3) := by decide +kernel
theorem dX0_firstWrong_85 : decode cX0_firstWrong 85 = .ok (.iload_n 2, 1) := by decide +kernel
theorem dX0_firstWrong_86 : decode cX0_firstWrong 86 = .ok (.if_icmp .le 5, 3) := by decide +kernel
theorem dX0_firstWrong_89 : decode cX0_firstWrong 89 = .ok (.iconst 4, 1) := by decide +kernel
theorem dX0_firstWrong_90 : decode cX0_firstWrong 90 = .ok (.ireturn, 1) := by decide +kernel
theorem dX0_firstWrong_91 : decode cX0_firstWrong 91 = .ok (.aload_n 0, 1) := by decide +kernel
theorem dX0_firstWrong_92 : decode cX0_firstWrong 92 = .ok (.getfield 24, 3) := by decide +kernel
theorem dX0_firstWrong_95 : decode cX0_firstWrong 95 = .ok (.ifCond .eq 10, 3) := by decide +kernel
theorem dX0_firstWrong_98 : decode cX0_firstWrong 98 = .ok (.aload_n 0, 1) := by decide +kernel
theorem dX0_firstWrong_99 : decode cX0_firstWrong 99 = .ok (.invokevirtual 63, 3) := by decide +kernel
theorem dX0_firstWrong_102 : decode cX0_firstWrong 102 = .ok (.ifCond .eq 7, 3) := by decide +kernel
theorem dX0_firstWrong_105 : decode cX0_firstWrong 105 = .ok (.iconst 0, 1) := by decide +kernel
theorem dX0_firstWrong_106 : decode cX0_firstWrong 106 = .ok (.goto 4, 3) := by decide +kernel
theorem dX0_firstWrong_109 : decode cX0_firstWrong 109 = .ok (.iconst 5, 1) := by decide +kernel
theorem dX0_firstWrong_110 : decode cX0_firstWrong 110 = .ok (.ireturn, 1) := by decide +kernel
theorem dX0_endsAreTold_0 : decode cX0_endsAreTold 0 = .ok (.aload_n 0, 1) := by decide +kernel
theorem dX0_endsAreTold_1 : decode cX0_endsAreTold 1 = .ok (.getfield 15, 3) := by decide +kernel
theorem dX0_endsAreTold_4 : decode cX0_endsAreTold 4 = .ok (.iconst 0, 1) := by decide +kernel
theorem dX0_endsAreTold_5 : decode cX0_endsAreTold 5 = .ok (.iaload, 1) := by decide +kernel
theorem dX0_endsAreTold_6 : decode cX0_endsAreTold 6 = .ok (.iconst 1, 1) := by decide +kernel
theorem dX0_endsAreTold_7 : decode cX0_endsAreTold 7 = .ok (.if_icmp .ne 38, 3) := by decide +kernel
theorem dX0_endsAreTold_10 : decode cX0_endsAreTold 10 = .ok (.aload_n 0, 1) := by decide +kernel
theorem dX0_endsAreTold_11 : decode cX0_endsAreTold 11 = .ok (.getfield 18, 3) := by decide +kernel
theorem dX0_endsAreTold_14 : decode cX0_endsAreTold 14 = .ok (.iconst 0, 1) := by decide +kernel
theorem dX0_endsAreTold_15 : decode cX0_endsAreTold 15 = .ok (.iaload, 1) := by decide +kernel
theorem dX0_endsAreTold_16 : decode cX0_endsAreTold 16 = .ok (.ifCond .ne 29, 3) := by decide +kernel
theorem dX0_endsAreTold_19 : decode cX0_endsAreTold 19 = .ok (.aload_n 0, 1) := by decide +kernel
theorem dX0_endsAreTold_20 : decode cX0_endsAreTold 20 = .ok (.getfield 24, 3) := by decide +kernel
theorem dX0_endsAreTold_23 : decode cX0_endsAreTold 23 = .ok (.iconst 1, 1) := by decide +kernel
theorem dX0_endsAreTold_24 : decode cX0_endsAreTold 24 = .ok (.if_icmp .lt 17, 3) := by decide +kernel
theorem dX0_endsAreTold_27 : decode cX0_endsAreTold 27 = .ok (.aload_n 0, 1) := by decide +kernel
theorem dX0_endsAreTold_28 : decode cX0_endsAreTold 28 = .ok (.getfield 18, 3) := by decide +kernel
theorem dX0_endsAreTold_31 : decode cX0_endsAreTold 31 = .ok (.aload_n 0, 1) := by decide +kernel
theorem dX0_endsAreTold_32 : decode cX0_endsAreTold 32 = .ok (.getfield 24, 3) := by decide +kernel
theorem dX0_endsAreTold_35 : decode cX0_endsAreTold 35 = .ok (.iconst 1, 1) := by decide +kernel
theorem dX0_endsAreTold_36 : decode cX0_endsAreTold 36 = .ok (.isub, 1) := by decide +kernel
theorem dX0_endsAreTold_37 : decode cX0_endsAreTold 37 = .ok (.iaload, 1) := by decide +kernel
theorem dX0_endsAreTold_38 : decode cX0_endsAreTold 38 = .ok (.ifCond .ne 7, 3) := by decide +kernel
theorem dX0_endsAreTold_41 : decode cX0_endsAreTold 41 = .ok (.iconst 1, 1) := by decide +kernel
theorem dX0_endsAreTold_42 : decode cX0_endsAreTold 42 = .ok (.goto 4, 3) := by decide +kernel
theorem dX0_endsAreTold_45 : decode cX0_endsAreTold 45 = .ok (.iconst 0, 1) := by decide +kernel
theorem dX0_endsAreTold_46 : decode cX0_endsAreTold 46 = .ok (.ireturn, 1) := by decide +kernel
theorem dX0_insert_0 : decode cX0_insert 0 = .ok (.aload_n 0, 1) := by decide +kernel
theorem dX0_insert_1 : decode cX0_insert 1 = .ok (.getfield 24, 3) := by decide +kernel
theorem dX0_insert_4 : decode cX0_insert 4 = .ok (.sipush 1000, 3) := by decide +kernel
theorem dX0_insert_7 : decode cX0_insert 7 = .ok (.if_icmp .lt 4, 3) := by decide +kernel
theorem dX0_insert_10 : decode cX0_insert 10 = .ok (.return_, 1) := by decide +kernel
theorem dX0_insert_11 : decode cX0_insert 11 = .ok (.aload_n 0, 1) := by decide +kernel
theorem dX0_insert_12 : decode cX0_insert 12 = .ok (.iload_n 1, 1) := by decide +kernel
theorem dX0_insert_13 : decode cX0_insert 13 = .ok (.invokevirtual 41, 3) := by decide +kernel
theorem dX0_insert_16 : decode cX0_insert 16 = .ok (.istore_n 2, 1) := by decide +kernel
theorem dX0_insert_17 : decode cX0_insert 17 = .ok (.aload_n 0, 1) := by decide +kernel
theorem dX0_insert_18 : decode cX0_insert 18 = .ok (.iload_n 2, 1) := by decide +kernel
theorem dX0_insert_19 : decode cX0_insert 19 = .ok (.invokevirtual 67, 3) := by decide +kernel
theorem dX0_insert_22 : decode cX0_insert 22 = .ok (.istore_n 3, 1) := by decide +kernel
theorem dX0_insert_23 : decode cX0_insert 23 = .ok (.aload_n 0, 1) := by decide +kernel
theorem dX0_insert_24 : decode cX0_insert 24 = .ok (.getfield 9, 3) := by decide +kernel
theorem dX0_insert_27 : decode cX0_insert 27 = .ok (.iload_n 2, 1) := by decide +kernel
theorem dX0_insert_28 : decode cX0_insert 28 = .ok (.aload_n 0, 1) := by decide +kernel
theorem dX0_insert_29 : decode cX0_insert 29 = .ok (.getfield 9, 3) := by decide +kernel
theorem dX0_insert_32 : decode cX0_insert 32 = .ok (.iload_n 2, 1) := by decide +kernel
theorem dX0_insert_33 : decode cX0_insert 33 = .ok (.iconst 1, 1) := by decide +kernel
theorem dX0_insert_34 : decode cX0_insert 34 = .ok (.iadd, 1) := by decide +kernel
theorem dX0_insert_35 : decode cX0_insert 35 = .ok (.aload_n 0, 1) := by decide +kernel
theorem dX0_insert_36 : decode cX0_insert 36 = .ok (.getfield 24, 3) := by decide +kernel
theorem dX0_insert_39 : decode cX0_insert 39 = .ok (.iload_n 2, 1) := by decide +kernel
theorem dX0_insert_40 : decode cX0_insert 40 = .ok (.isub, 1) := by decide +kernel
theorem dX0_insert_41 : decode cX0_insert 41 = .ok (.invokestatic 70, 3) := by decide +kernel
theorem dX0_insert_44 : decode cX0_insert 44 = .ok (.aload_n 0, 1) := by decide +kernel
theorem dX0_insert_45 : decode cX0_insert 45 = .ok (.getfield 18, 3) := by decide +kernel
theorem dX0_insert_48 : decode cX0_insert 48 = .ok (.iload_n 2, 1) := by decide +kernel
theorem dX0_insert_49 : decode cX0_insert 49 = .ok (.aload_n 0, 1) := by decide +kernel
theorem dX0_insert_50 : decode cX0_insert 50 = .ok (.getfield 18, 3) := by decide +kernel
theorem dX0_insert_53 : decode cX0_insert 53 = .ok (.iload_n 2, 1) := by decide +kernel
theorem dX0_insert_54 : decode cX0_insert 54 = .ok (.iconst 1, 1) := by decide +kernel
theorem dX0_insert_55 : decode cX0_insert 55 = .ok (.iadd, 1) := by decide +kernel
theorem dX0_insert_56 : decode cX0_insert 56 = .ok (.aload_n 0, 1) := by decide +kernel
theorem dX0_insert_57 : decode cX0_insert 57 = .ok (.getfield 24, 3) := by decide +kernel
theorem dX0_insert_60 : decode cX0_insert 60 = .ok (.iload_n 2, 1) := by decide +kernel
theorem dX0_insert_61 : decode cX0_insert 61 = .ok (.isub, 1) := by decide +kernel
theorem dX0_insert_62 : decode cX0_insert 62 = .ok (.invokestatic 70, 3) := by decide +kernel
theorem dX0_insert_65 : decode cX0_insert 65 = .ok (.aload_n 0, 1) := by decide +kernel
theorem dX0_insert_66 : decode cX0_insert 66 = .ok (.getfield 24, 3) := by decide +kernel
theorem dX0_insert_69 : decode cX0_insert 69 = .ok (.istore 4, 2) := by decide +kernel
theorem dX0_insert_71 : decode cX0_insert 71 = .ok (.iload 4, 2) := by decide +kernel
theorem dX0_insert_73 : decode cX0_insert 73 = .ok (.iload_n 2, 1) := by decide +kernel
theorem dX0_insert_74 : decode cX0_insert 74 = .ok (.if_icmp .le 27, 3) := by decide +kernel
theorem dX0_insert_77 : decode cX0_insert 77 = .ok (.aload_n 0, 1) := by decide +kernel
theorem dX0_insert_78 : decode cX0_insert 78 = .ok (.getfield 15, 3) := by decide +kernel
theorem dX0_insert_81 : decode cX0_insert 81 = .ok (.iload 4, 2) := by decide +kernel
theorem dX0_insert_83 : decode cX0_insert 83 = .ok (.aload_n 0, 1) := by decide +kernel
theorem dX0_insert_84 : decode cX0_insert 84 = .ok (.getfield 15, 3) := by decide +kernel
theorem dX0_insert_87 : decode cX0_insert 87 = .ok (.iload 4, 2) := by decide +kernel
theorem dX0_insert_89 : decode cX0_insert 89 = .ok (.iconst 1, 1) := by decide +kernel
theorem dX0_insert_90 : decode cX0_insert 90 = .ok (.isub, 1) := by decide +kernel
theorem dX0_insert_91 : decode cX0_insert 91 = .ok (.iaload, 1) := by decide +kernel
theorem dX0_insert_92 : decode cX0_insert 92 = .ok (.iconst 1, 1) := by decide +kernel
theorem dX0_insert_93 : decode cX0_insert 93 = .ok (.iadd, 1) := by decide +kernel
theorem dX0_insert_94 : decode cX0_insert 94 = .ok (.iastore, 1) := by decide +kernel
theorem dX0_insert_95 : decode cX0_insert 95 = .ok (.iinc 4 (-1), 3) := by decide +kernel
theorem dX0_insert_98 : decode cX0_insert 98 = .ok (.goto (-27), 3) := by decide +kernel
theorem dX0_insert_101 : decode cX0_insert 101 = .ok (.aload_n 0, 1) := by decide +kernel
theorem dX0_insert_102 : decode cX0_insert 102 = .ok (.getfield 9, 3) := by decide +kernel
theorem dX0_insert_105 : decode cX0_insert 105 = .ok (.iload_n 2, 1) := by decide +kernel
theorem dX0_insert_106 : decode cX0_insert 106 = .ok (.iload_n 1, 1) := by decide +kernel
theorem dX0_insert_107 : decode cX0_insert 107 = .ok (.iastore, 1) := by decide +kernel
theorem dX0_insert_108 : decode cX0_insert 108 = .ok (.aload_n 0, 1) := by decide +kernel
theorem dX0_insert_109 : decode cX0_insert 109 = .ok (.getfield 18, 3) := by decide +kernel
theorem dX0_insert_112 : decode cX0_insert 112 = .ok (.iload_n 2, 1) := by decide +kernel
theorem dX0_insert_113 : decode cX0_insert 113 = .ok (.iload_n 3, 1) := by decide +kernel
theorem dX0_insert_114 : decode cX0_insert 114 = .ok (.iastore, 1) := by decide +kernel
theorem dX0_insert_115 : decode cX0_insert 115 = .ok (.aload_n 0, 1) := by decide +kernel
theorem dX0_insert_116 : decode cX0_insert 116 = .ok (.getfield 15, 3) := by decide +kernel
theorem dX0_insert_119 : decode cX0_insert 119 = .ok (.iload_n 2, 1) := by decide +kernel
theorem dX0_insert_120 : decode cX0_insert 120 = .ok (.aload_n 0, 1) := by decide +kernel
theorem dX0_insert_121 : decode cX0_insert 121 = .ok (.iload_n 2, 1) := by decide +kernel
theorem dX0_insert_122 : decode cX0_insert 122 = .ok (.invokevirtual 28, 3) := by decide +kernel
theorem dX0_insert_125 : decode cX0_insert 125 = .ok (.iconst 1, 1) := by decide +kernel
theorem dX0_insert_126 : decode cX0_insert 126 = .ok (.iadd, 1) := by decide +kernel
theorem dX0_insert_127 : decode cX0_insert 127 = .ok (.iastore, 1) := by decide +kernel
theorem dX0_insert_128 : decode cX0_insert 128 = .ok (.aload_n 0, 1) := by decide +kernel
theorem dX0_insert_129 : decode cX0_insert 129 = .ok (.dup, 1) := by decide +kernel
theorem dX0_insert_130 : decode cX0_insert 130 = .ok (.getfield 24, 3) := by decide +kernel
theorem dX0_insert_133 : decode cX0_insert 133 = .ok (.iconst 1, 1) := by decide +kernel
theorem dX0_insert_134 : decode cX0_insert 134 = .ok (.iadd, 1) := by decide +kernel
theorem dX0_insert_135 : decode cX0_insert 135 = .ok (.putfield 24, 3) := by decide +kernel
theorem dX0_insert_138 : decode cX0_insert 138 = .ok (.return_, 1) := by decide +kernel
theorem dX0_spreadAhead_0 : decode cX0_spreadAhead 0 = .ok (.iload_n 1, 1) := by decide +kernel
theorem dX0_spreadAhead_1 : decode cX0_spreadAhead 1 = .ok (.ifCond .le 11, 3) := by decide +kernel
theorem dX0_spreadAhead_4 : decode cX0_spreadAhead 4 = .ok (.iload_n 1, 1) := by decide +kernel
theorem dX0_spreadAhead_5 : decode cX0_spreadAhead 5 = .ok (.aload_n 0, 1) := by decide +kernel
theorem dX0_spreadAhead_6 : decode cX0_spreadAhead 6 = .ok (.getfield 24, 3) := by decide +kernel
theorem dX0_spreadAhead_9 : decode cX0_spreadAhead 9 = .ok (.if_icmp .lt 7, 3) := by decide +kernel
theorem dX0_spreadAhead_12 : decode cX0_spreadAhead 12 = .ok (.iconst 0, 1) := by decide +kernel
theorem dX0_spreadAhead_13 : decode cX0_spreadAhead 13 = .ok (.goto 10, 3) := by decide +kernel
theorem dX0_spreadAhead_16 : decode cX0_spreadAhead 16 = .ok (.aload_n 0, 1) := by decide +kernel
theorem dX0_spreadAhead_17 : decode cX0_spreadAhead 17 = .ok (.iload_n 1, 1) := by decide +kernel
theorem dX0_spreadAhead_18 : decode cX0_spreadAhead 18 = .ok (.invokevirtual 32, 3) := by decide +kernel
theorem dX0_spreadAhead_21 : decode cX0_spreadAhead 21 = .ok (.iconst 1, 1) := by decide +kernel
theorem dX0_spreadAhead_22 : decode cX0_spreadAhead 22 = .ok (.isub, 1) := by decide +kernel
theorem dX0_spreadAhead_23 : decode cX0_spreadAhead 23 = .ok (.ireturn, 1) := by decide +kernel
theorem dX0_copyOf_0 : decode cX0_copyOf 0 = .ok (.aload_n 0, 1) := by decide +kernel
theorem dX0_copyOf_1 : decode cX0_copyOf 1 = .ok (.aload_n 1, 1) := by decide +kernel
theorem dX0_copyOf_2 : decode cX0_copyOf 2 = .ok (.getfield 24, 3) := by decide +kernel
theorem dX0_copyOf_5 : decode cX0_copyOf 5 = .ok (.putfield 24, 3) := by decide +kernel
theorem dX0_copyOf_8 : decode cX0_copyOf 8 = .ok (.aload_n 1, 1) := by decide +kernel
theorem dX0_copyOf_9 : decode cX0_copyOf 9 = .ok (.getfield 9, 3) := by decide +kernel
theorem dX0_copyOf_12 : decode cX0_copyOf 12 = .ok (.iconst 0, 1) := by decide +kernel
theorem dX0_copyOf_13 : decode cX0_copyOf 13 = .ok (.aload_n 0, 1) := by decide +kernel
theorem dX0_copyOf_14 : decode cX0_copyOf 14 = .ok (.getfield 9, 3) := by decide +kernel
theorem dX0_copyOf_17 : decode cX0_copyOf 17 = .ok (.iconst 0, 1) := by decide +kernel
theorem dX0_copyOf_18 : decode cX0_copyOf 18 = .ok (.aload_n 0, 1) := by decide +kernel
theorem dX0_copyOf_19 : decode cX0_copyOf 19 = .ok (.getfield 24, 3) := by decide +kernel
theorem dX0_copyOf_22 : decode cX0_copyOf 22 = .ok (.invokestatic 70, 3) := by decide +kernel
theorem dX0_copyOf_25 : decode cX0_copyOf 25 = .ok (.aload_n 1, 1) := by decide +kernel
theorem dX0_copyOf_26 : decode cX0_copyOf 26 = .ok (.getfield 15, 3) := by decide +kernel
theorem dX0_copyOf_29 : decode cX0_copyOf 29 = .ok (.iconst 0, 1) := by decide +kernel
theorem dX0_copyOf_30 : decode cX0_copyOf 30 = .ok (.aload_n 0, 1) := by decide +kernel
theorem dX0_copyOf_31 : decode cX0_copyOf 31 = .ok (.getfield 15, 3) := by decide +kernel
theorem dX0_copyOf_34 : decode cX0_copyOf 34 = .ok (.iconst 0, 1) := by decide +kernel
theorem dX0_copyOf_35 : decode cX0_copyOf 35 = .ok (.aload_n 0, 1) := by decide +kernel
theorem dX0_copyOf_36 : decode cX0_copyOf 36 = .ok (.getfield 24, 3) := by decide +kernel
theorem dX0_copyOf_39 : decode cX0_copyOf 39 = .ok (.invokestatic 70, 3) := by decide +kernel
theorem dX0_copyOf_42 : decode cX0_copyOf 42 = .ok (.aload_n 1, 1) := by decide +kernel
theorem dX0_copyOf_43 : decode cX0_copyOf 43 = .ok (.getfield 18, 3) := by decide +kernel
theorem dX0_copyOf_46 : decode cX0_copyOf 46 = .ok (.iconst 0, 1) := by decide +kernel
theorem dX0_copyOf_47 : decode cX0_copyOf 47 = .ok (.aload_n 0, 1) := by decide +kernel
theorem dX0_copyOf_48 : decode cX0_copyOf 48 = .ok (.getfield 18, 3) := by decide +kernel
theorem dX0_copyOf_51 : decode cX0_copyOf 51 = .ok (.iconst 0, 1) := by decide +kernel
theorem dX0_copyOf_52 : decode cX0_copyOf 52 = .ok (.aload_n 0, 1) := by decide +kernel
theorem dX0_copyOf_53 : decode cX0_copyOf 53 = .ok (.getfield 24, 3) := by decide +kernel
theorem dX0_copyOf_56 : decode cX0_copyOf 56 = .ok (.invokestatic 70, 3) := by decide +kernel
theorem dX0_copyOf_59 : decode cX0_copyOf 59 = .ok (.return_, 1) := by decide +kernel
theorem dX0_joinOf_0 : decode cX0_joinOf 0 = .ok (.iconst 0, 1) := by decide +kernel
theorem dX0_joinOf_1 : decode cX0_joinOf 1 = .ok (.istore_n 3, 1) := by decide +kernel
theorem dX0_joinOf_2 : decode cX0_joinOf 2 = .ok (.iconst 0, 1) := by decide +kernel
theorem dX0_joinOf_3 : decode cX0_joinOf 3 = .ok (.istore 4, 2) := by decide +kernel
theorem dX0_joinOf_5 : decode cX0_joinOf 5 = .ok (.aload_n 0, 1) := by decide +kernel
theorem dX0_joinOf_6 : decode cX0_joinOf 6 = .ok (.sipush 1000, 3) := by decide +kernel
theorem dX0_joinOf_9 : decode cX0_joinOf 9 = .ok (.aload_n 1, 1) := by decide +kernel
theorem dX0_joinOf_10 : decode cX0_joinOf 10 = .ok (.getfield 24, 3) := by decide +kernel
theorem dX0_joinOf_13 : decode cX0_joinOf 13 = .ok (.aload_n 2, 1) := by decide +kernel
theorem dX0_joinOf_14 : decode cX0_joinOf 14 = .ok (.getfield 24, 3) := by decide +kernel
theorem dX0_joinOf_17 : decode cX0_joinOf 17 = .ok (.iadd, 1) := by decide +kernel
theorem dX0_joinOf_18 : decode cX0_joinOf 18 = .ok (.invokestatic 76, 3) := by decide +kernel
theorem dX0_joinOf_21 : decode cX0_joinOf 21 = .ok (.putfield 24, 3) := by decide +kernel
theorem dX0_joinOf_24 : decode cX0_joinOf 24 = .ok (.iconst 0, 1) := by decide +kernel
theorem dX0_joinOf_25 : decode cX0_joinOf 25 = .ok (.istore 5, 2) := by decide +kernel
theorem dX0_joinOf_27 : decode cX0_joinOf 27 = .ok (.iload 5, 2) := by decide +kernel
theorem dX0_joinOf_29 : decode cX0_joinOf 29 = .ok (.aload_n 0, 1) := by decide +kernel
theorem dX0_joinOf_30 : decode cX0_joinOf 30 = .ok (.getfield 24, 3) := by decide +kernel
theorem dX0_joinOf_33 : decode cX0_joinOf 33 = .ok (.if_icmp .ge 85, 3) := by decide +kernel
theorem dX0_joinOf_36 : decode cX0_joinOf 36 = .ok (.iload 4, 2) := by decide +kernel
theorem dX0_joinOf_38 : decode cX0_joinOf 38 = .ok (.aload_n 2, 1) := by decide +kernel
theorem dX0_joinOf_39 : decode cX0_joinOf 39 = .ok (.getfield 24, 3) := by decide +kernel
theorem dX0_joinOf_42 : decode cX0_joinOf 42 = .ok (.if_icmp .ge 27, 3) := by decide +kernel
theorem dX0_joinOf_45 : decode cX0_joinOf 45 = .ok (.iload_n 3, 1) := by decide +kernel
theorem dX0_joinOf_46 : decode cX0_joinOf 46 = .ok (.aload_n 1, 1) := by decide +kernel
theorem dX0_joinOf_47 : decode cX0_joinOf 47 = .ok (.getfield 24, 3) := by decide +kernel
theorem dX0_joinOf_50 : decode cX0_joinOf 50 = .ok (.if_icmp .ge 23, 3) := by decide +kernel
theorem dX0_joinOf_53 : decode cX0_joinOf 53 = .ok (.aload_n 1, 1) := by decide +kernel
theorem dX0_joinOf_54 : decode cX0_joinOf 54 = .ok (.getfield 9, 3) := by decide +kernel
theorem dX0_joinOf_57 : decode cX0_joinOf 57 = .ok (.iload_n 3, 1) := by decide +kernel
theorem dX0_joinOf_58 : decode cX0_joinOf 58 = .ok (.iaload, 1) := by decide +kernel
theorem dX0_joinOf_59 : decode cX0_joinOf 59 = .ok (.aload_n 2, 1) := by decide +kernel
theorem dX0_joinOf_60 : decode cX0_joinOf 60 = .ok (.getfield 9, 3) := by decide +kernel
theorem dX0_joinOf_63 : decode cX0_joinOf 63 = .ok (.iload 4, 2) := by decide +kernel
theorem dX0_joinOf_65 : decode cX0_joinOf 65 = .ok (.iaload, 1) := by decide +kernel
theorem dX0_joinOf_66 : decode cX0_joinOf 66 = .ok (.if_icmp .gt 7, 3) := by decide +kernel
theorem dX0_joinOf_69 : decode cX0_joinOf 69 = .ok (.iconst 1, 1) := by decide +kernel
theorem dX0_joinOf_70 : decode cX0_joinOf 70 = .ok (.goto 4, 3) := by decide +kernel
theorem dX0_joinOf_73 : decode cX0_joinOf 73 = .ok (.iconst 0, 1) := by decide +kernel
theorem dX0_joinOf_74 : decode cX0_joinOf 74 = .ok (.istore 6, 2) := by decide +kernel
theorem dX0_joinOf_76 : decode cX0_joinOf 76 = .ok (.iload 6, 2) := by decide +kernel
theorem dX0_joinOf_78 : decode cX0_joinOf 78 = .ok (.ifCond .eq 20, 3) := by decide +kernel
theorem dX0_joinOf_81 : decode cX0_joinOf 81 = .ok (.aload_n 0, 1) := by decide +kernel
theorem dX0_joinOf_82 : decode cX0_joinOf 82 = .ok (.iload 5, 2) := by decide +kernel
theorem dX0_joinOf_84 : decode cX0_joinOf 84 = .ok (.aload_n 1, 1) := by decide +kernel
theorem dX0_joinOf_85 : decode cX0_joinOf 85 = .ok (.iload_n 3, 1) := by decide +kernel
theorem dX0_joinOf_86 : decode cX0_joinOf 86 = .ok (.aload_n 2, 1) := by decide +kernel
theorem dX0_joinOf_87 : decode cX0_joinOf 87 = .ok (.iload 4, 2) := by decide +kernel
theorem dX0_joinOf_89 : decode cX0_joinOf 89 = .ok (.invokevirtual 79, 3) := by decide +kernel
theorem dX0_joinOf_92 : decode cX0_joinOf 92 = .ok (.iinc 3 1, 3) := by decide +kernel
theorem dX0_joinOf_95 : decode cX0_joinOf 95 = .ok (.goto 17, 3) := by decide +kernel
theorem dX0_joinOf_98 : decode cX0_joinOf 98 = .ok (.aload_n 0, 1) := by decide +kernel
theorem dX0_joinOf_99 : decode cX0_joinOf 99 = .ok (.iload 5, 2) := by decide +kernel
theorem dX0_joinOf_101 : decode cX0_joinOf 101 = .ok (.aload_n 2, 1) := by decide +kernel
theorem dX0_joinOf_102 : decode cX0_joinOf 102 = .ok (.iload 4, 2) := by decide +kernel
theorem dX0_joinOf_104 : decode cX0_joinOf 104 = .ok (.aload_n 1, 1) := by decide +kernel
theorem dX0_joinOf_105 : decode cX0_joinOf 105 = .ok (.iload_n 3, 1) := by decide +kernel
theorem dX0_joinOf_106 : decode cX0_joinOf 106 = .ok (.invokevirtual 79, 3) := by decide +kernel
theorem dX0_joinOf_109 : decode cX0_joinOf 109 = .ok (.iinc 4 1, 3) := by decide +kernel
theorem dX0_joinOf_112 : decode cX0_joinOf 112 = .ok (.iinc 5 1, 3) := by decide +kernel
theorem dX0_joinOf_115 : decode cX0_joinOf 115 = .ok (.goto (-88), 3) := by decide +kernel
theorem dX0_joinOf_118 : decode cX0_joinOf 118 = .ok (.return_, 1) := by decide +kernel
theorem dX0_joinTuple_0 : decode cX0_joinTuple 0 = .ok (.aload_n 0, 1) := by decide +kernel
theorem dX0_joinTuple_1 : decode cX0_joinTuple 1 = .ok (.getfield 9, 3) := by decide +kernel
theorem dX0_joinTuple_4 : decode cX0_joinTuple 4 = .ok (.iload_n 1, 1) := by decide +kernel
theorem dX0_joinTuple_5 : decode cX0_joinTuple 5 = .ok (.aload_n 2, 1) := by decide +kernel
theorem dX0_joinTuple_6 : decode cX0_joinTuple 6 = .ok (.getfield 9, 3) := by decide +kernel
theorem dX0_joinTuple_9 : decode cX0_joinTuple 9 = .ok (.iload_n 3, 1) := by decide +kernel
theorem dX0_joinTuple_10 : decode cX0_joinTuple 10 = .ok (.iaload, 1) := by decide +kernel
theorem dX0_joinTuple_11 : decode cX0_joinTuple 11 = .ok (.iastore, 1) := by decide +kernel
theorem dX0_joinTuple_12 : decode cX0_joinTuple 12 = .ok (.aload_n 0, 1) := by decide +kernel
theorem dX0_joinTuple_13 : decode cX0_joinTuple 13 = .ok (.getfield 15, 3) := by decide +kernel
theorem dX0_joinTuple_16 : decode cX0_joinTuple 16 = .ok (.iload_n 1, 1) := by decide +kernel
theorem dX0_joinTuple_17 : decode cX0_joinTuple 17 = .ok (.aload_n 2, 1) := by decide +kernel
theorem dX0_joinTuple_18 : decode cX0_joinTuple 18 = .ok (.getfield 15, 3) := by decide +kernel
theorem dX0_joinTuple_21 : decode cX0_joinTuple 21 = .ok (.iload_n 3, 1) := by decide +kernel
theorem dX0_joinTuple_22 : decode cX0_joinTuple 22 = .ok (.iaload, 1) := by decide +kernel
theorem dX0_joinTuple_23 : decode cX0_joinTuple 23 = .ok (.aload 4, 2) := by decide +kernel
theorem dX0_joinTuple_25 : decode cX0_joinTuple 25 = .ok (.iload 5, 2) := by decide +kernel
theorem dX0_joinTuple_27 : decode cX0_joinTuple 27 = .ok (.invokevirtual 28, 3) := by decide +kernel
theorem dX0_joinTuple_30 : decode cX0_joinTuple 30 = .ok (.iadd, 1) := by decide +kernel
theorem dX0_joinTuple_31 : decode cX0_joinTuple 31 = .ok (.iastore, 1) := by decide +kernel
theorem dX0_joinTuple_32 : decode cX0_joinTuple 32 = .ok (.aload_n 0, 1) := by decide +kernel
theorem dX0_joinTuple_33 : decode cX0_joinTuple 33 = .ok (.getfield 18, 3) := by decide +kernel
theorem dX0_joinTuple_36 : decode cX0_joinTuple 36 = .ok (.iload_n 1, 1) := by decide +kernel
theorem dX0_joinTuple_37 : decode cX0_joinTuple 37 = .ok (.aload_n 2, 1) := by decide +kernel
theorem dX0_joinTuple_38 : decode cX0_joinTuple 38 = .ok (.getfield 18, 3) := by decide +kernel
theorem dX0_joinTuple_41 : decode cX0_joinTuple 41 = .ok (.iload_n 3, 1) := by decide +kernel
theorem dX0_joinTuple_42 : decode cX0_joinTuple 42 = .ok (.iaload, 1) := by decide +kernel
theorem dX0_joinTuple_43 : decode cX0_joinTuple 43 = .ok (.iload 5, 2) := by decide +kernel
theorem dX0_joinTuple_45 : decode cX0_joinTuple 45 = .ok (.aload 4, 2) := by decide +kernel
theorem dX0_joinTuple_47 : decode cX0_joinTuple 47 = .ok (.getfield 24, 3) := by decide +kernel
theorem dX0_joinTuple_50 : decode cX0_joinTuple 50 = .ok (.if_icmp .ge 15, 3) := by decide +kernel
theorem dX0_joinTuple_53 : decode cX0_joinTuple 53 = .ok (.aload 4, 2) := by decide +kernel
theorem dX0_joinTuple_55 : decode cX0_joinTuple 55 = .ok (.iload 5, 2) := by decide +kernel
theorem dX0_joinTuple_57 : decode cX0_joinTuple 57 = .ok (.invokevirtual 32, 3) := by decide +kernel
theorem dX0_joinTuple_60 : decode cX0_joinTuple 60 = .ok (.iconst 1, 1) := by decide +kernel
theorem dX0_joinTuple_61 : decode cX0_joinTuple 61 = .ok (.isub, 1) := by decide +kernel
theorem dX0_joinTuple_62 : decode cX0_joinTuple 62 = .ok (.goto 4, 3) := by decide +kernel
theorem dX0_joinTuple_65 : decode cX0_joinTuple 65 = .ok (.iconst 0, 1) := by decide +kernel
theorem dX0_joinTuple_66 : decode cX0_joinTuple 66 = .ok (.iadd, 1) := by decide +kernel
theorem dX0_joinTuple_67 : decode cX0_joinTuple 67 = .ok (.iastore, 1) := by decide +kernel
theorem dX0_joinTuple_68 : decode cX0_joinTuple 68 = .ok (.return_, 1) := by decide +kernel
theorem dX0_takeBands_0 : decode cX0_takeBands 0 = .ok (.iconst 0, 1) := by decide +kernel
theorem dX0_takeBands_1 : decode cX0_takeBands 1 = .ok (.istore_n 2, 1) := by decide +kernel
theorem dX0_takeBands_2 : decode cX0_takeBands 2 = .ok (.iload_n 2, 1) := by decide +kernel
theorem dX0_takeBands_3 : decode cX0_takeBands 3 = .ok (.aload_n 0, 1) := by decide +kernel
theorem dX0_takeBands_4 : decode cX0_takeBands 4 = .ok (.getfield 24, 3) := by decide +kernel
theorem dX0_takeBands_7 : decode cX0_takeBands 7 = .ok (.if_icmp .ge 25, 3) := by decide +kernel
theorem dX0_takeBands_10 : decode cX0_takeBands 10 = .ok (.aload_n 0, 1) := by decide +kernel
theorem dX0_takeBands_11 : decode cX0_takeBands 11 = .ok (.getfield 21, 3) := by decide +kernel
theorem dX0_takeBands_14 : decode cX0_takeBands 14 = .ok (.iload_n 2, 1) := by decide +kernel
theorem dX0_takeBands_15 : decode cX0_takeBands 15 = .ok (.aload_n 0, 1) := by decide +kernel
theorem dX0_takeBands_16 : decode cX0_takeBands 16 = .ok (.getfield 18, 3) := by decide +kernel
theorem dX0_takeBands_19 : decode cX0_takeBands 19 = .ok (.iload_n 2, 1) := by decide +kernel
theorem dX0_takeBands_20 : decode cX0_takeBands 20 = .ok (.iaload, 1) := by decide +kernel
theorem dX0_takeBands_21 : decode cX0_takeBands 21 = .ok (.iload_n 1, 1) := by decide +kernel
theorem dX0_takeBands_22 : decode cX0_takeBands 22 = .ok (.invokestatic 83, 3) := by decide +kernel
theorem dX0_takeBands_25 : decode cX0_takeBands 25 = .ok (.iastore, 1) := by decide +kernel
theorem dX0_takeBands_26 : decode cX0_takeBands 26 = .ok (.iinc 2 1, 3) := by decide +kernel
theorem dX0_takeBands_29 : decode cX0_takeBands 29 = .ok (.goto (-27), 3) := by decide +kernel
theorem dX0_takeBands_32 : decode cX0_takeBands 32 = .ok (.return_, 1) := by decide +kernel
theorem dX0_familyFrom_0 : decode cX0_familyFrom 0 = .ok (.iload_n 1, 1) := by decide +kernel
theorem dX0_familyFrom_1 : decode cX0_familyFrom 1 = .ok (.istore_n 2, 1) := by decide +kernel
theorem dX0_familyFrom_2 : decode cX0_familyFrom 2 = .ok (.iload_n 2, 1) := by decide +kernel
theorem dX0_familyFrom_3 : decode cX0_familyFrom 3 = .ok (.iconst 1, 1) := by decide +kernel
theorem dX0_familyFrom_4 : decode cX0_familyFrom 4 = .ok (.if_icmp .le 26, 3) := by decide +kernel
theorem dX0_familyFrom_7 : decode cX0_familyFrom 7 = .ok (.aload_n 0, 1) := by decide +kernel
theorem dX0_familyFrom_8 : decode cX0_familyFrom 8 = .ok (.getfield 21, 3) := by decide +kernel
theorem dX0_familyFrom_11 : decode cX0_familyFrom 11 = .ok (.iload_n 2, 1) := by decide +kernel
theorem dX0_familyFrom_12 : decode cX0_familyFrom 12 = .ok (.iconst 1, 1) := by decide +kernel
theorem dX0_familyFrom_13 : decode cX0_familyFrom 13 = .ok (.isub, 1) := by decide +kernel
theorem dX0_familyFrom_14 : decode cX0_familyFrom 14 = .ok (.iaload, 1) := by decide +kernel
theorem dX0_familyFrom_15 : decode cX0_familyFrom 15 = .ok (.aload_n 0, 1) := by decide +kernel
theorem dX0_familyFrom_16 : decode cX0_familyFrom 16 = .ok (.getfield 21, 3) := by decide +kernel
theorem dX0_familyFrom_19 : decode cX0_familyFrom 19 = .ok (.iload_n 1, 1) := by decide +kernel
theorem dX0_familyFrom_20 : decode cX0_familyFrom 20 = .ok (.iaload, 1) := by decide +kernel
theorem dX0_familyFrom_21 : decode cX0_familyFrom 21 = .ok (.if_icmp .ge 9, 3) := by decide +kernel
theorem dX0_familyFrom_24 : decode cX0_familyFrom 24 = .ok (.iinc 2 (-1), 3) := by decide +kernel
theorem dX0_familyFrom_27 : decode cX0_familyFrom 27 = .ok (.goto (-25), 3) := by decide +kernel
theorem dX0_familyFrom_30 : decode cX0_familyFrom 30 = .ok (.iload_n 2, 1) := by decide +kernel
theorem dX0_familyFrom_31 : decode cX0_familyFrom 31 = .ok (.ireturn, 1) := by decide +kernel
theorem dX0_mayGo_0 : decode cX0_mayGo 0 = .ok (.aload_n 0, 1) := by decide +kernel
theorem dX0_mayGo_1 : decode cX0_mayGo 1 = .ok (.getfield 21, 3) := by decide +kernel
theorem dX0_mayGo_4 : decode cX0_mayGo 4 = .ok (.iload_n 1, 1) := by decide +kernel
theorem dX0_mayGo_5 : decode cX0_mayGo 5 = .ok (.iaload, 1) := by decide +kernel
theorem dX0_mayGo_6 : decode cX0_mayGo 6 = .ok (.aload_n 0, 1) := by decide +kernel
theorem dX0_mayGo_7 : decode cX0_mayGo 7 = .ok (.getfield 21, 3) := by decide +kernel
theorem dX0_mayGo_10 : decode cX0_mayGo 10 = .ok (.iload_n 3, 1) := by decide +kernel
theorem dX0_mayGo_11 : decode cX0_mayGo 11 = .ok (.iaload, 1) := by decide +kernel
theorem dX0_mayGo_12 : decode cX0_mayGo 12 = .ok (.if_icmp .gt 31, 3) := by decide +kernel
theorem dX0_mayGo_15 : decode cX0_mayGo 15 = .ok (.aload_n 0, 1) := by decide +kernel
theorem dX0_mayGo_16 : decode cX0_mayGo 16 = .ok (.getfield 15, 3) := by decide +kernel
theorem dX0_mayGo_19 : decode cX0_mayGo 19 = .ok (.iload_n 3, 1) := by decide +kernel
theorem dX0_mayGo_20 : decode cX0_mayGo 20 = .ok (.iaload, 1) := by decide +kernel
theorem dX0_mayGo_21 : decode cX0_mayGo 21 = .ok (.aload_n 0, 1) := by decide +kernel
theorem dX0_mayGo_22 : decode cX0_mayGo 22 = .ok (.iload_n 2, 1) := by decide +kernel
theorem dX0_mayGo_23 : decode cX0_mayGo 23 = .ok (.invokevirtual 28, 3) := by decide +kernel
theorem dX0_mayGo_26 : decode cX0_mayGo 26 = .ok (.isub, 1) := by decide +kernel
theorem dX0_mayGo_27 : decode cX0_mayGo 27 = .ok (.aload_n 0, 1) := by decide +kernel
theorem dX0_mayGo_28 : decode cX0_mayGo 28 = .ok (.getfield 18, 3) := by decide +kernel
theorem dX0_mayGo_31 : decode cX0_mayGo 31 = .ok (.iload_n 3, 1) := by decide +kernel
theorem dX0_mayGo_32 : decode cX0_mayGo 32 = .ok (.iaload, 1) := by decide +kernel
theorem dX0_mayGo_33 : decode cX0_mayGo 33 = .ok (.iadd, 1) := by decide +kernel
theorem dX0_mayGo_34 : decode cX0_mayGo 34 = .ok (.iload 4, 2) := by decide +kernel
theorem dX0_mayGo_36 : decode cX0_mayGo 36 = .ok (.if_icmp .gt 7, 3) := by decide +kernel
theorem dX0_mayGo_39 : decode cX0_mayGo 39 = .ok (.iconst 1, 1) := by decide +kernel
theorem dX0_mayGo_40 : decode cX0_mayGo 40 = .ok (.goto 4, 3) := by decide +kernel
theorem dX0_mayGo_43 : decode cX0_mayGo 43 = .ok (.iconst 0, 1) := by decide +kernel
theorem dX0_mayGo_44 : decode cX0_mayGo 44 = .ok (.ireturn, 1) := by decide +kernel
theorem dX0_shorten_0 : decode cX0_shorten 0 = .ok (.aload_n 0, 1) := by decide +kernel
theorem dX0_shorten_1 : decode cX0_shorten 1 = .ok (.getfield 24, 3) := by decide +kernel
theorem dX0_shorten_4 : decode cX0_shorten 4 = .ok (.iconst 3, 1) := by decide +kernel
theorem dX0_shorten_5 : decode cX0_shorten 5 = .ok (.if_icmp .ge 5, 3) := by decide +kernel
theorem dX0_shorten_8 : decode cX0_shorten 8 = .ok (.iconst 0, 1) := by decide +kernel
theorem dX0_shorten_9 : decode cX0_shorten 9 = .ok (.ireturn, 1) := by decide +kernel
theorem dX0_shorten_10 : decode cX0_shorten 10 = .ok (.aload_n 0, 1) := by decide +kernel
theorem dX0_shorten_11 : decode cX0_shorten 11 = .ok (.iload_n 1, 1) := by decide +kernel
theorem dX0_shorten_12 : decode cX0_shorten 12 = .ok (.invokevirtual 86, 3) := by decide +kernel
theorem dX0_shorten_15 : decode cX0_shorten 15 = .ok (.aload_n 0, 1) := by decide +kernel
theorem dX0_shorten_16 : decode cX0_shorten 16 = .ok (.getfield 24, 3) := by decide +kernel
theorem dX0_shorten_19 : decode cX0_shorten 19 = .ok (.iconst 1, 1) := by decide +kernel
theorem dX0_shorten_20 : decode cX0_shorten 20 = .ok (.isub, 1) := by decide +kernel
theorem dX0_shorten_21 : decode cX0_shorten 21 = .ok (.istore_n 2, 1) := by decide +kernel
theorem dX0_shorten_22 : decode cX0_shorten 22 = .ok (.aload_n 0, 1) := by decide +kernel
theorem dX0_shorten_23 : decode cX0_shorten 23 = .ok (.getfield 24, 3) := by decide +kernel
theorem dX0_shorten_26 : decode cX0_shorten 26 = .ok (.iconst 2, 1) := by decide +kernel
theorem dX0_shorten_27 : decode cX0_shorten 27 = .ok (.isub, 1) := by decide +kernel
theorem dX0_shorten_28 : decode cX0_shorten 28 = .ok (.istore_n 3, 1) := by decide +kernel
theorem dX0_shorten_29 : decode cX0_shorten 29 = .ok (.iload_n 3, 1) := by decide +kernel
theorem dX0_shorten_30 : decode cX0_shorten 30 = .ok (.iconst 1, 1) := by decide +kernel
theorem dX0_shorten_31 : decode cX0_shorten 31 = .ok (.if_icmp .lt 45, 3) := by decide +kernel
theorem dX0_shorten_34 : decode cX0_shorten 34 = .ok (.aload_n 0, 1) := by decide +kernel
theorem dX0_shorten_35 : decode cX0_shorten 35 = .ok (.iload_n 3, 1) := by decide +kernel
theorem dX0_shorten_36 : decode cX0_shorten 36 = .ok (.invokevirtual 90, 3) := by decide +kernel
theorem dX0_shorten_39 : decode cX0_shorten 39 = .ok (.istore 4, 2) := by decide +kernel
theorem dX0_shorten_41 : decode cX0_shorten 41 = .ok (.aload_n 0, 1) := by decide +kernel
theorem dX0_shorten_42 : decode cX0_shorten 42 = .ok (.iload_n 3, 1) := by decide +kernel
theorem dX0_shorten_43 : decode cX0_shorten 43 = .ok (.iload 4, 2) := by decide +kernel
theorem dX0_shorten_45 : decode cX0_shorten 45 = .ok (.iload_n 2, 1) := by decide +kernel
theorem dX0_shorten_46 : decode cX0_shorten 46 = .ok (.iload_n 1, 1) := by decide +kernel
theorem dX0_shorten_47 : decode cX0_shorten 47 = .ok (.invokevirtual 93, 3) := by decide +kernel
theorem dX0_shorten_50 : decode cX0_shorten 50 = .ok (.ifCond .eq 11, 3) := by decide +kernel
theorem dX0_shorten_53 : decode cX0_shorten 53 = .ok (.iload 4, 2) := by decide +kernel
theorem dX0_shorten_55 : decode cX0_shorten 55 = .ok (.iconst 1, 1) := by decide +kernel
theorem dX0_shorten_56 : decode cX0_shorten 56 = .ok (.isub, 1) := by decide +kernel
theorem dX0_shorten_57 : decode cX0_shorten 57 = .ok (.istore_n 3, 1) := by decide +kernel
theorem dX0_shorten_58 : decode cX0_shorten 58 = .ok (.goto 15, 3) := by decide +kernel
theorem dX0_shorten_61 : decode cX0_shorten 61 = .ok (.iinc 2 (-1), 3) := by decide +kernel
theorem dX0_shorten_64 : decode cX0_shorten 64 = .ok (.aload_n 0, 1) := by decide +kernel
theorem dX0_shorten_65 : decode cX0_shorten 65 = .ok (.iload_n 3, 1) := by decide +kernel
theorem dX0_shorten_66 : decode cX0_shorten 66 = .ok (.iload_n 2, 1) := by decide +kernel
theorem dX0_shorten_67 : decode cX0_shorten 67 = .ok (.invokevirtual 97, 3) := by decide +kernel
theorem dX0_shorten_70 : decode cX0_shorten 70 = .ok (.iinc 3 (-1), 3) := by decide +kernel
theorem dX0_shorten_73 : decode cX0_shorten 73 = .ok (.goto (-44), 3) := by decide +kernel
theorem dX0_shorten_76 : decode cX0_shorten 76 = .ok (.iinc 2 (-1), 3) := by decide +kernel
theorem dX0_shorten_79 : decode cX0_shorten 79 = .ok (.aload_n 0, 1) := by decide +kernel
theorem dX0_shorten_80 : decode cX0_shorten 80 = .ok (.iconst 0, 1) := by decide +kernel
theorem dX0_shorten_81 : decode cX0_shorten 81 = .ok (.iload_n 2, 1) := by decide +kernel
theorem dX0_shorten_82 : decode cX0_shorten 82 = .ok (.invokevirtual 97, 3) := by decide +kernel
theorem dX0_shorten_85 : decode cX0_shorten 85 = .ok (.aload_n 0, 1) := by decide +kernel
theorem dX0_shorten_86 : decode cX0_shorten 86 = .ok (.iload_n 2, 1) := by decide +kernel
theorem dX0_shorten_87 : decode cX0_shorten 87 = .ok (.invokevirtual 101, 3) := by decide +kernel
theorem dX0_shorten_90 : decode cX0_shorten 90 = .ok (.iload_n 2, 1) := by decide +kernel
theorem dX0_shorten_91 : decode cX0_shorten 91 = .ok (.ireturn, 1) := by decide +kernel
theorem dX0_moveTuple_0 : decode cX0_moveTuple 0 = .ok (.aload_n 0, 1) := by decide +kernel
theorem dX0_moveTuple_1 : decode cX0_moveTuple 1 = .ok (.getfield 9, 3) := by decide +kernel
theorem dX0_moveTuple_4 : decode cX0_moveTuple 4 = .ok (.iload_n 2, 1) := by decide +kernel
theorem dX0_moveTuple_5 : decode cX0_moveTuple 5 = .ok (.aload_n 0, 1) := by decide +kernel
theorem dX0_moveTuple_6 : decode cX0_moveTuple 6 = .ok (.getfield 9, 3) := by decide +kernel
theorem dX0_moveTuple_9 : decode cX0_moveTuple 9 = .ok (.iload_n 1, 1) := by decide +kernel
theorem dX0_moveTuple_10 : decode cX0_moveTuple 10 = .ok (.iaload, 1) := by decide +kernel
theorem dX0_moveTuple_11 : decode cX0_moveTuple 11 = .ok (.iastore, 1) := by decide +kernel
theorem dX0_moveTuple_12 : decode cX0_moveTuple 12 = .ok (.aload_n 0, 1) := by decide +kernel
theorem dX0_moveTuple_13 : decode cX0_moveTuple 13 = .ok (.getfield 15, 3) := by decide +kernel
theorem dX0_moveTuple_16 : decode cX0_moveTuple 16 = .ok (.iload_n 2, 1) := by decide +kernel
theorem dX0_moveTuple_17 : decode cX0_moveTuple 17 = .ok (.aload_n 0, 1) := by decide +kernel
theorem dX0_moveTuple_18 : decode cX0_moveTuple 18 = .ok (.getfield 15, 3) := by decide +kernel
theorem dX0_moveTuple_21 : decode cX0_moveTuple 21 = .ok (.iload_n 1, 1) := by decide +kernel
theorem dX0_moveTuple_22 : decode cX0_moveTuple 22 = .ok (.iaload, 1) := by decide +kernel
theorem dX0_moveTuple_23 : decode cX0_moveTuple 23 = .ok (.iastore, 1) := by decide +kernel
theorem dX0_moveTuple_24 : decode cX0_moveTuple 24 = .ok (.aload_n 0, 1) := by decide +kernel
theorem dX0_moveTuple_25 : decode cX0_moveTuple 25 = .ok (.getfield 18, 3) := by decide +kernel
theorem dX0_moveTuple_28 : decode cX0_moveTuple 28 = .ok (.iload_n 2, 1) := by decide +kernel
theorem dX0_moveTuple_29 : decode cX0_moveTuple 29 = .ok (.aload_n 0, 1) := by decide +kernel
theorem dX0_moveTuple_30 : decode cX0_moveTuple 30 = .ok (.getfield 18, 3) := by decide +kernel
theorem dX0_moveTuple_33 : decode cX0_moveTuple 33 = .ok (.iload_n 1, 1) := by decide +kernel
theorem dX0_moveTuple_34 : decode cX0_moveTuple 34 = .ok (.iaload, 1) := by decide +kernel
theorem dX0_moveTuple_35 : decode cX0_moveTuple 35 = .ok (.iastore, 1) := by decide +kernel
theorem dX0_moveTuple_36 : decode cX0_moveTuple 36 = .ok (.aload_n 0, 1) := by decide +kernel
theorem dX0_moveTuple_37 : decode cX0_moveTuple 37 = .ok (.getfield 21, 3) := by decide +kernel
theorem dX0_moveTuple_40 : decode cX0_moveTuple 40 = .ok (.iload_n 2, 1) := by decide +kernel
theorem dX0_moveTuple_41 : decode cX0_moveTuple 41 = .ok (.aload_n 0, 1) := by decide +kernel
theorem dX0_moveTuple_42 : decode cX0_moveTuple 42 = .ok (.getfield 21, 3) := by decide +kernel
theorem dX0_moveTuple_45 : decode cX0_moveTuple 45 = .ok (.iload_n 1, 1) := by decide +kernel
theorem dX0_moveTuple_46 : decode cX0_moveTuple 46 = .ok (.iaload, 1) := by decide +kernel
theorem dX0_moveTuple_47 : decode cX0_moveTuple 47 = .ok (.iastore, 1) := by decide +kernel
theorem dX0_moveTuple_48 : decode cX0_moveTuple 48 = .ok (.return_, 1) := by decide +kernel
theorem dX0_dropAhead_0 : decode cX0_dropAhead 0 = .ok (.aload_n 0, 1) := by decide +kernel
theorem dX0_dropAhead_1 : decode cX0_dropAhead 1 = .ok (.dup, 1) := by decide +kernel
theorem dX0_dropAhead_2 : decode cX0_dropAhead 2 = .ok (.getfield 24, 3) := by decide +kernel
theorem dX0_dropAhead_5 : decode cX0_dropAhead 5 = .ok (.iload_n 1, 1) := by decide +kernel
theorem dX0_dropAhead_6 : decode cX0_dropAhead 6 = .ok (.isub, 1) := by decide +kernel
theorem dX0_dropAhead_7 : decode cX0_dropAhead 7 = .ok (.putfield 24, 3) := by decide +kernel
theorem dX0_dropAhead_10 : decode cX0_dropAhead 10 = .ok (.aload_n 0, 1) := by decide +kernel
theorem dX0_dropAhead_11 : decode cX0_dropAhead 11 = .ok (.getfield 9, 3) := by decide +kernel
theorem dX0_dropAhead_14 : decode cX0_dropAhead 14 = .ok (.iload_n 1, 1) := by decide +kernel
theorem dX0_dropAhead_15 : decode cX0_dropAhead 15 = .ok (.aload_n 0, 1) := by decide +kernel
theorem dX0_dropAhead_16 : decode cX0_dropAhead 16 = .ok (.getfield 9, 3) := by decide +kernel
theorem dX0_dropAhead_19 : decode cX0_dropAhead 19 = .ok (.iconst 0, 1) := by decide +kernel
theorem dX0_dropAhead_20 : decode cX0_dropAhead 20 = .ok (.aload_n 0, 1) := by decide +kernel
theorem dX0_dropAhead_21 : decode cX0_dropAhead 21 = .ok (.getfield 24, 3) := by decide +kernel
theorem dX0_dropAhead_24 : decode cX0_dropAhead 24 = .ok (.invokestatic 70, 3) := by decide +kernel
theorem dX0_dropAhead_27 : decode cX0_dropAhead 27 = .ok (.aload_n 0, 1) := by decide +kernel
theorem dX0_dropAhead_28 : decode cX0_dropAhead 28 = .ok (.getfield 15, 3) := by decide +kernel
theorem dX0_dropAhead_31 : decode cX0_dropAhead 31 = .ok (.iload_n 1, 1) := by decide +kernel
theorem dX0_dropAhead_32 : decode cX0_dropAhead 32 = .ok (.aload_n 0, 1) := by decide +kernel
theorem dX0_dropAhead_33 : decode cX0_dropAhead 33 = .ok (.getfield 15, 3) := by decide +kernel
theorem dX0_dropAhead_36 : decode cX0_dropAhead 36 = .ok (.iconst 0, 1) := by decide +kernel
theorem dX0_dropAhead_37 : decode cX0_dropAhead 37 = .ok (.aload_n 0, 1) := by decide +kernel
theorem dX0_dropAhead_38 : decode cX0_dropAhead 38 = .ok (.getfield 24, 3) := by decide +kernel
theorem dX0_dropAhead_41 : decode cX0_dropAhead 41 = .ok (.invokestatic 70, 3) := by decide +kernel
theorem dX0_dropAhead_44 : decode cX0_dropAhead 44 = .ok (.aload_n 0, 1) := by decide +kernel
theorem dX0_dropAhead_45 : decode cX0_dropAhead 45 = .ok (.getfield 18, 3) := by decide +kernel
theorem dX0_dropAhead_48 : decode cX0_dropAhead 48 = .ok (.iload_n 1, 1) := by decide +kernel
theorem dX0_dropAhead_49 : decode cX0_dropAhead 49 = .ok (.aload_n 0, 1) := by decide +kernel
theorem dX0_dropAhead_50 : decode cX0_dropAhead 50 = .ok (.getfield 18, 3) := by decide +kernel
theorem dX0_dropAhead_53 : decode cX0_dropAhead 53 = .ok (.iconst 0, 1) := by decide +kernel
theorem dX0_dropAhead_54 : decode cX0_dropAhead 54 = .ok (.aload_n 0, 1) := by decide +kernel
theorem dX0_dropAhead_55 : decode cX0_dropAhead 55 = .ok (.getfield 24, 3) := by decide +kernel
theorem dX0_dropAhead_58 : decode cX0_dropAhead 58 = .ok (.invokestatic 70, 3) := by decide +kernel
theorem dX0_dropAhead_61 : decode cX0_dropAhead 61 = .ok (.return_, 1) := by decide +kernel
theorem dX0_roundsLeft_0 : decode cX0_roundsLeft 0 = .ok (.iconst 0, 1) := by decide +kernel
theorem dX0_roundsLeft_1 : decode cX0_roundsLeft 1 = .ok (.istore_n 2, 1) := by decide +kernel
theorem dX0_roundsLeft_2 : decode cX0_roundsLeft 2 = .ok (.iload_n 2, 1) := by decide +kernel
theorem dX0_roundsLeft_3 : decode cX0_roundsLeft 3 = .ok (.sipush 1000, 3) := by decide +kernel
theorem dX0_roundsLeft_6 : decode cX0_roundsLeft 6 = .ok (.if_icmp .ge 17, 3) := by decide +kernel
theorem dX0_roundsLeft_9 : decode cX0_roundsLeft 9 = .ok (.aload_n 0, 1) := by decide +kernel
theorem dX0_roundsLeft_10 : decode cX0_roundsLeft 10 = .ok (.iload_n 1, 1) := by decide +kernel
theorem dX0_roundsLeft_11 : decode cX0_roundsLeft 11 = .ok (.invokevirtual 104, 3) := by decide +kernel
theorem dX0_roundsLeft_14 : decode cX0_roundsLeft 14 = .ok (.ifCond .le 9, 3) := by decide +kernel
theorem dX0_roundsLeft_17 : decode cX0_roundsLeft 17 = .ok (.iinc 2 1, 3) := by decide +kernel
theorem dX0_roundsLeft_20 : decode cX0_roundsLeft 20 = .ok (.goto (-18), 3) := by decide +kernel
theorem dX0_roundsLeft_23 : decode cX0_roundsLeft 23 = .ok (.iload_n 2, 1) := by decide +kernel
theorem dX0_roundsLeft_24 : decode cX0_roundsLeft 24 = .ok (.ireturn, 1) := by decide +kernel
theorem dX0_tuplesOfBand_0 : decode cX0_tuplesOfBand 0 = .ok (.iconst 0, 1) := by decide +kernel
theorem dX0_tuplesOfBand_1 : decode cX0_tuplesOfBand 1 = .ok (.istore_n 3, 1) := by decide +kernel
theorem dX0_tuplesOfBand_2 : decode cX0_tuplesOfBand 2 = .ok (.iconst 0, 1) := by decide +kernel
theorem dX0_tuplesOfBand_3 : decode cX0_tuplesOfBand 3 = .ok (.istore 4, 2) := by decide +kernel
theorem dX0_tuplesOfBand_5 : decode cX0_tuplesOfBand 5 = .ok (.iload 4, 2) := by decide +kernel
theorem dX0_tuplesOfBand_7 : decode cX0_tuplesOfBand 7 = .ok (.aload_n 0, 1) := by decide +kernel
theorem dX0_tuplesOfBand_8 : decode cX0_tuplesOfBand 8 = .ok (.getfield 24, 3) := by decide +kernel
theorem dX0_tuplesOfBand_11 : decode cX0_tuplesOfBand 11 = .ok (.if_icmp .ge 27, 3) := by decide +kernel
theorem dX0_tuplesOfBand_14 : decode cX0_tuplesOfBand 14 = .ok (.aload_n 0, 1) := by decide +kernel
theorem dX0_tuplesOfBand_15 : decode cX0_tuplesOfBand 15 = .ok (.getfield 18, 3) := by decide +kernel
theorem dX0_tuplesOfBand_18 : decode cX0_tuplesOfBand 18 = .ok (.iload 4, 2) := by decide +kernel
theorem dX0_tuplesOfBand_20 : decode cX0_tuplesOfBand 20 = .ok (.iaload, 1) := by decide +kernel
theorem dX0_tuplesOfBand_21 : decode cX0_tuplesOfBand 21 = .ok (.iload_n 2, 1) := by decide +kernel
theorem dX0_tuplesOfBand_22 : decode cX0_tuplesOfBand 22 = .ok (.invokestatic 83, 3) := by decide +kernel
theorem dX0_tuplesOfBand_25 : decode cX0_tuplesOfBand 25 = .ok (.iload_n 1, 1) := by decide +kernel
theorem dX0_tuplesOfBand_26 : decode cX0_tuplesOfBand 26 = .ok (.if_icmp .ne 6, 3) := by decide +kernel
theorem dX0_tuplesOfBand_29 : decode cX0_tuplesOfBand 29 = .ok (.iinc 3 1, 3) := by decide +kernel
theorem dX0_tuplesOfBand_32 : decode cX0_tuplesOfBand 32 = .ok (.iinc 4 1, 3) := by decide +kernel
theorem dX0_tuplesOfBand_35 : decode cX0_tuplesOfBand 35 = .ok (.goto (-30), 3) := by decide +kernel
theorem dX0_tuplesOfBand_38 : decode cX0_tuplesOfBand 38 = .ok (.iload_n 3, 1) := by decide +kernel
theorem dX0_tuplesOfBand_39 : decode cX0_tuplesOfBand 39 = .ok (.ireturn, 1) := by decide +kernel
theorem dX0_offBy_0 : decode cX0_offBy 0 = .ok (.iload_n 2, 1) := by decide +kernel
theorem dX0_offBy_1 : decode cX0_offBy 1 = .ok (.aload_n 0, 1) := by decide +kernel
theorem dX0_offBy_2 : decode cX0_offBy 2 = .ok (.getfield 15, 3) := by decide +kernel
theorem dX0_offBy_5 : decode cX0_offBy 5 = .ok (.iload_n 1, 1) := by decide +kernel
theorem dX0_offBy_6 : decode cX0_offBy 6 = .ok (.iaload, 1) := by decide +kernel
theorem dX0_offBy_7 : decode cX0_offBy 7 = .ok (.isub, 1) := by decide +kernel
theorem dX0_offBy_8 : decode cX0_offBy 8 = .ok (.aload_n 0, 1) := by decide +kernel
theorem dX0_offBy_9 : decode cX0_offBy 9 = .ok (.iload_n 1, 1) := by decide +kernel
theorem dX0_offBy_10 : decode cX0_offBy 10 = .ok (.invokevirtual 44, 3) := by decide +kernel
theorem dX0_offBy_13 : decode cX0_offBy 13 = .ok (.iload_n 2, 1) := by decide +kernel
theorem dX0_offBy_14 : decode cX0_offBy 14 = .ok (.isub, 1) := by decide +kernel
theorem dX0_offBy_15 : decode cX0_offBy 15 = .ok (.invokestatic 35, 3) := by decide +kernel
theorem dX0_offBy_18 : decode cX0_offBy 18 = .ok (.ireturn, 1) := by decide +kernel
theorem dX0_nearest_0 : decode cX0_nearest 0 = .ok (.iload_n 2, 1) := by decide +kernel
theorem dX0_nearest_1 : decode cX0_nearest 1 = .ok (.istore_n 3, 1) := by decide +kernel
theorem dX0_nearest_2 : decode cX0_nearest 2 = .ok (.aload_n 0, 1) := by decide +kernel
theorem dX0_nearest_3 : decode cX0_nearest 3 = .ok (.iload_n 2, 1) := by decide +kernel
theorem dX0_nearest_4 : decode cX0_nearest 4 = .ok (.iload_n 1, 1) := by decide +kernel
theorem dX0_nearest_5 : decode cX0_nearest 5 = .ok (.invokevirtual 107, 3) := by decide +kernel
theorem dX0_nearest_8 : decode cX0_nearest 8 = .ok (.istore 4, 2) := by decide +kernel
theorem dX0_nearest_10 : decode cX0_nearest 10 = .ok (.iload_n 2, 1) := by decide +kernel
theorem dX0_nearest_11 : decode cX0_nearest 11 = .ok (.iconst 1, 1) := by decide +kernel
theorem dX0_nearest_12 : decode cX0_nearest 12 = .ok (.iadd, 1) := by decide +kernel
theorem dX0_nearest_13 : decode cX0_nearest 13 = .ok (.istore 5, 2) := by decide +kernel
theorem dX0_nearest_15 : decode cX0_nearest 15 = .ok (.iload 5, 2) := by decide +kernel
theorem dX0_nearest_17 : decode cX0_nearest 17 = .ok (.aload_n 0, 1) := by decide +kernel
theorem dX0_nearest_18 : decode cX0_nearest 18 = .ok (.getfield 24, 3) := by decide +kernel
theorem dX0_nearest_21 : decode cX0_nearest 21 = .ok (.if_icmp .ge 46, 3) := by decide +kernel
theorem dX0_nearest_24 : decode cX0_nearest 24 = .ok (.aload_n 0, 1) := by decide +kernel
theorem dX0_nearest_25 : decode cX0_nearest 25 = .ok (.getfield 15, 3) := by decide +kernel
theorem dX0_nearest_28 : decode cX0_nearest 28 = .ok (.iload 5, 2) := by decide +kernel
theorem dX0_nearest_30 : decode cX0_nearest 30 = .ok (.iaload, 1) := by decide +kernel
theorem dX0_nearest_31 : decode cX0_nearest 31 = .ok (.iload_n 1, 1) := by decide +kernel
theorem dX0_nearest_32 : decode cX0_nearest 32 = .ok (.isub, 1) := by decide +kernel
theorem dX0_nearest_33 : decode cX0_nearest 33 = .ok (.iload 4, 2) := by decide +kernel
theorem dX0_nearest_35 : decode cX0_nearest 35 = .ok (.if_icmp .ge 32, 3) := by decide +kernel
theorem dX0_nearest_38 : decode cX0_nearest 38 = .ok (.aload_n 0, 1) := by decide +kernel
theorem dX0_nearest_39 : decode cX0_nearest 39 = .ok (.iload 5, 2) := by decide +kernel
theorem dX0_nearest_41 : decode cX0_nearest 41 = .ok (.iload_n 1, 1) := by decide +kernel
theorem dX0_nearest_42 : decode cX0_nearest 42 = .ok (.invokevirtual 107, 3) := by decide +kernel
theorem dX0_nearest_45 : decode cX0_nearest 45 = .ok (.istore 6, 2) := by decide +kernel
theorem dX0_nearest_47 : decode cX0_nearest 47 = .ok (.iload 6, 2) := by decide +kernel
theorem dX0_nearest_49 : decode cX0_nearest 49 = .ok (.iload 4, 2) := by decide +kernel
theorem dX0_nearest_51 : decode cX0_nearest 51 = .ok (.if_icmp .ge 10, 3) := by decide +kernel
theorem dX0_nearest_54 : decode cX0_nearest 54 = .ok (.iload 6, 2) := by decide +kernel
theorem dX0_nearest_56 : decode cX0_nearest 56 = .ok (.istore 4, 2) := by decide +kernel
theorem dX0_nearest_58 : decode cX0_nearest 58 = .ok (.iload 5, 2) := by decide +kernel
theorem dX0_nearest_60 : decode cX0_nearest 60 = .ok (.istore_n 3, 1) := by decide +kernel
theorem dX0_nearest_61 : decode cX0_nearest 61 = .ok (.iinc 5 1, 3) := by decide +kernel
theorem dX0_nearest_64 : decode cX0_nearest 64 = .ok (.goto (-49), 3) := by decide +kernel
theorem dX0_nearest_67 : decode cX0_nearest 67 = .ok (.iload_n 3, 1) := by decide +kernel
theorem dX0_nearest_68 : decode cX0_nearest 68 = .ok (.ireturn, 1) := by decide +kernel
theorem dX0_greatestOff_0 : decode cX0_greatestOff 0 = .ok (.iconst 0, 1) := by decide +kernel
theorem dX0_greatestOff_1 : decode cX0_greatestOff 1 = .ok (.istore_n 1, 1) := by decide +kernel
theorem dX0_greatestOff_2 : decode cX0_greatestOff 2 = .ok (.iconst 0, 1) := by decide +kernel
theorem dX0_greatestOff_3 : decode cX0_greatestOff 3 = .ok (.istore_n 2, 1) := by decide +kernel
theorem dX0_greatestOff_4 : decode cX0_greatestOff 4 = .ok (.aload_n 0, 1) := by decide +kernel
theorem dX0_greatestOff_5 : decode cX0_greatestOff 5 = .ok (.invokevirtual 47, 3) := by decide +kernel
theorem dX0_greatestOff_8 : decode cX0_greatestOff 8 = .ok (.istore_n 3, 1) := by decide +kernel
theorem dX0_greatestOff_9 : decode cX0_greatestOff 9 = .ok (.iconst 1, 1) := by decide +kernel
theorem dX0_greatestOff_10 : decode cX0_greatestOff 10 = .ok (.istore 4, 2) := by decide +kernel
theorem dX0_greatestOff_12 : decode cX0_greatestOff 12 = .ok (.iload 4, 2) := by decide +kernel
theorem dX0_greatestOff_14 : decode cX0_greatestOff 14 = .ok (.iload_n 3, 1) := by decide +kernel
theorem dX0_greatestOff_15 : decode cX0_greatestOff 15 = .ok (.if_icmp .gt 29, 3) := by decide +kernel
theorem dX0_greatestOff_18 : decode cX0_greatestOff 18 = .ok (.aload_n 0, 1) := by decide +kernel
theorem dX0_greatestOff_19 : decode cX0_greatestOff 19 = .ok (.iload 4, 2) := by decide +kernel
theorem dX0_greatestOff_21 : decode cX0_greatestOff 21 = .ok (.iload_n 2, 1) := by decide +kernel
theorem dX0_greatestOff_22 : decode cX0_greatestOff 22 = .ok (.invokevirtual 110, 3) := by decide +kernel
theorem dX0_greatestOff_25 : decode cX0_greatestOff 25 = .ok (.istore_n 2, 1) := by decide +kernel
theorem dX0_greatestOff_26 : decode cX0_greatestOff 26 = .ok (.iload_n 1, 1) := by decide +kernel
theorem dX0_greatestOff_27 : decode cX0_greatestOff 27 = .ok (.aload_n 0, 1) := by decide +kernel
theorem dX0_greatestOff_28 : decode cX0_greatestOff 28 = .ok (.iload_n 2, 1) := by decide +kernel
theorem dX0_greatestOff_29 : decode cX0_greatestOff 29 = .ok (.iload 4, 2) := by decide +kernel
theorem dX0_greatestOff_31 : decode cX0_greatestOff 31 = .ok (.invokevirtual 107, 3) := by decide +kernel
theorem dX0_greatestOff_34 : decode cX0_greatestOff 34 = .ok (.invokestatic 35, 3) := by decide +kernel
theorem dX0_greatestOff_37 : decode cX0_greatestOff 37 = .ok (.istore_n 1, 1) := by decide +kernel
theorem dX0_greatestOff_38 : decode cX0_greatestOff 38 = .ok (.iinc 4 1, 3) := by decide +kernel
theorem dX0_greatestOff_41 : decode cX0_greatestOff 41 = .ok (.goto (-29), 3) := by decide +kernel
theorem dX0_greatestOff_44 : decode cX0_greatestOff 44 = .ok (.iload_n 1, 1) := by decide +kernel
theorem dX0_greatestOff_45 : decode cX0_greatestOff 45 = .ok (.ireturn, 1) := by decide +kernel
theorem dX0_exactPlaces_0 : decode cX0_exactPlaces 0 = .ok (.iconst 0, 1) := by decide +kernel
theorem dX0_exactPlaces_1 : decode cX0_exactPlaces 1 = .ok (.istore_n 1, 1) := by decide +kernel
theorem dX0_exactPlaces_2 : decode cX0_exactPlaces 2 = .ok (.iconst 0, 1) := by decide +kernel
theorem dX0_exactPlaces_3 : decode cX0_exactPlaces 3 = .ok (.istore_n 2, 1) := by decide +kernel
theorem dX0_exactPlaces_4 : decode cX0_exactPlaces 4 = .ok (.aload_n 0, 1) := by decide +kernel
theorem dX0_exactPlaces_5 : decode cX0_exactPlaces 5 = .ok (.invokevirtual 47, 3) := by decide +kernel
theorem dX0_exactPlaces_8 : decode cX0_exactPlaces 8 = .ok (.istore_n 3, 1) := by decide +kernel
theorem dX0_exactPlaces_9 : decode cX0_exactPlaces 9 = .ok (.iconst 1, 1) := by decide +kernel
theorem dX0_exactPlaces_10 : decode cX0_exactPlaces 10 = .ok (.istore 4, 2) := by decide +kernel
theorem dX0_exactPlaces_12 : decode cX0_exactPlaces 12 = .ok (.iload 4, 2) := by decide +kernel
theorem dX0_exactPlaces_14 : decode cX0_exactPlaces 14 = .ok (.iload_n 3, 1) := by decide +kernel
theorem dX0_exactPlaces_15 : decode cX0_exactPlaces 15 = .ok (.if_icmp .gt 30, 3) := by decide +kernel
theorem dX0_exactPlaces_18 : decode cX0_exactPlaces 18 = .ok (.aload_n 0, 1) := by decide +kernel
theorem dX0_exactPlaces_19 : decode cX0_exactPlaces 19 = .ok (.iload 4, 2) := by decide +kernel
theorem dX0_exactPlaces_21 : decode cX0_exactPlaces 21 = .ok (.iload_n 2, 1) := by decide +kernel
theorem dX0_exactPlaces_22 : decode cX0_exactPlaces 22 = .ok (.invokevirtual 110, 3) := by decide +kernel
theorem dX0_exactPlaces_25 : decode cX0_exactPlaces 25 = .ok (.istore_n 2, 1) := by decide +kernel
theorem dX0_exactPlaces_26 : decode cX0_exactPlaces 26 = .ok (.aload_n 0, 1) := by decide +kernel
theorem dX0_exactPlaces_27 : decode cX0_exactPlaces 27 = .ok (.iload_n 2, 1) := by decide +kernel
theorem dX0_exactPlaces_28 : decode cX0_exactPlaces 28 = .ok (.iload 4, 2) := by decide +kernel
theorem dX0_exactPlaces_30 : decode cX0_exactPlaces 30 = .ok (.invokevirtual 107, 3) := by decide +kernel
theorem dX0_exactPlaces_33 : decode cX0_exactPlaces 33 = .ok (.ifCond .ne 6, 3) := by decide +kernel
theorem dX0_exactPlaces_36 : decode cX0_exactPlaces 36 = .ok (.iinc 1 1, 3) := by decide +kernel
theorem dX0_exactPlaces_39 : decode cX0_exactPlaces 39 = .ok (.iinc 4 1, 3) := by decide +kernel
theorem dX0_exactPlaces_42 : decode cX0_exactPlaces 42 = .ok (.goto (-30), 3) := by decide +kernel
theorem dX0_exactPlaces_45 : decode cX0_exactPlaces 45 = .ok (.iload_n 1, 1) := by decide +kernel
theorem dX0_exactPlaces_46 : decode cX0_exactPlaces 46 = .ok (.ireturn, 1) := by decide +kernel
theorem dX0_floorAt_0 : decode cX0_floorAt 0 = .ok (.iload_n 2, 1) := by decide +kernel
theorem dX0_floorAt_1 : decode cX0_floorAt 1 = .ok (.istore_n 3, 1) := by decide +kernel
theorem dX0_floorAt_2 : decode cX0_floorAt 2 = .ok (.iload_n 2, 1) := by decide +kernel
theorem dX0_floorAt_3 : decode cX0_floorAt 3 = .ok (.istore 4, 2) := by decide +kernel
theorem dX0_floorAt_5 : decode cX0_floorAt 5 = .ok (.iload 4, 2) := by decide +kernel
theorem dX0_floorAt_7 : decode cX0_floorAt 7 = .ok (.aload_n 0, 1) := by decide +kernel
theorem dX0_floorAt_8 : decode cX0_floorAt 8 = .ok (.getfield 24, 3) := by decide +kernel
theorem dX0_floorAt_11 : decode cX0_floorAt 11 = .ok (.if_icmp .ge 33, 3) := by decide +kernel
theorem dX0_floorAt_14 : decode cX0_floorAt 14 = .ok (.aload_n 0, 1) := by decide +kernel
theorem dX0_floorAt_15 : decode cX0_floorAt 15 = .ok (.getfield 15, 3) := by decide +kernel
theorem dX0_floorAt_18 : decode cX0_floorAt 18 = .ok (.iload 4, 2) := by decide +kernel
theorem dX0_floorAt_20 : decode cX0_floorAt 20 = .ok (.iaload, 1) := by decide +kernel
theorem dX0_floorAt_21 : decode cX0_floorAt 21 = .ok (.iload_n 1, 1) := by decide +kernel
theorem dX0_floorAt_22 : decode cX0_floorAt 22 = .ok (.if_icmp .gt 22, 3) := by decide +kernel
theorem dX0_floorAt_25 : decode cX0_floorAt 25 = .ok (.aload_n 0, 1) := by decide +kernel
theorem dX0_floorAt_26 : decode cX0_floorAt 26 = .ok (.iload 4, 2) := by decide +kernel
theorem dX0_floorAt_28 : decode cX0_floorAt 28 = .ok (.invokevirtual 44, 3) := by decide +kernel
theorem dX0_floorAt_31 : decode cX0_floorAt 31 = .ok (.iload_n 1, 1) := by decide +kernel
theorem dX0_floorAt_32 : decode cX0_floorAt 32 = .ok (.if_icmp .gt 6, 3) := by decide +kernel
theorem dX0_floorAt_35 : decode cX0_floorAt 35 = .ok (.iload 4, 2) := by decide +kernel
theorem dX0_floorAt_37 : decode cX0_floorAt 37 = .ok (.istore_n 3, 1) := by decide +kernel
theorem dX0_floorAt_38 : decode cX0_floorAt 38 = .ok (.iinc 4 1, 3) := by decide +kernel
theorem dX0_floorAt_41 : decode cX0_floorAt 41 = .ok (.goto (-36), 3) := by decide +kernel
theorem dX0_floorAt_44 : decode cX0_floorAt 44 = .ok (.iload_n 3, 1) := by decide +kernel
theorem dX0_floorAt_45 : decode cX0_floorAt 45 = .ok (.ireturn, 1) := by decide +kernel
theorem dX0_ceilingAt_0 : decode cX0_ceilingAt 0 = .ok (.iload_n 2, 1) := by decide +kernel
theorem dX0_ceilingAt_1 : decode cX0_ceilingAt 1 = .ok (.istore_n 3, 1) := by decide +kernel
theorem dX0_ceilingAt_2 : decode cX0_ceilingAt 2 = .ok (.iload_n 3, 1) := by decide +kernel
theorem dX0_ceilingAt_3 : decode cX0_ceilingAt 3 = .ok (.aload_n 0, 1) := by decide +kernel
theorem dX0_ceilingAt_4 : decode cX0_ceilingAt 4 = .ok (.getfield 24, 3) := by decide +kernel
theorem dX0_ceilingAt_7 : decode cX0_ceilingAt 7 = .ok (.iconst 1, 1) := by decide +kernel
theorem dX0_ceilingAt_8 : decode cX0_ceilingAt 8 = .ok (.isub, 1) := by decide +kernel
theorem dX0_ceilingAt_9 : decode cX0_ceilingAt 9 = .ok (.if_icmp .ge 19, 3) := by decide +kernel
theorem dX0_ceilingAt_12 : decode cX0_ceilingAt 12 = .ok (.aload_n 0, 1) := by decide +kernel
theorem dX0_ceilingAt_13 : decode cX0_ceilingAt 13 = .ok (.getfield 15, 3) := by decide +kernel
theorem dX0_ceilingAt_16 : decode cX0_ceilingAt 16 = .ok (.iload_n 3, 1) := by decide +kernel
theorem dX0_ceilingAt_17 : decode cX0_ceilingAt 17 = .ok (.iaload, 1) := by decide +kernel
theorem dX0_ceilingAt_18 : decode cX0_ceilingAt 18 = .ok (.iload_n 1, 1) := by decide +kernel
theorem dX0_ceilingAt_19 : decode cX0_ceilingAt 19 = .ok (.if_icmp .ge 9, 3) := by decide +kernel
theorem dX0_ceilingAt_22 : decode cX0_ceilingAt 22 = .ok (.iinc 3 1, 3) := by decide +kernel
theorem dX0_ceilingAt_25 : decode cX0_ceilingAt 25 = .ok (.goto (-23), 3) := by decide +kernel
theorem dX0_ceilingAt_28 : decode cX0_ceilingAt 28 = .ok (.iload_n 3, 1) := by decide +kernel
theorem dX0_ceilingAt_29 : decode cX0_ceilingAt 29 = .ok (.ireturn, 1) := by decide +kernel
theorem dX0_doubts_0 : decode cX0_doubts 0 = .ok (.iconst 0, 1) := by decide +kernel
theorem dX0_doubts_1 : decode cX0_doubts 1 = .ok (.istore_n 2, 1) := by decide +kernel
theorem dX0_doubts_2 : decode cX0_doubts 2 = .ok (.iconst 0, 1) := by decide +kernel
theorem dX0_doubts_3 : decode cX0_doubts 3 = .ok (.istore_n 3, 1) := by decide +kernel
theorem dX0_doubts_4 : decode cX0_doubts 4 = .ok (.iconst 0, 1) := by decide +kernel
theorem dX0_doubts_5 : decode cX0_doubts 5 = .ok (.istore 4, 2) := by decide +kernel
theorem dX0_doubts_7 : decode cX0_doubts 7 = .ok (.iconst 0, 1) := by decide +kernel
theorem dX0_doubts_8 : decode cX0_doubts 8 = .ok (.istore 5, 2) := by decide +kernel
theorem dX0_doubts_10 : decode cX0_doubts 10 = .ok (.aload_n 0, 1) := by decide +kernel
theorem dX0_doubts_11 : decode cX0_doubts 11 = .ok (.invokevirtual 47, 3) := by decide +kernel
theorem dX0_doubts_14 : decode cX0_doubts 14 = .ok (.istore 6, 2) := by decide +kernel
theorem dX0_doubts_16 : decode cX0_doubts 16 = .ok (.iconst 1, 1) := by decide +kernel
theorem dX0_doubts_17 : decode cX0_doubts 17 = .ok (.istore 7, 2) := by decide +kernel
theorem dX0_doubts_19 : decode cX0_doubts 19 = .ok (.iload 7, 2) := by decide +kernel
theorem dX0_doubts_21 : decode cX0_doubts 21 = .ok (.iload 6, 2) := by decide +kernel
theorem dX0_doubts_23 : decode cX0_doubts 23 = .ok (.if_icmp .gt 66, 3) := by decide +kernel
theorem dX0_doubts_26 : decode cX0_doubts 26 = .ok (.aload_n 0, 1) := by decide +kernel
theorem dX0_doubts_27 : decode cX0_doubts 27 = .ok (.iload 7, 2) := by decide +kernel
theorem dX0_doubts_29 : decode cX0_doubts 29 = .ok (.iload 4, 2) := by decide +kernel
theorem dX0_doubts_31 : decode cX0_doubts 31 = .ok (.invokevirtual 113, 3) := by decide +kernel
theorem dX0_doubts_34 : decode cX0_doubts 34 = .ok (.istore 4, 2) := by decide +kernel
theorem dX0_doubts_36 : decode cX0_doubts 36 = .ok (.aload_n 0, 1) := by decide +kernel
theorem dX0_doubts_37 : decode cX0_doubts 37 = .ok (.iload 7, 2) := by decide +kernel
theorem dX0_doubts_39 : decode cX0_doubts 39 = .ok (.iload 5, 2) := by decide +kernel
theorem dX0_doubts_41 : decode cX0_doubts 41 = .ok (.invokevirtual 116, 3) := by decide +kernel
theorem dX0_doubts_44 : decode cX0_doubts 44 = .ok (.istore 5, 2) := by decide +kernel
theorem dX0_doubts_46 : decode cX0_doubts 46 = .ok (.aload_n 0, 1) := by decide +kernel
theorem dX0_doubts_47 : decode cX0_doubts 47 = .ok (.getfield 9, 3) := by decide +kernel
theorem dX0_doubts_50 : decode cX0_doubts 50 = .ok (.iload 5, 2) := by decide +kernel
theorem dX0_doubts_52 : decode cX0_doubts 52 = .ok (.iaload, 1) := by decide +kernel
theorem dX0_doubts_53 : decode cX0_doubts 53 = .ok (.aload_n 0, 1) := by decide +kernel
theorem dX0_doubts_54 : decode cX0_doubts 54 = .ok (.getfield 9, 3) := by decide +kernel
theorem dX0_doubts_57 : decode cX0_doubts 57 = .ok (.iload 4, 2) := by decide +kernel
theorem dX0_doubts_59 : decode cX0_doubts 59 = .ok (.iaload, 1) := by decide +kernel
theorem dX0_doubts_60 : decode cX0_doubts 60 = .ok (.isub, 1) := by decide +kernel
theorem dX0_doubts_61 : decode cX0_doubts 61 = .ok (.istore 8, 2) := by decide +kernel
theorem dX0_doubts_63 : decode cX0_doubts 63 = .ok (.iload_n 3, 1) := by decide +kernel
theorem dX0_doubts_64 : decode cX0_doubts 64 = .ok (.iload 8, 2) := by decide +kernel
theorem dX0_doubts_66 : decode cX0_doubts 66 = .ok (.invokestatic 35, 3) := by decide +kernel
theorem dX0_doubts_69 : decode cX0_doubts 69 = .ok (.istore_n 3, 1) := by decide +kernel
theorem dX0_doubts_70 : decode cX0_doubts 70 = .ok (.iload_n 2, 1) := by decide +kernel
theorem dX0_doubts_71 : decode cX0_doubts 71 = .ok (.iload 8, 2) := by decide +kernel
theorem dX0_doubts_73 : decode cX0_doubts 73 = .ok (.ifCond .eq 7, 3) := by decide +kernel
theorem dX0_doubts_76 : decode cX0_doubts 76 = .ok (.iconst 1, 1) := by decide +kernel
theorem dX0_doubts_77 : decode cX0_doubts 77 = .ok (.goto 4, 3) := by decide +kernel
theorem dX0_doubts_80 : decode cX0_doubts 80 = .ok (.iconst 0, 1) := by decide +kernel
theorem dX0_doubts_81 : decode cX0_doubts 81 = .ok (.iadd, 1) := by decide +kernel
theorem dX0_doubts_82 : decode cX0_doubts 82 = .ok (.istore_n 2, 1) := by decide +kernel
theorem dX0_doubts_83 : decode cX0_doubts 83 = .ok (.iinc 7 1, 3) := by decide +kernel
theorem dX0_doubts_86 : decode cX0_doubts 86 = .ok (.goto (-67), 3) := by decide +kernel
theorem dX0_doubts_89 : decode cX0_doubts 89 = .ok (.iload_n 1, 1) := by decide +kernel
theorem dX0_doubts_90 : decode cX0_doubts 90 = .ok (.ifCond .eq 7, 3) := by decide +kernel
theorem dX0_doubts_93 : decode cX0_doubts 93 = .ok (.iload_n 3, 1) := by decide +kernel
theorem dX0_doubts_94 : decode cX0_doubts 94 = .ok (.goto 4, 3) := by decide +kernel
theorem dX0_doubts_97 : decode cX0_doubts 97 = .ok (.iload_n 2, 1) := by decide +kernel
theorem dX0_doubts_98 : decode cX0_doubts 98 = .ok (.ireturn, 1) := by decide +kernel
theorem dX0_sumOfPlaces_0 : decode cX0_sumOfPlaces 0 = .ok (.iconst 0, 1) := by decide +kernel
theorem dX0_sumOfPlaces_1 : decode cX0_sumOfPlaces 1 = .ok (.istore_n 2, 1) := by decide +kernel
theorem dX0_sumOfPlaces_2 : decode cX0_sumOfPlaces 2 = .ok (.iconst 0, 1) := by decide +kernel
theorem dX0_sumOfPlaces_3 : decode cX0_sumOfPlaces 3 = .ok (.istore_n 3, 1) := by decide +kernel
theorem dX0_sumOfPlaces_4 : decode cX0_sumOfPlaces 4 = .ok (.aload_n 0, 1) := by decide +kernel
theorem dX0_sumOfPlaces_5 : decode cX0_sumOfPlaces 5 = .ok (.invokevirtual 47, 3) := by decide +kernel
theorem dX0_sumOfPlaces_8 : decode cX0_sumOfPlaces 8 = .ok (.istore 4, 2) := by decide +kernel
theorem dX0_sumOfPlaces_10 : decode cX0_sumOfPlaces 10 = .ok (.iconst 1, 1) := by decide +kernel
theorem dX0_sumOfPlaces_11 : decode cX0_sumOfPlaces 11 = .ok (.istore 5, 2) := by decide +kernel
theorem dX0_sumOfPlaces_13 : decode cX0_sumOfPlaces 13 = .ok (.iload 5, 2) := by decide +kernel
theorem dX0_sumOfPlaces_15 : decode cX0_sumOfPlaces 15 = .ok (.iload 4, 2) := by decide +kernel
theorem dX0_sumOfPlaces_17 : decode cX0_sumOfPlaces 17 = .ok (.if_icmp .gt 40, 3) := by decide +kernel
theorem dX0_sumOfPlaces_20 : decode cX0_sumOfPlaces 20 = .ok (.iload_n 1, 1) := by decide +kernel
theorem dX0_sumOfPlaces_21 : decode cX0_sumOfPlaces 21 = .ok (.ifCond .eq 13, 3) := by decide +kernel
theorem dX0_sumOfPlaces_24 : decode cX0_sumOfPlaces 24 = .ok (.aload_n 0, 1) := by decide +kernel
theorem dX0_sumOfPlaces_25 : decode cX0_sumOfPlaces 25 = .ok (.iload 5, 2) := by decide +kernel
theorem dX0_sumOfPlaces_27 : decode cX0_sumOfPlaces 27 = .ok (.iload_n 3, 1) := by decide +kernel
theorem dX0_sumOfPlaces_28 : decode cX0_sumOfPlaces 28 = .ok (.invokevirtual 116, 3) := by decide +kernel
theorem dX0_sumOfPlaces_31 : decode cX0_sumOfPlaces 31 = .ok (.goto 10, 3) := by decide +kernel
theorem dX0_sumOfPlaces_34 : decode cX0_sumOfPlaces 34 = .ok (.aload_n 0, 1) := by decide +kernel
theorem dX0_sumOfPlaces_35 : decode cX0_sumOfPlaces 35 = .ok (.iload 5, 2) := by decide +kernel
theorem dX0_sumOfPlaces_37 : decode cX0_sumOfPlaces 37 = .ok (.iload_n 3, 1) := by decide +kernel
theorem dX0_sumOfPlaces_38 : decode cX0_sumOfPlaces 38 = .ok (.invokevirtual 113, 3) := by decide +kernel
theorem dX0_sumOfPlaces_41 : decode cX0_sumOfPlaces 41 = .ok (.istore_n 3, 1) := by decide +kernel
theorem dX0_sumOfPlaces_42 : decode cX0_sumOfPlaces 42 = .ok (.iload_n 2, 1) := by decide +kernel
theorem dX0_sumOfPlaces_43 : decode cX0_sumOfPlaces 43 = .ok (.aload_n 0, 1) := by decide +kernel
theorem dX0_sumOfPlaces_44 : decode cX0_sumOfPlaces 44 = .ok (.getfield 9, 3) := by decide +kernel
theorem dX0_sumOfPlaces_47 : decode cX0_sumOfPlaces 47 = .ok (.iload_n 3, 1) := by decide +kernel
theorem dX0_sumOfPlaces_48 : decode cX0_sumOfPlaces 48 = .ok (.iaload, 1) := by decide +kernel
theorem dX0_sumOfPlaces_49 : decode cX0_sumOfPlaces 49 = .ok (.iadd, 1) := by decide +kernel
theorem dX0_sumOfPlaces_50 : decode cX0_sumOfPlaces 50 = .ok (.istore_n 2, 1) := by decide +kernel
theorem dX0_sumOfPlaces_51 : decode cX0_sumOfPlaces 51 = .ok (.iinc 5 1, 3) := by decide +kernel
theorem dX0_sumOfPlaces_54 : decode cX0_sumOfPlaces 54 = .ok (.goto (-41), 3) := by decide +kernel
theorem dX0_sumOfPlaces_57 : decode cX0_sumOfPlaces 57 = .ok (.iload_n 2, 1) := by decide +kernel
theorem dX0_sumOfPlaces_58 : decode cX0_sumOfPlaces 58 = .ok (.ireturn, 1) := by decide +kernel
theorem dX0_heavyValue_0 : decode cX0_heavyValue 0 = .ok (.aload_n 0, 1) := by decide +kernel
theorem dX0_heavyValue_1 : decode cX0_heavyValue 1 = .ok (.invokevirtual 47, 3) := by decide +kernel
theorem dX0_heavyValue_4 : decode cX0_heavyValue 4 = .ok (.istore_n 3, 1) := by decide +kernel
theorem dX0_heavyValue_5 : decode cX0_heavyValue 5 = .ok (.iload_n 2, 1) := by decide +kernel
theorem dX0_heavyValue_6 : decode cX0_heavyValue 6 = .ok (.istore 4, 2) := by decide +kernel
theorem dX0_heavyValue_8 : decode cX0_heavyValue 8 = .ok (.iconst 0, 1) := by decide +kernel
theorem dX0_heavyValue_9 : decode cX0_heavyValue 9 = .ok (.istore 5, 2) := by decide +kernel
theorem dX0_heavyValue_11 : decode cX0_heavyValue 11 = .ok (.iload 5, 2) := by decide +kernel
theorem dX0_heavyValue_13 : decode cX0_heavyValue 13 = .ok (.aload_n 0, 1) := by decide +kernel
theorem dX0_heavyValue_14 : decode cX0_heavyValue 14 = .ok (.getfield 24, 3) := by decide +kernel
theorem dX0_heavyValue_17 : decode cX0_heavyValue 17 = .ok (.if_icmp .ge 88, 3) := by decide +kernel
theorem dX0_heavyValue_20 : decode cX0_heavyValue 20 = .ok (.iload 5, 2) := by decide +kernel
theorem dX0_heavyValue_22 : decode cX0_heavyValue 22 = .ok (.ifCond .le 26, 3) := by decide +kernel
theorem dX0_heavyValue_25 : decode cX0_heavyValue 25 = .ok (.aload_n 0, 1) := by decide +kernel
theorem dX0_heavyValue_26 : decode cX0_heavyValue 26 = .ok (.getfield 9, 3) := by decide +kernel
theorem dX0_heavyValue_29 : decode cX0_heavyValue 29 = .ok (.iload 5, 2) := by decide +kernel
theorem dX0_heavyValue_31 : decode cX0_heavyValue 31 = .ok (.iaload, 1) := by decide +kernel
theorem dX0_heavyValue_32 : decode cX0_heavyValue 32 = .ok (.aload_n 0, 1) := by decide +kernel
theorem dX0_heavyValue_33 : decode cX0_heavyValue 33 = .ok (.getfield 9, 3) := by decide +kernel
theorem dX0_heavyValue_36 : decode cX0_heavyValue 36 = .ok (.iload 5, 2) := by decide +kernel
theorem dX0_heavyValue_38 : decode cX0_heavyValue 38 = .ok (.iconst 1, 1) := by decide +kernel
theorem dX0_heavyValue_39 : decode cX0_heavyValue 39 = .ok (.isub, 1) := by decide +kernel
theorem dX0_heavyValue_40 : decode cX0_heavyValue 40 = .ok (.iaload, 1) := by decide +kernel
theorem dX0_heavyValue_41 : decode cX0_heavyValue 41 = .ok (.if_icmp .ne 7, 3) := by decide +kernel
theorem dX0_heavyValue_44 : decode cX0_heavyValue 44 = .ok (.iconst 1, 1) := by decide +kernel
theorem dX0_heavyValue_45 : decode cX0_heavyValue 45 = .ok (.goto 4, 3) := by decide +kernel
theorem dX0_heavyValue_48 : decode cX0_heavyValue 48 = .ok (.iconst 0, 1) := by decide +kernel
theorem dX0_heavyValue_49 : decode cX0_heavyValue 49 = .ok (.istore 6, 2) := by decide +kernel
theorem dX0_heavyValue_51 : decode cX0_heavyValue 51 = .ok (.iload 6, 2) := by decide +kernel
theorem dX0_heavyValue_53 : decode cX0_heavyValue 53 = .ok (.ifCond .ne 46, 3) := by decide +kernel
theorem dX0_heavyValue_56 : decode cX0_heavyValue 56 = .ok (.aload_n 0, 1) := by decide +kernel
theorem dX0_heavyValue_57 : decode cX0_heavyValue 57 = .ok (.aload_n 0, 1) := by decide +kernel
theorem dX0_heavyValue_58 : decode cX0_heavyValue 58 = .ok (.getfield 9, 3) := by decide +kernel
theorem dX0_heavyValue_61 : decode cX0_heavyValue 61 = .ok (.iload 5, 2) := by decide +kernel
theorem dX0_heavyValue_63 : decode cX0_heavyValue 63 = .ok (.iaload, 1) := by decide +kernel
theorem dX0_heavyValue_64 : decode cX0_heavyValue 64 = .ok (.iconst 1, 1) := by decide +kernel
theorem dX0_heavyValue_65 : decode cX0_heavyValue 65 = .ok (.isub, 1) := by decide +kernel
theorem dX0_heavyValue_66 : decode cX0_heavyValue 66 = .ok (.aload_n 0, 1) := by decide +kernel
theorem dX0_heavyValue_67 : decode cX0_heavyValue 67 = .ok (.getfield 9, 3) := by decide +kernel
theorem dX0_heavyValue_70 : decode cX0_heavyValue 70 = .ok (.iload 5, 2) := by decide +kernel
theorem dX0_heavyValue_72 : decode cX0_heavyValue 72 = .ok (.iaload, 1) := by decide +kernel
theorem dX0_heavyValue_73 : decode cX0_heavyValue 73 = .ok (.iconst 0, 1) := by decide +kernel
theorem dX0_heavyValue_74 : decode cX0_heavyValue 74 = .ok (.invokevirtual 119, 3) := by decide +kernel
theorem dX0_heavyValue_77 : decode cX0_heavyValue 77 = .ok (.iload_n 1, 1) := by decide +kernel
theorem dX0_heavyValue_78 : decode cX0_heavyValue 78 = .ok (.imul, 1) := by decide +kernel
theorem dX0_heavyValue_79 : decode cX0_heavyValue 79 = .ok (.iload_n 3, 1) := by decide +kernel
theorem dX0_heavyValue_80 : decode cX0_heavyValue 80 = .ok (.if_icmp .lt 19, 3) := by decide +kernel
theorem dX0_heavyValue_83 : decode cX0_heavyValue 83 = .ok (.iload 4, 2) := by decide +kernel
theorem dX0_heavyValue_85 : decode cX0_heavyValue 85 = .ok (.ifCond .ne 11, 3) := by decide +kernel
theorem dX0_heavyValue_88 : decode cX0_heavyValue 88 = .ok (.aload_n 0, 1) := by decide +kernel
theorem dX0_heavyValue_89 : decode cX0_heavyValue 89 = .ok (.getfield 9, 3) := by decide +kernel
theorem dX0_heavyValue_92 : decode cX0_heavyValue 92 = .ok (.iload 5, 2) := by decide +kernel
theorem dX0_heavyValue_94 : decode cX0_heavyValue 94 = .ok (.iaload, 1) := by decide +kernel
theorem dX0_heavyValue_95 : decode cX0_heavyValue 95 = .ok (.ireturn, 1) := by decide +kernel
theorem dX0_heavyValue_96 : decode cX0_heavyValue 96 = .ok (.iinc 4 (-1), 3) := by decide +kernel
theorem dX0_heavyValue_99 : decode cX0_heavyValue 99 = .ok (.iinc 5 1, 3) := by decide +kernel
theorem dX0_heavyValue_102 : decode cX0_heavyValue 102 = .ok (.goto (-91), 3) := by decide +kernel
theorem dX0_heavyValue_105 : decode cX0_heavyValue 105 = .ok (.bipush (-2), 2) := by decide +kernel
theorem dX0_heavyValue_107 : decode cX0_heavyValue 107 = .ok (.ireturn, 1) := by decide +kernel
theorem dX1_init_0 : decode cX1_init 0 = .ok (.aload_n 0, 1) := by decide +kernel
theorem dX1_init_1 : decode cX1_init 1 = .ok (.invokespecial 3, 3) := by decide +kernel
theorem dX1_init_4 : decode cX1_init 4 = .ok (.aload_n 0, 1) := by decide +kernel
theorem dX1_init_5 : decode cX1_init 5 = .ok (.new 9, 3) := by decide +kernel
theorem dX1_init_8 : decode cX1_init 8 = .ok (.dup, 1) := by decide +kernel
theorem dX1_init_9 : decode cX1_init 9 = .ok (.invokespecial 11, 3) := by decide +kernel
theorem dX1_init_12 : decode cX1_init 12 = .ok (.putfield 12, 3) := by decide +kernel
theorem dX1_init_15 : decode cX1_init 15 = .ok (.aload_n 0, 1) := by decide +kernel
theorem dX1_init_16 : decode cX1_init 16 = .ok (.sipush 1000, 3) := by decide +kernel
theorem dX1_init_19 : decode cX1_init 19 = .ok (.newarray .int, 2) := by decide +kernel
theorem dX1_init_21 : decode cX1_init 21 = .ok (.putfield 18, 3) := by decide +kernel
theorem dX1_init_24 : decode cX1_init 24 = .ok (.aload_n 0, 1) := by decide +kernel
theorem dX1_init_25 : decode cX1_init 25 = .ok (.iconst 0, 1) := by decide +kernel
theorem dX1_init_26 : decode cX1_init 26 = .ok (.putfield 22, 3) := by decide +kernel
theorem dX1_init_29 : decode cX1_init 29 = .ok (.aload_n 0, 1) := by decide +kernel
theorem dX1_init_30 : decode cX1_init 30 = .ok (.iconst 1, 1) := by decide +kernel
theorem dX1_init_31 : decode cX1_init 31 = .ok (.putfield 26, 3) := by decide +kernel
theorem dX1_init_34 : decode cX1_init 34 = .ok (.aload_n 0, 1) := by decide +kernel
theorem dX1_init_35 : decode cX1_init 35 = .ok (.iconst 0, 1) := by decide +kernel
theorem dX1_init_36 : decode cX1_init 36 = .ok (.putfield 29, 3) := by decide +kernel
theorem dX1_init_39 : decode cX1_init 39 = .ok (.aload_n 0, 1) := by decide +kernel
theorem dX1_init_40 : decode cX1_init 40 = .ok (.iconst 0, 1) := by decide +kernel
theorem dX1_init_41 : decode cX1_init 41 = .ok (.putfield 32, 3) := by decide +kernel
theorem dX1_init_44 : decode cX1_init 44 = .ok (.return_, 1) := by decide +kernel
theorem dX1_begin_0 : decode cX1_begin 0 = .ok (.aload_n 0, 1) := by decide +kernel
theorem dX1_begin_1 : decode cX1_begin 1 = .ok (.invokevirtual 35, 3) := by decide +kernel
theorem dX1_begin_4 : decode cX1_begin 4 = .ok (.aload_n 0, 1) := by decide +kernel
theorem dX1_begin_5 : decode cX1_begin 5 = .ok (.iload_n 1, 1) := by decide +kernel
theorem dX1_begin_6 : decode cX1_begin 6 = .ok (.putfield 26, 3) := by decide +kernel
theorem dX1_begin_9 : decode cX1_begin 9 = .ok (.aload_n 0, 1) := by decide +kernel
theorem dX1_begin_10 : decode cX1_begin 10 = .ok (.iconst 0, 1) := by decide +kernel
theorem dX1_begin_11 : decode cX1_begin 11 = .ok (.putfield 32, 3) := by decide +kernel
theorem dX1_begin_14 : decode cX1_begin 14 = .ok (.return_, 1) := by decide +kernel
theorem dX1_dropValues_0 : decode cX1_dropValues 0 = .ok (.aload_n 0, 1) := by decide +kernel
theorem dX1_dropValues_1 : decode cX1_dropValues 1 = .ok (.getfield 18, 3) := by decide +kernel
theorem dX1_dropValues_4 : decode cX1_dropValues 4 = .ok (.iconst 0, 1) := by decide +kernel
theorem dX1_dropValues_5 : decode cX1_dropValues 5 = .ok (.invokestatic 38, 3) := by decide +kernel
theorem dX1_dropValues_8 : decode cX1_dropValues 8 = .ok (.aload_n 0, 1) := by decide +kernel
theorem dX1_dropValues_9 : decode cX1_dropValues 9 = .ok (.getfield 12, 3) := by decide +kernel
theorem dX1_dropValues_12 : decode cX1_dropValues 12 = .ok (.iconst 0, 1) := by decide +kernel
theorem dX1_dropValues_13 : decode cX1_dropValues 13 = .ok (.putfield 44, 3) := by decide +kernel
theorem dX1_dropValues_16 : decode cX1_dropValues 16 = .ok (.aload_n 0, 1) := by decide +kernel
theorem dX1_dropValues_17 : decode cX1_dropValues 17 = .ok (.iconst 0, 1) := by decide +kernel
theorem dX1_dropValues_18 : decode cX1_dropValues 18 = .ok (.putfield 22, 3) := by decide +kernel
theorem dX1_dropValues_21 : decode cX1_dropValues 21 = .ok (.aload_n 0, 1) := by decide +kernel
theorem dX1_dropValues_22 : decode cX1_dropValues 22 = .ok (.iconst 0, 1) := by decide +kernel
theorem dX1_dropValues_23 : decode cX1_dropValues 23 = .ok (.putfield 29, 3) := by decide +kernel
theorem dX1_dropValues_26 : decode cX1_dropValues 26 = .ok (.return_, 1) := by decide +kernel
theorem dX1_pushValue_0 : decode cX1_pushValue 0 = .ok (.aload_n 0, 1) := by decide +kernel
theorem dX1_pushValue_1 : decode cX1_pushValue 1 = .ok (.getfield 22, 3) := by decide +kernel
theorem dX1_pushValue_4 : decode cX1_pushValue 4 = .ok (.sipush 1000, 3) := by decide +kernel
theorem dX1_pushValue_7 : decode cX1_pushValue 7 = .ok (.if_icmp .ge 10, 3) := by decide +kernel
theorem dX1_pushValue_10 : decode cX1_pushValue 10 = .ok (.iload_n 1, 1) := by decide +kernel
theorem dX1_pushValue_11 : decode cX1_pushValue 11 = .ok (.invokestatic 47, 3) := by decide +kernel
theorem dX1_pushValue_14 : decode cX1_pushValue 14 = .ok (.ifCond .ne 4, 3) := by decide +kernel
theorem dX1_pushValue_17 : decode cX1_pushValue 17 = .ok (.return_, 1) := by decide +kernel
theorem dX1_pushValue_18 : decode cX1_pushValue 18 = .ok (.aload_n 0, 1) := by decide +kernel
theorem dX1_pushValue_19 : decode cX1_pushValue 19 = .ok (.getfield 12, 3) := by decide +kernel
theorem dX1_pushValue_22 : decode cX1_pushValue 22 = .ok (.iload_n 1, 1) := by decide +kernel
theorem dX1_pushValue_23 : decode cX1_pushValue 23 = .ok (.invokevirtual 51, 3) := by decide +kernel
theorem dX1_pushValue_26 : decode cX1_pushValue 26 = .ok (.aload_n 0, 1) := by decide +kernel
theorem dX1_pushValue_27 : decode cX1_pushValue 27 = .ok (.getfield 18, 3) := by decide +kernel
theorem dX1_pushValue_30 : decode cX1_pushValue 30 = .ok (.iload_n 1, 1) := by decide +kernel
theorem dX1_pushValue_31 : decode cX1_pushValue 31 = .ok (.dup2, 1) := by decide +kernel
theorem dX1_pushValue_32 : decode cX1_pushValue 32 = .ok (.iaload, 1) := by decide +kernel
theorem dX1_pushValue_33 : decode cX1_pushValue 33 = .ok (.iconst 1, 1) := by decide +kernel
theorem dX1_pushValue_34 : decode cX1_pushValue 34 = .ok (.iadd, 1) := by decide +kernel
theorem dX1_pushValue_35 : decode cX1_pushValue 35 = .ok (.iastore, 1) := by decide +kernel
theorem dX1_pushValue_36 : decode cX1_pushValue 36 = .ok (.aload_n 0, 1) := by decide +kernel
theorem dX1_pushValue_37 : decode cX1_pushValue 37 = .ok (.dup, 1) := by decide +kernel
theorem dX1_pushValue_38 : decode cX1_pushValue 38 = .ok (.getfield 22, 3) := by decide +kernel
theorem dX1_pushValue_41 : decode cX1_pushValue 41 = .ok (.iconst 1, 1) := by decide +kernel
theorem dX1_pushValue_42 : decode cX1_pushValue 42 = .ok (.iadd, 1) := by decide +kernel
theorem dX1_pushValue_43 : decode cX1_pushValue 43 = .ok (.putfield 22, 3) := by decide +kernel
theorem dX1_pushValue_46 : decode cX1_pushValue 46 = .ok (.aload_n 0, 1) := by decide +kernel
theorem dX1_pushValue_47 : decode cX1_pushValue 47 = .ok (.dup, 1) := by decide +kernel
theorem dX1_pushValue_48 : decode cX1_pushValue 48 = .ok (.getfield 29, 3) := by decide +kernel
theorem dX1_pushValue_51 : decode cX1_pushValue 51 = .ok (.iconst 1, 1) := by decide +kernel
theorem dX1_pushValue_52 : decode cX1_pushValue 52 = .ok (.iadd, 1) := by decide +kernel
theorem dX1_pushValue_53 : decode cX1_pushValue 53 = .ok (.putfield 29, 3) := by decide +kernel
theorem dX1_pushValue_56 : decode cX1_pushValue 56 = .ok (.aload_n 0, 1) := by decide +kernel
theorem dX1_pushValue_57 : decode cX1_pushValue 57 = .ok (.invokevirtual 55, 3) := by decide +kernel
theorem dX1_pushValue_60 : decode cX1_pushValue 60 = .ok (.ifCond .eq 9, 3) := by decide +kernel
theorem dX1_pushValue_63 : decode cX1_pushValue 63 = .ok (.aload_n 0, 1) := by decide +kernel
theorem dX1_pushValue_64 : decode cX1_pushValue 64 = .ok (.iload_n 2, 1) := by decide +kernel
theorem dX1_pushValue_65 : decode cX1_pushValue 65 = .ok (.invokevirtual 59, 3) := by decide +kernel
theorem dX1_pushValue_68 : decode cX1_pushValue 68 = .ok (.pop, 1) := by decide +kernel
theorem dX1_pushValue_69 : decode cX1_pushValue 69 = .ok (.return_, 1) := by decide +kernel
theorem dX1_isDue_0 : decode cX1_isDue 0 = .ok (.aload_n 0, 1) := by decide +kernel
theorem dX1_isDue_1 : decode cX1_isDue 1 = .ok (.getfield 29, 3) := by decide +kernel
theorem dX1_isDue_4 : decode cX1_isDue 4 = .ok (.aload_n 0, 1) := by decide +kernel
theorem dX1_isDue_5 : decode cX1_isDue 5 = .ok (.getfield 26, 3) := by decide +kernel
theorem dX1_isDue_8 : decode cX1_isDue 8 = .ok (.if_icmp .lt 7, 3) := by decide +kernel
theorem dX1_isDue_11 : decode cX1_isDue 11 = .ok (.iconst 1, 1) := by decide +kernel
theorem dX1_isDue_12 : decode cX1_isDue 12 = .ok (.goto 4, 3) := by decide +kernel
theorem dX1_isDue_15 : decode cX1_isDue 15 = .ok (.iconst 0, 1) := by decide +kernel
theorem dX1_isDue_16 : decode cX1_isDue 16 = .ok (.ireturn, 1) := by decide +kernel
theorem dX1_shortenRow_0 : decode cX1_shortenRow 0 = .ok (.aload_n 0, 1) := by decide +kernel
theorem dX1_shortenRow_1 : decode cX1_shortenRow 1 = .ok (.iconst 0, 1) := by decide +kernel
theorem dX1_shortenRow_2 : decode cX1_shortenRow 2 = .ok (.putfield 29, 3) := by decide +kernel
theorem dX1_shortenRow_5 : decode cX1_shortenRow 5 = .ok (.aload_n 0, 1) := by decide +kernel
theorem dX1_shortenRow_6 : decode cX1_shortenRow 6 = .ok (.dup, 1) := by decide +kernel
theorem dX1_shortenRow_7 : decode cX1_shortenRow 7 = .ok (.getfield 32, 3) := by decide +kernel
theorem dX1_shortenRow_10 : decode cX1_shortenRow 10 = .ok (.iconst 1, 1) := by decide +kernel
theorem dX1_shortenRow_11 : decode cX1_shortenRow 11 = .ok (.iadd, 1) := by decide +kernel
theorem dX1_shortenRow_12 : decode cX1_shortenRow 12 = .ok (.putfield 32, 3) := by decide +kernel
theorem dX1_shortenRow_15 : decode cX1_shortenRow 15 = .ok (.aload_n 0, 1) := by decide +kernel
theorem dX1_shortenRow_16 : decode cX1_shortenRow 16 = .ok (.getfield 12, 3) := by decide +kernel
theorem dX1_shortenRow_19 : decode cX1_shortenRow 19 = .ok (.aload_n 0, 1) := by decide +kernel
theorem dX1_shortenRow_20 : decode cX1_shortenRow 20 = .ok (.getfield 22, 3) := by decide +kernel
theorem dX1_shortenRow_23 : decode cX1_shortenRow 23 = .ok (.iload_n 1, 1) := by decide +kernel
theorem dX1_shortenRow_24 : decode cX1_shortenRow 24 = .ok (.invokestatic 63, 3) := by decide +kernel
theorem dX1_shortenRow_27 : decode cX1_shortenRow 27 = .ok (.invokevirtual 67, 3) := by decide +kernel
theorem dX1_shortenRow_30 : decode cX1_shortenRow 30 = .ok (.ireturn, 1) := by decide +kernel
theorem dX1_addCounts_0 : decode cX1_addCounts 0 = .ok (.iconst 0, 1) := by decide +kernel
theorem dX1_addCounts_1 : decode cX1_addCounts 1 = .ok (.istore_n 2, 1) := by decide +kernel
theorem dX1_addCounts_2 : decode cX1_addCounts 2 = .ok (.iload_n 2, 1) := by decide +kernel
theorem dX1_addCounts_3 : decode cX1_addCounts 3 = .ok (.sipush 1000, 3) := by decide +kernel
theorem dX1_addCounts_6 : decode cX1_addCounts 6 = .ok (.if_icmp .ge 24, 3) := by decide +kernel
theorem dX1_addCounts_9 : decode cX1_addCounts 9 = .ok (.aload_n 0, 1) := by decide +kernel
theorem dX1_addCounts_10 : decode cX1_addCounts 10 = .ok (.getfield 18, 3) := by decide +kernel
theorem dX1_addCounts_13 : decode cX1_addCounts 13 = .ok (.iload_n 2, 1) := by decide +kernel
theorem dX1_addCounts_14 : decode cX1_addCounts 14 = .ok (.dup2, 1) := by decide +kernel
theorem dX1_addCounts_15 : decode cX1_addCounts 15 = .ok (.iaload, 1) := by decide +kernel
theorem dX1_addCounts_16 : decode cX1_addCounts 16 = .ok (.aload_n 1, 1) := by decide +kernel
theorem dX1_addCounts_17 : decode cX1_addCounts 17 = .ok (.getfield 18, 3) := by decide +kernel
theorem dX1_addCounts_20 : decode cX1_addCounts 20 = .ok (.iload_n 2, 1) := by decide +kernel
theorem dX1_addCounts_21 : decode cX1_addCounts 21 = .ok (.iaload, 1) := by decide +kernel
theorem dX1_addCounts_22 : decode cX1_addCounts 22 = .ok (.iadd, 1) := by decide +kernel
theorem dX1_addCounts_23 : decode cX1_addCounts 23 = .ok (.iastore, 1) := by decide +kernel
theorem dX1_addCounts_24 : decode cX1_addCounts 24 = .ok (.iinc 2 1, 3) := by decide +kernel
theorem dX1_addCounts_27 : decode cX1_addCounts 27 = .ok (.goto (-25), 3) := by decide +kernel
theorem dX1_addCounts_30 : decode cX1_addCounts 30 = .ok (.aload_n 0, 1) := by decide +kernel
theorem dX1_addCounts_31 : decode cX1_addCounts 31 = .ok (.dup, 1) := by decide +kernel
theorem dX1_addCounts_32 : decode cX1_addCounts 32 = .ok (.getfield 22, 3) := by decide +kernel
theorem dX1_addCounts_35 : decode cX1_addCounts 35 = .ok (.aload_n 1, 1) := by decide +kernel
theorem dX1_addCounts_36 : decode cX1_addCounts 36 = .ok (.getfield 22, 3) := by decide +kernel
theorem dX1_addCounts_39 : decode cX1_addCounts 39 = .ok (.iadd, 1) := by decide +kernel
theorem dX1_addCounts_40 : decode cX1_addCounts 40 = .ok (.putfield 22, 3) := by decide +kernel
theorem dX1_addCounts_43 : decode cX1_addCounts 43 = .ok (.return_, 1) := by decide +kernel
theorem dX1_unlikeValues_0 : decode cX1_unlikeValues 0 = .ok (.iconst 0, 1) := by decide +kernel
theorem dX1_unlikeValues_1 : decode cX1_unlikeValues 1 = .ok (.istore_n 1, 1) := by decide +kernel
theorem dX1_unlikeValues_2 : decode cX1_unlikeValues 2 = .ok (.iconst 0, 1) := by decide +kernel
theorem dX1_unlikeValues_3 : decode cX1_unlikeValues 3 = .ok (.istore_n 2, 1) := by decide +kernel
theorem dX1_unlikeValues_4 : decode cX1_unlikeValues 4 = .ok (.iload_n 2, 1) := by decide +kernel
theorem dX1_unlikeValues_5 : decode cX1_unlikeValues 5 = .ok (.sipush 1000, 3) := by decide +kernel
theorem dX1_unlikeValues_8 : decode cX1_unlikeValues 8 = .ok (.if_icmp .ge 21, 3) := by decide +kernel
theorem dX1_unlikeValues_11 : decode cX1_unlikeValues 11 = .ok (.aload_n 0, 1) := by decide +kernel
theorem dX1_unlikeValues_12 : decode cX1_unlikeValues 12 = .ok (.getfield 18, 3) := by decide +kernel
theorem dX1_unlikeValues_15 : decode cX1_unlikeValues 15 = .ok (.iload_n 2, 1) := by decide +kernel
theorem dX1_unlikeValues_16 : decode cX1_unlikeValues 16 = .ok (.iaload, 1) := by decide +kernel
theorem dX1_unlikeValues_17 : decode cX1_unlikeValues 17 = .ok (.ifCond .le 6, 3) := by decide +kernel
theorem dX1_unlikeValues_20 : decode cX1_unlikeValues 20 = .ok (.iinc 1 1, 3) := by decide +kernel
theorem dX1_unlikeValues_23 : decode cX1_unlikeValues 23 = .ok (.iinc 2 1, 3) := by decide +kernel
theorem dX1_unlikeValues_26 : decode cX1_unlikeValues 26 = .ok (.goto (-22), 3) := by decide +kernel
theorem dX1_unlikeValues_29 : decode cX1_unlikeValues 29 = .ok (.iload_n 1, 1) := by decide +kernel
theorem dX1_unlikeValues_30 : decode cX1_unlikeValues 30 = .ok (.ireturn, 1) := by decide +kernel
theorem dX1_sumOfValues_0 : decode cX1_sumOfValues 0 = .ok (.iconst 0, 1) := by decide +kernel
theorem dX1_sumOfValues_1 : decode cX1_sumOfValues 1 = .ok (.istore_n 1, 1) := by decide +kernel
theorem dX1_sumOfValues_2 : decode cX1_sumOfValues 2 = .ok (.iconst 0, 1) := by decide +kernel
theorem dX1_sumOfValues_3 : decode cX1_sumOfValues 3 = .ok (.istore_n 2, 1) := by decide +kernel
theorem dX1_sumOfValues_4 : decode cX1_sumOfValues 4 = .ok (.iload_n 2, 1) := by decide +kernel
theorem dX1_sumOfValues_5 : decode cX1_sumOfValues 5 = .ok (.sipush 1000, 3) := by decide +kernel
theorem dX1_sumOfValues_8 : decode cX1_sumOfValues 8 = .ok (.if_icmp .ge 20, 3) := by decide +kernel
theorem dX1_sumOfValues_11 : decode cX1_sumOfValues 11 = .ok (.iload_n 1, 1) := by decide +kernel
theorem dX1_sumOfValues_12 : decode cX1_sumOfValues 12 = .ok (.iload_n 2, 1) := by decide +kernel
theorem dX1_sumOfValues_13 : decode cX1_sumOfValues 13 = .ok (.aload_n 0, 1) := by decide +kernel
theorem dX1_sumOfValues_14 : decode cX1_sumOfValues 14 = .ok (.getfield 18, 3) := by decide +kernel
theorem dX1_sumOfValues_17 : decode cX1_sumOfValues 17 = .ok (.iload_n 2, 1) := by decide +kernel
theorem dX1_sumOfValues_18 : decode cX1_sumOfValues 18 = .ok (.iaload, 1) := by decide +kernel
theorem dX1_sumOfValues_19 : decode cX1_sumOfValues 19 = .ok (.imul, 1) := by decide +kernel
theorem dX1_sumOfValues_20 : decode cX1_sumOfValues 20 = .ok (.iadd, 1) := by decide +kernel
theorem dX1_sumOfValues_21 : decode cX1_sumOfValues 21 = .ok (.istore_n 1, 1) := by decide +kernel
theorem dX1_sumOfValues_22 : decode cX1_sumOfValues 22 = .ok (.iinc 2 1, 3) := by decide +kernel
theorem dX1_sumOfValues_25 : decode cX1_sumOfValues 25 = .ok (.goto (-21), 3) := by decide +kernel
theorem dX1_sumOfValues_28 : decode cX1_sumOfValues 28 = .ok (.iload_n 1, 1) := by decide +kernel
theorem dX1_sumOfValues_29 : decode cX1_sumOfValues 29 = .ok (.ireturn, 1) := by decide +kernel
theorem dX1_valueAt_0 : decode cX1_valueAt 0 = .ok (.iload_n 1, 1) := by decide +kernel
theorem dX1_valueAt_1 : decode cX1_valueAt 1 = .ok (.istore_n 2, 1) := by decide +kernel
theorem dX1_valueAt_2 : decode cX1_valueAt 2 = .ok (.iconst 0, 1) := by decide +kernel
theorem dX1_valueAt_3 : decode cX1_valueAt 3 = .ok (.istore_n 3, 1) := by decide +kernel
theorem dX1_valueAt_4 : decode cX1_valueAt 4 = .ok (.iload_n 3, 1) := by decide +kernel
theorem dX1_valueAt_5 : decode cX1_valueAt 5 = .ok (.sipush 1000, 3) := by decide +kernel
theorem dX1_valueAt_8 : decode cX1_valueAt 8 = .ok (.if_icmp .ge 24, 3) := by decide +kernel
theorem dX1_valueAt_11 : decode cX1_valueAt 11 = .ok (.iload_n 2, 1) := by decide +kernel
theorem dX1_valueAt_12 : decode cX1_valueAt 12 = .ok (.aload_n 0, 1) := by decide +kernel
theorem dX1_valueAt_13 : decode cX1_valueAt 13 = .ok (.getfield 18, 3) := by decide +kernel
theorem dX1_valueAt_16 : decode cX1_valueAt 16 = .ok (.iload_n 3, 1) := by decide +kernel
theorem dX1_valueAt_17 : decode cX1_valueAt 17 = .ok (.iaload, 1) := by decide +kernel
theorem dX1_valueAt_18 : decode cX1_valueAt 18 = .ok (.isub, 1) := by decide +kernel
theorem dX1_valueAt_19 : decode cX1_valueAt 19 = .ok (.istore_n 2, 1) := by decide +kernel
theorem dX1_valueAt_20 : decode cX1_valueAt 20 = .ok (.iload_n 2, 1) := by decide +kernel
theorem dX1_valueAt_21 : decode cX1_valueAt 21 = .ok (.ifCond .gt 5, 3) := by decide +kernel
theorem dX1_valueAt_24 : decode cX1_valueAt 24 = .ok (.iload_n 3, 1) := by decide +kernel
theorem dX1_valueAt_25 : decode cX1_valueAt 25 = .ok (.ireturn, 1) := by decide +kernel
theorem dX1_valueAt_26 : decode cX1_valueAt 26 = .ok (.iinc 3 1, 3) := by decide +kernel
theorem dX1_valueAt_29 : decode cX1_valueAt 29 = .ok (.goto (-25), 3) := by decide +kernel
theorem dX1_valueAt_32 : decode cX1_valueAt 32 = .ok (.iconst (-1), 1) := by decide +kernel
theorem dX1_valueAt_33 : decode cX1_valueAt 33 = .ok (.ireturn, 1) := by decide +kernel
theorem dX1_quotaPlace_0 : decode cX1_quotaPlace 0 = .ok (.iload_n 2, 1) := by decide +kernel
theorem dX1_quotaPlace_1 : decode cX1_quotaPlace 1 = .ok (.iconst 1, 1) := by decide +kernel
theorem dX1_quotaPlace_2 : decode cX1_quotaPlace 2 = .ok (.if_icmp .ge 7, 3) := by decide +kernel
theorem dX1_quotaPlace_5 : decode cX1_quotaPlace 5 = .ok (.iconst 1, 1) := by decide +kernel
theorem dX1_quotaPlace_6 : decode cX1_quotaPlace 6 = .ok (.goto 19, 3) := by decide +kernel
theorem dX1_quotaPlace_9 : decode cX1_quotaPlace 9 = .ok (.iconst 1, 1) := by decide +kernel
theorem dX1_quotaPlace_10 : decode cX1_quotaPlace 10 = .ok (.aload_n 0, 1) := by decide +kernel
theorem dX1_quotaPlace_11 : decode cX1_quotaPlace 11 = .ok (.getfield 22, 3) := by decide +kernel
theorem dX1_quotaPlace_14 : decode cX1_quotaPlace 14 = .ok (.iload_n 1, 1) := by decide +kernel
theorem dX1_quotaPlace_15 : decode cX1_quotaPlace 15 = .ok (.imul, 1) := by decide +kernel
theorem dX1_quotaPlace_16 : decode cX1_quotaPlace 16 = .ok (.iload_n 2, 1) := by decide +kernel
theorem dX1_quotaPlace_17 : decode cX1_quotaPlace 17 = .ok (.iadd, 1) := by decide +kernel
theorem dX1_quotaPlace_18 : decode cX1_quotaPlace 18 = .ok (.iconst 1, 1) := by decide +kernel
theorem dX1_quotaPlace_19 : decode cX1_quotaPlace 19 = .ok (.isub, 1) := by decide +kernel
theorem dX1_quotaPlace_20 : decode cX1_quotaPlace 20 = .ok (.iload_n 2, 1) := by decide +kernel
theorem dX1_quotaPlace_21 : decode cX1_quotaPlace 21 = .ok (.idiv, 1) := by decide +kernel
theorem dX1_quotaPlace_22 : decode cX1_quotaPlace 22 = .ok (.invokestatic 70, 3) := by decide +kernel
theorem dX1_quotaPlace_25 : decode cX1_quotaPlace 25 = .ok (.ireturn, 1) := by decide +kernel
theorem dX1_missAt_0 : decode cX1_missAt 0 = .ok (.aload_n 0, 1) := by decide +kernel
theorem dX1_missAt_1 : decode cX1_missAt 1 = .ok (.getfield 12, 3) := by decide +kernel
theorem dX1_missAt_4 : decode cX1_missAt 4 = .ok (.getfield 75, 3) := by decide +kernel
theorem dX1_missAt_7 : decode cX1_missAt 7 = .ok (.aload_n 0, 1) := by decide +kernel
theorem dX1_missAt_8 : decode cX1_missAt 8 = .ok (.getfield 12, 3) := by decide +kernel
theorem dX1_missAt_11 : decode cX1_missAt 11 = .ok (.iload_n 1, 1) := by decide +kernel
theorem dX1_missAt_12 : decode cX1_missAt 12 = .ok (.iconst 0, 1) := by decide +kernel
theorem dX1_missAt_13 : decode cX1_missAt 13 = .ok (.invokevirtual 78, 3) := by decide +kernel
theorem dX1_missAt_16 : decode cX1_missAt 16 = .ok (.iaload, 1) := by decide +kernel
theorem dX1_missAt_17 : decode cX1_missAt 17 = .ok (.istore_n 2, 1) := by decide +kernel
theorem dX1_missAt_18 : decode cX1_missAt 18 = .ok (.aload_n 0, 1) := by decide +kernel
theorem dX1_missAt_19 : decode cX1_missAt 19 = .ok (.iload_n 1, 1) := by decide +kernel
theorem dX1_missAt_20 : decode cX1_missAt 20 = .ok (.iload_n 2, 1) := by decide +kernel
theorem dX1_missAt_21 : decode cX1_missAt 21 = .ok (.aload_n 0, 1) := by decide +kernel
theorem dX1_missAt_22 : decode cX1_missAt 22 = .ok (.iconst 0, 1) := by decide +kernel
theorem dX1_missAt_23 : decode cX1_missAt 23 = .ok (.iload_n 2, 1) := by decide +kernel
theorem dX1_missAt_24 : decode cX1_missAt 24 = .ok (.invokevirtual 81, 3) := by decide +kernel
theorem dX1_missAt_27 : decode cX1_missAt 27 = .ok (.invokevirtual 84, 3) := by decide +kernel
theorem dX1_missAt_30 : decode cX1_missAt 30 = .ok (.ireturn, 1) := by decide +kernel
theorem dX1_greatestMiss_0 : decode cX1_greatestMiss 0 = .ok (.iconst 0, 1) := by decide +kernel
theorem dX1_greatestMiss_1 : decode cX1_greatestMiss 1 = .ok (.istore_n 1, 1) := by decide +kernel
theorem dX1_greatestMiss_2 : decode cX1_greatestMiss 2 = .ok (.iconst 0, 1) := by decide +kernel
theorem dX1_greatestMiss_3 : decode cX1_greatestMiss 3 = .ok (.istore_n 2, 1) := by decide +kernel
theorem dX1_greatestMiss_4 : decode cX1_greatestMiss 4 = .ok (.iconst 0, 1) := by decide +kernel
theorem dX1_greatestMiss_5 : decode cX1_greatestMiss 5 = .ok (.istore_n 3, 1) := by decide +kernel
theorem dX1_greatestMiss_6 : decode cX1_greatestMiss 6 = .ok (.iconst 0, 1) := by decide +kernel
theorem dX1_greatestMiss_7 : decode cX1_greatestMiss 7 = .ok (.istore 4, 2) := by decide +kernel
theorem dX1_greatestMiss_9 : decode cX1_greatestMiss 9 = .ok (.iconst 1, 1) := by decide +kernel
theorem dX1_greatestMiss_10 : decode cX1_greatestMiss 10 = .ok (.istore 5, 2) := by decide +kernel
theorem dX1_greatestMiss_12 : decode cX1_greatestMiss 12 = .ok (.iload 5, 2) := by decide +kernel
theorem dX1_greatestMiss_14 : decode cX1_greatestMiss 14 = .ok (.aload_n 0, 1) := by decide +kernel
theorem dX1_greatestMiss_15 : decode cX1_greatestMiss 15 = .ok (.getfield 22, 3) := by decide +kernel
theorem dX1_greatestMiss_18 : decode cX1_greatestMiss 18 = .ok (.if_icmp .gt 63, 3) := by decide +kernel
theorem dX1_greatestMiss_21 : decode cX1_greatestMiss 21 = .ok (.aload_n 0, 1) := by decide +kernel
theorem dX1_greatestMiss_22 : decode cX1_greatestMiss 22 = .ok (.getfield 12, 3) := by decide +kernel
theorem dX1_greatestMiss_25 : decode cX1_greatestMiss 25 = .ok (.iload 5, 2) := by decide +kernel
theorem dX1_greatestMiss_27 : decode cX1_greatestMiss 27 = .ok (.iload_n 2, 1) := by decide +kernel
theorem dX1_greatestMiss_28 : decode cX1_greatestMiss 28 = .ok (.invokevirtual 78, 3) := by decide +kernel
theorem dX1_greatestMiss_31 : decode cX1_greatestMiss 31 = .ok (.istore_n 2, 1) := by decide +kernel
theorem dX1_greatestMiss_32 : decode cX1_greatestMiss 32 = .ok (.iload 4, 2) := by decide +kernel
theorem dX1_greatestMiss_34 : decode cX1_greatestMiss 34 = .ok (.aload_n 0, 1) := by decide +kernel
theorem dX1_greatestMiss_35 : decode cX1_greatestMiss 35 = .ok (.iload_n 3, 1) := by decide +kernel
theorem dX1_greatestMiss_36 : decode cX1_greatestMiss 36 = .ok (.aload_n 0, 1) := by decide +kernel
theorem dX1_greatestMiss_37 : decode cX1_greatestMiss 37 = .ok (.getfield 12, 3) := by decide +kernel
theorem dX1_greatestMiss_40 : decode cX1_greatestMiss 40 = .ok (.getfield 75, 3) := by decide +kernel
theorem dX1_greatestMiss_43 : decode cX1_greatestMiss 43 = .ok (.iload_n 2, 1) := by decide +kernel
theorem dX1_greatestMiss_44 : decode cX1_greatestMiss 44 = .ok (.iaload, 1) := by decide +kernel
theorem dX1_greatestMiss_45 : decode cX1_greatestMiss 45 = .ok (.invokevirtual 81, 3) := by decide +kernel
theorem dX1_greatestMiss_48 : decode cX1_greatestMiss 48 = .ok (.iadd, 1) := by decide +kernel
theorem dX1_greatestMiss_49 : decode cX1_greatestMiss 49 = .ok (.istore 4, 2) := by decide +kernel
theorem dX1_greatestMiss_51 : decode cX1_greatestMiss 51 = .ok (.aload_n 0, 1) := by decide +kernel
theorem dX1_greatestMiss_52 : decode cX1_greatestMiss 52 = .ok (.getfield 12, 3) := by decide +kernel
theorem dX1_greatestMiss_55 : decode cX1_greatestMiss 55 = .ok (.getfield 75, 3) := by decide +kernel
theorem dX1_greatestMiss_58 : decode cX1_greatestMiss 58 = .ok (.iload_n 2, 1) := by decide +kernel
theorem dX1_greatestMiss_59 : decode cX1_greatestMiss 59 = .ok (.iaload, 1) := by decide +kernel
theorem dX1_greatestMiss_60 : decode cX1_greatestMiss 60 = .ok (.istore_n 3, 1) := by decide +kernel
theorem dX1_greatestMiss_61 : decode cX1_greatestMiss 61 = .ok (.iload_n 1, 1) := by decide +kernel
theorem dX1_greatestMiss_62 : decode cX1_greatestMiss 62 = .ok (.aload_n 0, 1) := by decide +kernel
theorem dX1_greatestMiss_63 : decode cX1_greatestMiss 63 = .ok (.iload 5, 2) := by decide +kernel
theorem dX1_greatestMiss_65 : decode cX1_greatestMiss 65 = .ok (.iload_n 3, 1) := by decide +kernel
theorem dX1_greatestMiss_66 : decode cX1_greatestMiss 66 = .ok (.iload 4, 2) := by decide +kernel
theorem dX1_greatestMiss_68 : decode cX1_greatestMiss 68 = .ok (.invokevirtual 84, 3) := by decide +kernel
theorem dX1_greatestMiss_71 : decode cX1_greatestMiss 71 = .ok (.invokestatic 70, 3) := by decide +kernel
theorem dX1_greatestMiss_74 : decode cX1_greatestMiss 74 = .ok (.istore_n 1, 1) := by decide +kernel
theorem dX1_greatestMiss_75 : decode cX1_greatestMiss 75 = .ok (.iinc 5 1, 3) := by decide +kernel
theorem dX1_greatestMiss_78 : decode cX1_greatestMiss 78 = .ok (.goto (-66), 3) := by decide +kernel
theorem dX1_greatestMiss_81 : decode cX1_greatestMiss 81 = .ok (.iload_n 1, 1) := by decide +kernel
theorem dX1_greatestMiss_82 : decode cX1_greatestMiss 82 = .ok (.ireturn, 1) := by decide +kernel
theorem dX1_valuesBetween_0 : decode cX1_valuesBetween 0 = .ok (.iconst 0, 1) := by decide +kernel
theorem dX1_valuesBetween_1 : decode cX1_valuesBetween 1 = .ok (.istore_n 3, 1) := by decide +kernel
theorem dX1_valuesBetween_2 : decode cX1_valuesBetween 2 = .ok (.iload_n 1, 1) := by decide +kernel
theorem dX1_valuesBetween_3 : decode cX1_valuesBetween 3 = .ok (.istore 4, 2) := by decide +kernel
theorem dX1_valuesBetween_5 : decode cX1_valuesBetween 5 = .ok (.iload 4, 2) := by decide +kernel
theorem dX1_valuesBetween_7 : decode cX1_valuesBetween 7 = .ok (.iload_n 2, 1) := by decide +kernel
theorem dX1_valuesBetween_8 : decode cX1_valuesBetween 8 = .ok (.if_icmp .ge 27, 3) := by decide +kernel
theorem dX1_valuesBetween_11 : decode cX1_valuesBetween 11 = .ok (.iload 4, 2) := by decide +kernel
theorem dX1_valuesBetween_13 : decode cX1_valuesBetween 13 = .ok (.sipush 1000, 3) := by decide +kernel
theorem dX1_valuesBetween_16 : decode cX1_valuesBetween 16 = .ok (.if_icmp .ge 19, 3) := by decide +kernel
theorem dX1_valuesBetween_19 : decode cX1_valuesBetween 19 = .ok (.iload_n 3, 1) := by decide +kernel
theorem dX1_valuesBetween_20 : decode cX1_valuesBetween 20 = .ok (.aload_n 0, 1) := by decide +kernel
theorem dX1_valuesBetween_21 : decode cX1_valuesBetween 21 = .ok (.getfield 18, 3) := by decide +kernel
theorem dX1_valuesBetween_24 : decode cX1_valuesBetween 24 = .ok (.iload 4, 2) := by decide +kernel
theorem dX1_valuesBetween_26 : decode cX1_valuesBetween 26 = .ok (.iaload, 1) := by decide +kernel
theorem dX1_valuesBetween_27 : decode cX1_valuesBetween 27 = .ok (.iadd, 1) := by decide +kernel
theorem dX1_valuesBetween_28 : decode cX1_valuesBetween 28 = .ok (.istore_n 3, 1) := by decide +kernel
theorem dX1_valuesBetween_29 : decode cX1_valuesBetween 29 = .ok (.iinc 4 1, 3) := by decide +kernel
theorem dX1_valuesBetween_32 : decode cX1_valuesBetween 32 = .ok (.goto (-27), 3) := by decide +kernel
theorem dX1_valuesBetween_35 : decode cX1_valuesBetween 35 = .ok (.iload_n 3, 1) := by decide +kernel
theorem dX1_valuesBetween_36 : decode cX1_valuesBetween 36 = .ok (.ireturn, 1) := by decide +kernel
theorem dX1_missOf_0 : decode cX1_missOf 0 = .ok (.iload_n 3, 1) := by decide +kernel
theorem dX1_missOf_1 : decode cX1_missOf 1 = .ok (.iconst 1, 1) := by decide +kernel
theorem dX1_missOf_2 : decode cX1_missOf 2 = .ok (.iadd, 1) := by decide +kernel
theorem dX1_missOf_3 : decode cX1_missOf 3 = .ok (.iload_n 1, 1) := by decide +kernel
theorem dX1_missOf_4 : decode cX1_missOf 4 = .ok (.isub, 1) := by decide +kernel
theorem dX1_missOf_5 : decode cX1_missOf 5 = .ok (.istore 4, 2) := by decide +kernel
theorem dX1_missOf_7 : decode cX1_missOf 7 = .ok (.iload_n 1, 1) := by decide +kernel
theorem dX1_missOf_8 : decode cX1_missOf 8 = .ok (.iload_n 3, 1) := by decide +kernel
theorem dX1_missOf_9 : decode cX1_missOf 9 = .ok (.isub, 1) := by decide +kernel
theorem dX1_missOf_10 : decode cX1_missOf 10 = .ok (.aload_n 0, 1) := by decide +kernel
theorem dX1_missOf_11 : decode cX1_missOf 11 = .ok (.getfield 18, 3) := by decide +kernel
theorem dX1_missOf_14 : decode cX1_missOf 14 = .ok (.iload_n 2, 1) := by decide +kernel
theorem dX1_missOf_15 : decode cX1_missOf 15 = .ok (.iaload, 1) := by decide +kernel
theorem dX1_missOf_16 : decode cX1_missOf 16 = .ok (.isub, 1) := by decide +kernel
theorem dX1_missOf_17 : decode cX1_missOf 17 = .ok (.istore 5, 2) := by decide +kernel
theorem dX1_missOf_19 : decode cX1_missOf 19 = .ok (.iconst 0, 1) := by decide +kernel
theorem dX1_missOf_20 : decode cX1_missOf 20 = .ok (.iload 4, 2) := by decide +kernel
theorem dX1_missOf_22 : decode cX1_missOf 22 = .ok (.iload 5, 2) := by decide +kernel
theorem dX1_missOf_24 : decode cX1_missOf 24 = .ok (.invokestatic 70, 3) := by decide +kernel
theorem dX1_missOf_27 : decode cX1_missOf 27 = .ok (.invokestatic 70, 3) := by decide +kernel
theorem dX1_missOf_30 : decode cX1_missOf 30 = .ok (.ireturn, 1) := by decide +kernel
theorem dX1_unevenness_0 : decode cX1_unevenness 0 = .ok (.iconst 0, 1) := by decide +kernel
theorem dX1_unevenness_1 : decode cX1_unevenness 1 = .ok (.istore_n 2, 1) := by decide +kernel
theorem dX1_unevenness_2 : decode cX1_unevenness 2 = .ok (.sipush 1000, 3) := by decide +kernel
theorem dX1_unevenness_5 : decode cX1_unevenness 5 = .ok (.istore_n 3, 1) := by decide +kernel
theorem dX1_unevenness_6 : decode cX1_unevenness 6 = .ok (.aload_n 0, 1) := by decide +kernel
theorem dX1_unevenness_7 : decode cX1_unevenness 7 = .ok (.getfield 12, 3) := by decide +kernel
theorem dX1_unevenness_10 : decode cX1_unevenness 10 = .ok (.aload_n 0, 1) := by decide +kernel
theorem dX1_unevenness_11 : decode cX1_unevenness 11 = .ok (.iconst 0, 1) := by decide +kernel
theorem dX1_unevenness_12 : decode cX1_unevenness 12 = .ok (.iload_n 1, 1) := by decide +kernel
theorem dX1_unevenness_13 : decode cX1_unevenness 13 = .ok (.invokevirtual 88, 3) := by decide +kernel
theorem dX1_unevenness_16 : decode cX1_unevenness 16 = .ok (.iconst 0, 1) := by decide +kernel
theorem dX1_unevenness_17 : decode cX1_unevenness 17 = .ok (.invokevirtual 78, 3) := by decide +kernel
theorem dX1_unevenness_20 : decode cX1_unevenness 20 = .ok (.istore 4, 2) := by decide +kernel
theorem dX1_unevenness_22 : decode cX1_unevenness 22 = .ok (.iconst 1, 1) := by decide +kernel
theorem dX1_unevenness_23 : decode cX1_unevenness 23 = .ok (.istore 5, 2) := by decide +kernel
theorem dX1_unevenness_25 : decode cX1_unevenness 25 = .ok (.iload 5, 2) := by decide +kernel
theorem dX1_unevenness_27 : decode cX1_unevenness 27 = .ok (.iload_n 1, 1) := by decide +kernel
theorem dX1_unevenness_28 : decode cX1_unevenness 28 = .ok (.if_icmp .gt 97, 3) := by decide +kernel
theorem dX1_unevenness_31 : decode cX1_unevenness 31 = .ok (.aload_n 0, 1) := by decide +kernel
theorem dX1_unevenness_32 : decode cX1_unevenness 32 = .ok (.getfield 12, 3) := by decide +kernel
theorem dX1_unevenness_35 : decode cX1_unevenness 35 = .ok (.aload_n 0, 1) := by decide +kernel
theorem dX1_unevenness_36 : decode cX1_unevenness 36 = .ok (.iload 5, 2) := by decide +kernel
theorem dX1_unevenness_38 : decode cX1_unevenness 38 = .ok (.iload_n 1, 1) := by decide +kernel
theorem dX1_unevenness_39 : decode cX1_unevenness 39 = .ok (.invokevirtual 88, 3) := by decide +kernel
theorem dX1_unevenness_42 : decode cX1_unevenness 42 = .ok (.iload 4, 2) := by decide +kernel
theorem dX1_unevenness_44 : decode cX1_unevenness 44 = .ok (.invokevirtual 78, 3) := by decide +kernel
theorem dX1_unevenness_47 : decode cX1_unevenness 47 = .ok (.istore 6, 2) := by decide +kernel
theorem dX1_unevenness_49 : decode cX1_unevenness 49 = .ok (.iload_n 2, 1) := by decide +kernel
theorem dX1_unevenness_50 : decode cX1_unevenness 50 = .ok (.aload_n 0, 1) := by decide +kernel
theorem dX1_unevenness_51 : decode cX1_unevenness 51 = .ok (.getfield 12, 3) := by decide +kernel
theorem dX1_unevenness_54 : decode cX1_unevenness 54 = .ok (.aload_n 0, 1) := by decide +kernel
theorem dX1_unevenness_55 : decode cX1_unevenness 55 = .ok (.getfield 12, 3) := by decide +kernel
theorem dX1_unevenness_58 : decode cX1_unevenness 58 = .ok (.getfield 75, 3) := by decide +kernel
theorem dX1_unevenness_61 : decode cX1_unevenness 61 = .ok (.iload 4, 2) := by decide +kernel
theorem dX1_unevenness_63 : decode cX1_unevenness 63 = .ok (.iaload, 1) := by decide +kernel
theorem dX1_unevenness_64 : decode cX1_unevenness 64 = .ok (.aload_n 0, 1) := by decide +kernel
theorem dX1_unevenness_65 : decode cX1_unevenness 65 = .ok (.getfield 12, 3) := by decide +kernel
theorem dX1_unevenness_68 : decode cX1_unevenness 68 = .ok (.getfield 75, 3) := by decide +kernel
theorem dX1_unevenness_71 : decode cX1_unevenness 71 = .ok (.iload 6, 2) := by decide +kernel
theorem dX1_unevenness_73 : decode cX1_unevenness 73 = .ok (.iaload, 1) := by decide +kernel
theorem dX1_unevenness_74 : decode cX1_unevenness 74 = .ok (.iconst 1, 1) := by decide +kernel
theorem dX1_unevenness_75 : decode cX1_unevenness 75 = .ok (.invokevirtual 91, 3) := by decide +kernel
theorem dX1_unevenness_78 : decode cX1_unevenness 78 = .ok (.invokestatic 70, 3) := by decide +kernel
theorem dX1_unevenness_81 : decode cX1_unevenness 81 = .ok (.istore_n 2, 1) := by decide +kernel
theorem dX1_unevenness_82 : decode cX1_unevenness 82 = .ok (.iload_n 3, 1) := by decide +kernel
theorem dX1_unevenness_83 : decode cX1_unevenness 83 = .ok (.aload_n 0, 1) := by decide +kernel
theorem dX1_unevenness_84 : decode cX1_unevenness 84 = .ok (.getfield 12, 3) := by decide +kernel
theorem dX1_unevenness_87 : decode cX1_unevenness 87 = .ok (.aload_n 0, 1) := by decide +kernel
theorem dX1_unevenness_88 : decode cX1_unevenness 88 = .ok (.getfield 12, 3) := by decide +kernel
theorem dX1_unevenness_91 : decode cX1_unevenness 91 = .ok (.getfield 75, 3) := by decide +kernel
theorem dX1_unevenness_94 : decode cX1_unevenness 94 = .ok (.iload 4, 2) := by decide +kernel
theorem dX1_unevenness_96 : decode cX1_unevenness 96 = .ok (.iaload, 1) := by decide +kernel
theorem dX1_unevenness_97 : decode cX1_unevenness 97 = .ok (.aload_n 0, 1) := by decide +kernel
theorem dX1_unevenness_98 : decode cX1_unevenness 98 = .ok (.getfield 12, 3) := by decide +kernel
theorem dX1_unevenness_101 : decode cX1_unevenness 101 = .ok (.getfield 75, 3) := by decide +kernel
theorem dX1_unevenness_104 : decode cX1_unevenness 104 = .ok (.iload 6, 2) := by decide +kernel
theorem dX1_unevenness_106 : decode cX1_unevenness 106 = .ok (.iaload, 1) := by decide +kernel
theorem dX1_unevenness_107 : decode cX1_unevenness 107 = .ok (.iconst 0, 1) := by decide +kernel
theorem dX1_unevenness_108 : decode cX1_unevenness 108 = .ok (.invokevirtual 91, 3) := by decide +kernel
theorem dX1_unevenness_111 : decode cX1_unevenness 111 = .ok (.invokestatic 95, 3) := by decide +kernel
theorem dX1_unevenness_114 : decode cX1_unevenness 114 = .ok (.istore_n 3, 1) := by decide +kernel
theorem dX1_unevenness_115 : decode cX1_unevenness 115 = .ok (.iload 6, 2) := by decide +kernel
theorem dX1_unevenness_117 : decode cX1_unevenness 117 = .ok (.istore 4, 2) := by decide +kernel
theorem dX1_unevenness_119 : decode cX1_unevenness 119 = .ok (.iinc 5 1, 3) := by decide +kernel
theorem dX1_unevenness_122 : decode cX1_unevenness 122 = .ok (.goto (-97), 3) := by decide +kernel
theorem dX1_unevenness_125 : decode cX1_unevenness 125 = .ok (.iload_n 2, 1) := by decide +kernel
theorem dX1_unevenness_126 : decode cX1_unevenness 126 = .ok (.iload_n 3, 1) := by decide +kernel
theorem dX1_unevenness_127 : decode cX1_unevenness 127 = .ok (.isub, 1) := by decide +kernel
theorem dX1_unevenness_128 : decode cX1_unevenness 128 = .ok (.ireturn, 1) := by decide +kernel
theorem dX2_init_0 : decode cX2_init 0 = .ok (.aload_n 0, 1) := by decide +kernel
theorem dX2_init_1 : decode cX2_init 1 = .ok (.invokespecial 3, 3) := by decide +kernel
theorem dX2_init_4 : decode cX2_init 4 = .ok (.aload_n 0, 1) := by decide +kernel
theorem dX2_init_5 : decode cX2_init 5 = .ok (.sipush 400, 3) := by decide +kernel
theorem dX2_init_8 : decode cX2_init 8 = .ok (.newarray .int, 2) := by decide +kernel
theorem dX2_init_10 : decode cX2_init 10 = .ok (.putfield 9, 3) := by decide +kernel
theorem dX2_init_13 : decode cX2_init 13 = .ok (.aload_n 0, 1) := by decide +kernel
theorem dX2_init_14 : decode cX2_init 14 = .ok (.iconst 0, 1) := by decide +kernel
theorem dX2_init_15 : decode cX2_init 15 = .ok (.putfield 15, 3) := by decide +kernel
theorem dX2_init_18 : decode cX2_init 18 = .ok (.aload_n 0, 1) := by decide +kernel
theorem dX2_init_19 : decode cX2_init 19 = .ok (.iconst 0, 1) := by decide +kernel
theorem dX2_init_20 : decode cX2_init 20 = .ok (.putfield 19, 3) := by decide +kernel
theorem dX2_init_23 : decode cX2_init 23 = .ok (.aload_n 0, 1) := by decide +kernel
theorem dX2_init_24 : decode cX2_init 24 = .ok (.iconst 0, 1) := by decide +kernel
theorem dX2_init_25 : decode cX2_init 25 = .ok (.putfield 22, 3) := by decide +kernel
theorem dX2_init_28 : decode cX2_init 28 = .ok (.aload_n 0, 1) := by decide +kernel
theorem dX2_init_29 : decode cX2_init 29 = .ok (.iconst 0, 1) := by decide +kernel
theorem dX2_init_30 : decode cX2_init 30 = .ok (.putfield 25, 3) := by decide +kernel
theorem dX2_init_33 : decode cX2_init 33 = .ok (.aload_n 0, 1) := by decide +kernel
theorem dX2_init_34 : decode cX2_init 34 = .ok (.iconst 0, 1) := by decide +kernel
theorem dX2_init_35 : decode cX2_init 35 = .ok (.putfield 28, 3) := by decide +kernel
theorem dX2_init_38 : decode cX2_init 38 = .ok (.aload_n 0, 1) := by decide +kernel
theorem dX2_init_39 : decode cX2_init 39 = .ok (.iconst 0, 1) := by decide +kernel
theorem dX2_init_40 : decode cX2_init 40 = .ok (.putfield 31, 3) := by decide +kernel
theorem dX2_init_43 : decode cX2_init 43 = .ok (.aload_n 0, 1) := by decide +kernel
theorem dX2_init_44 : decode cX2_init 44 = .ok (.iconst 0, 1) := by decide +kernel
theorem dX2_init_45 : decode cX2_init 45 = .ok (.putfield 34, 3) := by decide +kernel
theorem dX2_init_48 : decode cX2_init 48 = .ok (.aload_n 0, 1) := by decide +kernel
theorem dX2_init_49 : decode cX2_init 49 = .ok (.iconst 0, 1) := by decide +kernel
theorem dX2_init_50 : decode cX2_init 50 = .ok (.putfield 37, 3) := by decide +kernel
theorem dX2_init_53 : decode cX2_init 53 = .ok (.aload_n 0, 1) := by decide +kernel
theorem dX2_init_54 : decode cX2_init 54 = .ok (.iconst 0, 1) := by decide +kernel
theorem dX2_init_55 : decode cX2_init 55 = .ok (.putfield 40, 3) := by decide +kernel
theorem dX2_init_58 : decode cX2_init 58 = .ok (.aload_n 0, 1) := by decide +kernel
theorem dX2_init_59 : decode cX2_init 59 = .ok (.iconst 0, 1) := by decide +kernel
theorem dX2_init_60 : decode cX2_init 60 = .ok (.putfield 43, 3) := by decide +kernel
theorem dX2_init_63 : decode cX2_init 63 = .ok (.aload_n 0, 1) := by decide +kernel
theorem dX2_init_64 : decode cX2_init 64 = .ok (.iconst 4, 1) := by decide +kernel
theorem dX2_init_65 : decode cX2_init 65 = .ok (.newarray .int, 2) := by decide +kernel
theorem dX2_init_67 : decode cX2_init 67 = .ok (.putfield 46, 3) := by decide +kernel
theorem dX2_init_70 : decode cX2_init 70 = .ok (.aload_n 0, 1) := by decide +kernel
theorem dX2_init_71 : decode cX2_init 71 = .ok (.iconst 4, 1) := by decide +kernel
theorem dX2_init_72 : decode cX2_init 72 = .ok (.newarray .int, 2) := by decide +kernel
theorem dX2_init_74 : decode cX2_init 74 = .ok (.putfield 49, 3) := by decide +kernel
theorem dX2_init_77 : decode cX2_init 77 = .ok (.aload_n 0, 1) := by decide +kernel
theorem dX2_init_78 : decode cX2_init 78 = .ok (.iconst 0, 1) := by decide +kernel
theorem dX2_init_79 : decode cX2_init 79 = .ok (.putfield 52, 3) := by decide +kernel
theorem dX2_init_82 : decode cX2_init 82 = .ok (.aload_n 0, 1) := by decide +kernel
theorem dX2_init_83 : decode cX2_init 83 = .ok (.sipush 200, 3) := by decide +kernel
theorem dX2_init_86 : decode cX2_init 86 = .ok (.newarray .int, 2) := by decide +kernel
theorem dX2_init_88 : decode cX2_init 88 = .ok (.putfield 55, 3) := by decide +kernel
theorem dX2_init_91 : decode cX2_init 91 = .ok (.aload_n 0, 1) := by decide +kernel
theorem dX2_init_92 : decode cX2_init 92 = .ok (.sipush 200, 3) := by decide +kernel
theorem dX2_init_95 : decode cX2_init 95 = .ok (.newarray .int, 2) := by decide +kernel
theorem dX2_init_97 : decode cX2_init 97 = .ok (.putfield 58, 3) := by decide +kernel
theorem dX2_init_100 : decode cX2_init 100 = .ok (.return_, 1) := by decide +kernel
theorem dX2_putBytes_0 : decode cX2_putBytes 0 = .ok (.bipush 24, 2) := by decide +kernel
theorem dX2_putBytes_2 : decode cX2_putBytes 2 = .ok (.istore_n 2, 1) := by decide +kernel
theorem dX2_putBytes_3 : decode cX2_putBytes 3 = .ok (.iload_n 2, 1) := by decide +kernel
theorem dX2_putBytes_4 : decode cX2_putBytes 4 = .ok (.ifCond .lt 45, 3) := by decide +kernel
theorem dX2_putBytes_7 : decode cX2_putBytes 7 = .ok (.aload_n 0, 1) := by decide +kernel
theorem dX2_putBytes_8 : decode cX2_putBytes 8 = .ok (.getfield 15, 3) := by decide +kernel
theorem dX2_putBytes_11 : decode cX2_putBytes 11 = .ok (.sipush 400, 3) := by decide +kernel
theorem dX2_putBytes_14 : decode cX2_putBytes 14 = .ok (.if_icmp .ge 29, 3) := by decide +kernel
theorem dX2_putBytes_17 : decode cX2_putBytes 17 = .ok (.aload_n 0, 1) := by decide +kernel
theorem dX2_putBytes_18 : decode cX2_putBytes 18 = .ok (.getfield 9, 3) := by decide +kernel
theorem dX2_putBytes_21 : decode cX2_putBytes 21 = .ok (.aload_n 0, 1) := by decide +kernel
theorem dX2_putBytes_22 : decode cX2_putBytes 22 = .ok (.getfield 15, 3) := by decide +kernel
theorem dX2_putBytes_25 : decode cX2_putBytes 25 = .ok (.iload_n 1, 1) := by decide +kernel
theorem dX2_putBytes_26 : decode cX2_putBytes 26 = .ok (.iload_n 2, 1) := by decide +kernel
theorem dX2_putBytes_27 : decode cX2_putBytes 27 = .ok (.iushr, 1) := by decide +kernel
theorem dX2_putBytes_28 : decode cX2_putBytes 28 = .ok (.sipush 255, 3) := by decide +kernel
theorem dX2_putBytes_31 : decode cX2_putBytes 31 = .ok (.iand, 1) := by decide +kernel
theorem dX2_putBytes_32 : decode cX2_putBytes 32 = .ok (.iastore, 1) := by decide +kernel
theorem dX2_putBytes_33 : decode cX2_putBytes 33 = .ok (.aload_n 0, 1) := by decide +kernel
theorem dX2_putBytes_34 : decode cX2_putBytes 34 = .ok (.dup, 1) := by decide +kernel
theorem dX2_putBytes_35 : decode cX2_putBytes 35 = .ok (.getfield 15, 3) := by decide +kernel
theorem dX2_putBytes_38 : decode cX2_putBytes 38 = .ok (.iconst 1, 1) := by decide +kernel
theorem dX2_putBytes_39 : decode cX2_putBytes 39 = .ok (.iadd, 1) := by decide +kernel
theorem dX2_putBytes_40 : decode cX2_putBytes 40 = .ok (.putfield 15, 3) := by decide +kernel
theorem dX2_putBytes_43 : decode cX2_putBytes 43 = .ok (.iinc 2 (-8), 3) := by decide +kernel
theorem dX2_putBytes_46 : decode cX2_putBytes 46 = .ok (.goto (-43), 3) := by decide +kernel
theorem dX2_putBytes_49 : decode cX2_putBytes 49 = .ok (.return_, 1) := by decide +kernel
theorem dX2_readText_0 : decode cX2_readText 0 = .ok (.aload_n 0, 1) := by decide +kernel
theorem dX2_readText_1 : decode cX2_readText 1 = .ok (.iload_n 1, 1) := by decide +kernel
theorem dX2_readText_2 : decode cX2_readText 2 = .ok (.aload_n 0, 1) := by decide +kernel
theorem dX2_readText_3 : decode cX2_readText 3 = .ok (.getfield 15, 3) := by decide +kernel
theorem dX2_readText_6 : decode cX2_readText 6 = .ok (.invokestatic 61, 3) := by decide +kernel
theorem dX2_readText_9 : decode cX2_readText 9 = .ok (.putfield 19, 3) := by decide +kernel
theorem dX2_readText_12 : decode cX2_readText 12 = .ok (.aload_n 0, 1) := by decide +kernel
theorem dX2_readText_13 : decode cX2_readText 13 = .ok (.iconst 0, 1) := by decide +kernel
theorem dX2_readText_14 : decode cX2_readText 14 = .ok (.putfield 15, 3) := by decide +kernel
theorem dX2_readText_17 : decode cX2_readText 17 = .ok (.aload_n 0, 1) := by decide +kernel
theorem dX2_readText_18 : decode cX2_readText 18 = .ok (.iconst 0, 1) := by decide +kernel
theorem dX2_readText_19 : decode cX2_readText 19 = .ok (.putfield 28, 3) := by decide +kernel
theorem dX2_readText_22 : decode cX2_readText 22 = .ok (.aload_n 0, 1) := by decide +kernel
theorem dX2_readText_23 : decode cX2_readText 23 = .ok (.iconst 0, 1) := by decide +kernel
theorem dX2_readText_24 : decode cX2_readText 24 = .ok (.putfield 34, 3) := by decide +kernel
theorem dX2_readText_27 : decode cX2_readText 27 = .ok (.aload_n 0, 1) := by decide +kernel
theorem dX2_readText_28 : decode cX2_readText 28 = .ok (.iconst (-1), 1) := by decide +kernel
theorem dX2_readText_29 : decode cX2_readText 29 = .ok (.putfield 37, 3) := by decide +kernel
theorem dX2_readText_32 : decode cX2_readText 32 = .ok (.aload_n 0, 1) := by decide +kernel
theorem dX2_readText_33 : decode cX2_readText 33 = .ok (.iconst 0, 1) := by decide +kernel
theorem dX2_readText_34 : decode cX2_readText 34 = .ok (.putfield 40, 3) := by decide +kernel
theorem dX2_readText_37 : decode cX2_readText 37 = .ok (.aload_n 0, 1) := by decide +kernel
theorem dX2_readText_38 : decode cX2_readText 38 = .ok (.iconst 0, 1) := by decide +kernel
theorem dX2_readText_39 : decode cX2_readText 39 = .ok (.putfield 43, 3) := by decide +kernel
theorem dX2_readText_42 : decode cX2_readText 42 = .ok (.aload_n 0, 1) := by decide +kernel
theorem dX2_readText_43 : decode cX2_readText 43 = .ok (.iconst 0, 1) := by decide +kernel
theorem dX2_readText_44 : decode cX2_readText 44 = .ok (.putfield 52, 3) := by decide +kernel
theorem dX2_readText_47 : decode cX2_readText 47 = .ok (.iconst 1, 1) := by decide +kernel
theorem dX2_readText_48 : decode cX2_readText 48 = .ok (.istore_n 2, 1) := by decide +kernel
theorem dX2_readText_49 : decode cX2_readText 49 = .ok (.iconst 0, 1) := by decide +kernel
theorem dX2_readText_50 : decode cX2_readText 50 = .ok (.istore_n 3, 1) := by decide +kernel
theorem dX2_readText_51 : decode cX2_readText 51 = .ok (.iload_n 3, 1) := by decide +kernel
theorem dX2_readText_52 : decode cX2_readText 52 = .ok (.sipush 400, 3) := by decide +kernel
theorem dX2_readText_55 : decode cX2_readText 55 = .ok (.if_icmp .gt 37, 3) := by decide +kernel
theorem dX2_readText_58 : decode cX2_readText 58 = .ok (.iload_n 2, 1) := by decide +kernel
theorem dX2_readText_59 : decode cX2_readText 59 = .ok (.ifCond .eq 33, 3) := by decide +kernel
theorem dX2_readText_62 : decode cX2_readText 62 = .ok (.aload_n 0, 1) := by decide +kernel
theorem dX2_readText_63 : decode cX2_readText 63 = .ok (.invokevirtual 67, 3) := by decide +kernel
theorem dX2_readText_66 : decode cX2_readText 66 = .ok (.aload_n 0, 1) := by decide +kernel
theorem dX2_readText_67 : decode cX2_readText 67 = .ok (.invokevirtual 70, 3) := by decide +kernel
theorem dX2_readText_70 : decode cX2_readText 70 = .ok (.ifCond .eq 14, 3) := by decide +kernel
theorem dX2_readText_73 : decode cX2_readText 73 = .ok (.aload_n 0, 1) := by decide +kernel
theorem dX2_readText_74 : decode cX2_readText 74 = .ok (.invokevirtual 74, 3) := by decide +kernel
theorem dX2_readText_77 : decode cX2_readText 77 = .ok (.ifCond .eq 7, 3) := by decide +kernel
theorem dX2_readText_80 : decode cX2_readText 80 = .ok (.iconst 1, 1) := by decide +kernel
theorem dX2_readText_81 : decode cX2_readText 81 = .ok (.goto 4, 3) := by decide +kernel
theorem dX2_readText_84 : decode cX2_readText 84 = .ok (.iconst 0, 1) := by decide +kernel
theorem dX2_readText_85 : decode cX2_readText 85 = .ok (.istore_n 2, 1) := by decide +kernel
theorem dX2_readText_86 : decode cX2_readText 86 = .ok (.iinc 3 1, 3) := by decide +kernel
theorem dX2_readText_89 : decode cX2_readText 89 = .ok (.goto (-38), 3) := by decide +kernel
theorem dX2_readText_92 : decode cX2_readText 92 = .ok (.return_, 1) := by decide +kernel
theorem dX2_readParting_0 : decode cX2_readParting 0 = .ok (.aload_n 0, 1) := by decide +kernel
theorem dX2_readParting_1 : decode cX2_readParting 1 = .ok (.getfield 22, 3) := by decide +kernel
theorem dX2_readParting_4 : decode cX2_readParting 4 = .ok (.iconst 4, 1) := by decide +kernel
theorem dX2_readParting_5 : decode cX2_readParting 5 = .ok (.if_icmp .ne 5, 3) := by decide +kernel
theorem dX2_readParting_8 : decode cX2_readParting 8 = .ok (.iconst 1, 1) := by decide +kernel
theorem dX2_readParting_9 : decode cX2_readParting 9 = .ok (.ireturn, 1) := by decide +kernel
theorem dX2_readParting_10 : decode cX2_readParting 10 = .ok (.aload_n 0, 1) := by decide +kernel
theorem dX2_readParting_11 : decode cX2_readParting 11 = .ok (.getfield 22, 3) := by decide +kernel
theorem dX2_readParting_14 : decode cX2_readParting 14 = .ok (.ifCond .eq 9, 3) := by decide +kernel
theorem dX2_readParting_17 : decode cX2_readParting 17 = .ok (.aload_n 0, 1) := by decide +kernel
theorem dX2_readParting_18 : decode cX2_readParting 18 = .ok (.iconst 1, 1) := by decide +kernel
theorem dX2_readParting_19 : decode cX2_readParting 19 = .ok (.invokevirtual 77, 3) := by decide +kernel
theorem dX2_readParting_22 : decode cX2_readParting 22 = .ok (.ireturn, 1) := by decide +kernel
theorem dX2_readParting_23 : decode cX2_readParting 23 = .ok (.aload_n 0, 1) := by decide +kernel
theorem dX2_readParting_24 : decode cX2_readParting 24 = .ok (.getfield 43, 3) := by decide +kernel
theorem dX2_readParting_27 : decode cX2_readParting 27 = .ok (.ifCond .ne 16, 3) := by decide +kernel
theorem dX2_readParting_30 : decode cX2_readParting 30 = .ok (.aload_n 0, 1) := by decide +kernel
theorem dX2_readParting_31 : decode cX2_readParting 31 = .ok (.bipush 6, 2) := by decide +kernel
theorem dX2_readParting_33 : decode cX2_readParting 33 = .ok (.invokevirtual 77, 3) := by decide +kernel
theorem dX2_readParting_36 : decode cX2_readParting 36 = .ok (.ifCond .eq 7, 3) := by decide +kernel
theorem dX2_readParting_39 : decode cX2_readParting 39 = .ok (.iconst 1, 1) := by decide +kernel
theorem dX2_readParting_40 : decode cX2_readParting 40 = .ok (.goto 4, 3) := by decide +kernel
theorem dX2_readParting_43 : decode cX2_readParting 43 = .ok (.iconst 0, 1) := by decide +kernel
theorem dX2_readParting_44 : decode cX2_readParting 44 = .ok (.ireturn, 1) := by decide +kernel
theorem dX2_readLine_0 : decode cX2_readLine 0 = .ok (.aload_n 0, 1) := by decide +kernel
theorem dX2_readLine_1 : decode cX2_readLine 1 = .ok (.ldc 81, 2) := by decide +kernel
theorem dX2_readLine_3 : decode cX2_readLine 3 = .ok (.invokevirtual 83, 3) := by decide +kernel
theorem dX2_readLine_6 : decode cX2_readLine 6 = .ok (.ifCond .eq 8, 3) := by decide +kernel
theorem dX2_readLine_9 : decode cX2_readLine 9 = .ok (.aload_n 0, 1) := by decide +kernel
theorem dX2_readLine_10 : decode cX2_readLine 10 = .ok (.invokevirtual 87, 3) := by decide +kernel
theorem dX2_readLine_13 : decode cX2_readLine 13 = .ok (.ireturn, 1) := by decide +kernel
theorem dX2_readLine_14 : decode cX2_readLine 14 = .ok (.aload_n 0, 1) := by decide +kernel
theorem dX2_readLine_15 : decode cX2_readLine 15 = .ok (.ldc 90, 2) := by decide +kernel
theorem dX2_readLine_17 : decode cX2_readLine 17 = .ok (.invokevirtual 83, 3) := by decide +kernel
theorem dX2_readLine_20 : decode cX2_readLine 20 = .ok (.ifCond .eq 8, 3) := by decide +kernel
theorem dX2_readLine_23 : decode cX2_readLine 23 = .ok (.aload_n 0, 1) := by decide +kernel
theorem dX2_readLine_24 : decode cX2_readLine 24 = .ok (.invokevirtual 92, 3) := by decide +kernel
theorem dX2_readLine_27 : decode cX2_readLine 27 = .ok (.ireturn, 1) := by decide +kernel
theorem dX2_readLine_28 : decode cX2_readLine 28 = .ok (.aload_n 0, 1) := by decide +kernel
theorem dX2_readLine_29 : decode cX2_readLine 29 = .ok (.ldc 95, 2) := by decide +kernel
theorem dX2_readLine_31 : decode cX2_readLine 31 = .ok (.invokevirtual 83, 3) := by decide +kernel
theorem dX2_readLine_34 : decode cX2_readLine 34 = .ok (.ifCond .eq 8, 3) := by decide +kernel
theorem dX2_readLine_37 : decode cX2_readLine 37 = .ok (.aload_n 0, 1) := by decide +kernel
theorem dX2_readLine_38 : decode cX2_readLine 38 = .ok (.invokevirtual 97, 3) := by decide +kernel
theorem dX2_readLine_41 : decode cX2_readLine 41 = .ok (.ireturn, 1) := by decide +kernel
theorem dX2_readLine_42 : decode cX2_readLine 42 = .ok (.aload_n 0, 1) := by decide +kernel
theorem dX2_readLine_43 : decode cX2_readLine 43 = .ok (.iconst 1, 1) := by decide +kernel
theorem dX2_readLine_44 : decode cX2_readLine 44 = .ok (.invokevirtual 77, 3) := by decide +kernel
theorem dX2_readLine_47 : decode cX2_readLine 47 = .ok (.ireturn, 1) := by decide +kernel
theorem dX2_readRanks_0 : decode cX2_readRanks 0 = .ok (.aload_n 0, 1) := by decide +kernel
theorem dX2_readRanks_1 : decode cX2_readRanks 1 = .ok (.getfield 40, 3) := by decide +kernel
theorem dX2_readRanks_4 : decode cX2_readRanks 4 = .ok (.ifCond .eq 9, 3) := by decide +kernel
theorem dX2_readRanks_7 : decode cX2_readRanks 7 = .ok (.aload_n 0, 1) := by decide +kernel
theorem dX2_readRanks_8 : decode cX2_readRanks 8 = .ok (.iconst 4, 1) := by decide +kernel
theorem dX2_readRanks_9 : decode cX2_readRanks 9 = .ok (.invokevirtual 77, 3) := by decide +kernel
theorem dX2_readRanks_12 : decode cX2_readRanks 12 = .ok (.ireturn, 1) := by decide +kernel
theorem dX2_readRanks_13 : decode cX2_readRanks 13 = .ok (.aload_n 0, 1) := by decide +kernel
theorem dX2_readRanks_14 : decode cX2_readRanks 14 = .ok (.invokevirtual 67, 3) := by decide +kernel
theorem dX2_readRanks_17 : decode cX2_readRanks 17 = .ok (.aload_n 0, 1) := by decide +kernel
theorem dX2_readRanks_18 : decode cX2_readRanks 18 = .ok (.ldc 100, 2) := by decide +kernel
theorem dX2_readRanks_20 : decode cX2_readRanks 20 = .ok (.invokevirtual 102, 3) := by decide +kernel
theorem dX2_readRanks_23 : decode cX2_readRanks 23 = .ok (.ifCond .ne 5, 3) := by decide +kernel
theorem dX2_readRanks_26 : decode cX2_readRanks 26 = .ok (.iconst 0, 1) := by decide +kernel
theorem dX2_readRanks_27 : decode cX2_readRanks 27 = .ok (.ireturn, 1) := by decide +kernel
theorem dX2_readRanks_28 : decode cX2_readRanks 28 = .ok (.aload_n 0, 1) := by decide +kernel
theorem dX2_readRanks_29 : decode cX2_readRanks 29 = .ok (.invokevirtual 67, 3) := by decide +kernel
theorem dX2_readRanks_32 : decode cX2_readRanks 32 = .ok (.aload_n 0, 1) := by decide +kernel
theorem dX2_readRanks_33 : decode cX2_readRanks 33 = .ok (.iconst 2, 1) := by decide +kernel
theorem dX2_readRanks_34 : decode cX2_readRanks 34 = .ok (.bipush 40, 2) := by decide +kernel
theorem dX2_readRanks_36 : decode cX2_readRanks 36 = .ok (.invokevirtual 105, 3) := by decide +kernel
theorem dX2_readRanks_39 : decode cX2_readRanks 39 = .ok (.ifCond .ne 5, 3) := by decide +kernel
theorem dX2_readRanks_42 : decode cX2_readRanks 42 = .ok (.iconst 0, 1) := by decide +kernel
theorem dX2_readRanks_43 : decode cX2_readRanks 43 = .ok (.ireturn, 1) := by decide +kernel
theorem dX2_readRanks_44 : decode cX2_readRanks 44 = .ok (.aload_n 0, 1) := by decide +kernel
theorem dX2_readRanks_45 : decode cX2_readRanks 45 = .ok (.aload_n 0, 1) := by decide +kernel
theorem dX2_readRanks_46 : decode cX2_readRanks 46 = .ok (.getfield 31, 3) := by decide +kernel
theorem dX2_readRanks_49 : decode cX2_readRanks 49 = .ok (.putfield 40, 3) := by decide +kernel
theorem dX2_readRanks_52 : decode cX2_readRanks 52 = .ok (.aload_n 0, 1) := by decide +kernel
theorem dX2_readRanks_53 : decode cX2_readRanks 53 = .ok (.invokevirtual 67, 3) := by decide +kernel
theorem dX2_readRanks_56 : decode cX2_readRanks 56 = .ok (.iconst 1, 1) := by decide +kernel
theorem dX2_readRanks_57 : decode cX2_readRanks 57 = .ok (.ireturn, 1) := by decide +kernel
theorem dX2_readStream_0 : decode cX2_readStream 0 = .ok (.aload_n 0, 1) := by decide +kernel
theorem dX2_readStream_1 : decode cX2_readStream 1 = .ok (.getfield 40, 3) := by decide +kernel
theorem dX2_readStream_4 : decode cX2_readStream 4 = .ok (.ifCond .ne 10, 3) := by decide +kernel
theorem dX2_readStream_7 : decode cX2_readStream 7 = .ok (.aload_n 0, 1) := by decide +kernel
theorem dX2_readStream_8 : decode cX2_readStream 8 = .ok (.bipush 6, 2) := by decide +kernel
theorem dX2_readStream_10 : decode cX2_readStream 10 = .ok (.invokevirtual 77, 3) := by decide +kernel
theorem dX2_readStream_13 : decode cX2_readStream 13 = .ok (.ireturn, 1) := by decide +kernel
theorem dX2_readStream_14 : decode cX2_readStream 14 = .ok (.aload_n 0, 1) := by decide +kernel
theorem dX2_readStream_15 : decode cX2_readStream 15 = .ok (.getfield 43, 3) := by decide +kernel
theorem dX2_readStream_18 : decode cX2_readStream 18 = .ok (.iconst 4, 1) := by decide +kernel
theorem dX2_readStream_19 : decode cX2_readStream 19 = .ok (.if_icmp .lt 9, 3) := by decide +kernel
theorem dX2_readStream_22 : decode cX2_readStream 22 = .ok (.aload_n 0, 1) := by decide +kernel
theorem dX2_readStream_23 : decode cX2_readStream 23 = .ok (.iconst 5, 1) := by decide +kernel
theorem dX2_readStream_24 : decode cX2_readStream 24 = .ok (.invokevirtual 77, 3) := by decide +kernel
theorem dX2_readStream_27 : decode cX2_readStream 27 = .ok (.ireturn, 1) := by decide +kernel
theorem dX2_readStream_28 : decode cX2_readStream 28 = .ok (.aload_n 0, 1) := by decide +kernel
theorem dX2_readStream_29 : decode cX2_readStream 29 = .ok (.invokevirtual 67, 3) := by decide +kernel
theorem dX2_readStream_32 : decode cX2_readStream 32 = .ok (.aload_n 0, 1) := by decide +kernel
theorem dX2_readStream_33 : decode cX2_readStream 33 = .ok (.invokevirtual 109, 3) := by decide +kernel
theorem dX2_readStream_36 : decode cX2_readStream 36 = .ok (.ifCond .ne 9, 3) := by decide +kernel
theorem dX2_readStream_39 : decode cX2_readStream 39 = .ok (.aload_n 0, 1) := by decide +kernel
theorem dX2_readStream_40 : decode cX2_readStream 40 = .ok (.iconst 1, 1) := by decide +kernel
theorem dX2_readStream_41 : decode cX2_readStream 41 = .ok (.invokevirtual 77, 3) := by decide +kernel
theorem dX2_readStream_44 : decode cX2_readStream 44 = .ok (.ireturn, 1) := by decide +kernel
theorem dX2_readStream_45 : decode cX2_readStream 45 = .ok (.aload_n 0, 1) := by decide +kernel
theorem dX2_readStream_46 : decode cX2_readStream 46 = .ok (.aload_n 0, 1) := by decide +kernel
theorem dX2_readStream_47 : decode cX2_readStream 47 = .ok (.getfield 31, 3) := by decide +kernel
theorem dX2_readStream_50 : decode cX2_readStream 50 = .ok (.invokevirtual 112, 3) := by decide +kernel
theorem dX2_readStream_53 : decode cX2_readStream 53 = .ok (.iconst (-1), 1) := by decide +kernel
theorem dX2_readStream_54 : decode cX2_readStream 54 = .ok (.if_icmp .eq 9, 3) := by decide +kernel
theorem dX2_readStream_57 : decode cX2_readStream 57 = .ok (.aload_n 0, 1) := by decide +kernel
theorem dX2_readStream_58 : decode cX2_readStream 58 = .ok (.iconst 3, 1) := by decide +kernel
theorem dX2_readStream_59 : decode cX2_readStream 59 = .ok (.invokevirtual 77, 3) := by decide +kernel
theorem dX2_readStream_62 : decode cX2_readStream 62 = .ok (.ireturn, 1) := by decide +kernel
theorem dX2_readStream_63 : decode cX2_readStream 63 = .ok (.aload_n 0, 1) := by decide +kernel
theorem dX2_readStream_64 : decode cX2_readStream 64 = .ok (.getfield 46, 3) := by decide +kernel
theorem dX2_readStream_67 : decode cX2_readStream 67 = .ok (.aload_n 0, 1) := by decide +kernel
theorem dX2_readStream_68 : decode cX2_readStream 68 = .ok (.getfield 43, 3) := by decide +kernel
theorem dX2_readStream_71 : decode cX2_readStream 71 = .ok (.aload_n 0, 1) := by decide +kernel
theorem dX2_readStream_72 : decode cX2_readStream 72 = .ok (.getfield 31, 3) := by decide +kernel
theorem dX2_readStream_75 : decode cX2_readStream 75 = .ok (.iastore, 1) := by decide +kernel
theorem dX2_readStream_76 : decode cX2_readStream 76 = .ok (.aload_n 0, 1) := by decide +kernel
theorem dX2_readStream_77 : decode cX2_readStream 77 = .ok (.invokevirtual 67, 3) := by decide +kernel
theorem dX2_readStream_80 : decode cX2_readStream 80 = .ok (.aload_n 0, 1) := by decide +kernel
theorem dX2_readStream_81 : decode cX2_readStream 81 = .ok (.ldc 116, 2) := by decide +kernel
theorem dX2_readStream_83 : decode cX2_readStream 83 = .ok (.invokevirtual 102, 3) := by decide +kernel
theorem dX2_readStream_86 : decode cX2_readStream 86 = .ok (.ifCond .ne 5, 3) := by decide +kernel
theorem dX2_readStream_89 : decode cX2_readStream 89 = .ok (.iconst 0, 1) := by decide +kernel
theorem dX2_readStream_90 : decode cX2_readStream 90 = .ok (.ireturn, 1) := by decide +kernel
theorem dX2_readStream_91 : decode cX2_readStream 91 = .ok (.aload_n 0, 1) := by decide +kernel
theorem dX2_readStream_92 : decode cX2_readStream 92 = .ok (.invokevirtual 67, 3) := by decide +kernel
theorem dX2_readStream_95 : decode cX2_readStream 95 = .ok (.aload_n 0, 1) := by decide +kernel
theorem dX2_readStream_96 : decode cX2_readStream 96 = .ok (.iconst 1, 1) := by decide +kernel
theorem dX2_readStream_97 : decode cX2_readStream 97 = .ok (.bipush 60, 2) := by decide +kernel
theorem dX2_readStream_99 : decode cX2_readStream 99 = .ok (.invokevirtual 105, 3) := by decide +kernel
theorem dX2_readStream_102 : decode cX2_readStream 102 = .ok (.ifCond .ne 5, 3) := by decide +kernel
theorem dX2_readStream_105 : decode cX2_readStream 105 = .ok (.iconst 0, 1) := by decide +kernel
theorem dX2_readStream_106 : decode cX2_readStream 106 = .ok (.ireturn, 1) := by decide +kernel
theorem dX2_readStream_107 : decode cX2_readStream 107 = .ok (.aload_n 0, 1) := by decide +kernel
theorem dX2_readStream_108 : decode cX2_readStream 108 = .ok (.getfield 49, 3) := by decide +kernel
theorem dX2_readStream_111 : decode cX2_readStream 111 = .ok (.aload_n 0, 1) := by decide +kernel
theorem dX2_readStream_112 : decode cX2_readStream 112 = .ok (.getfield 43, 3) := by decide +kernel
theorem dX2_readStream_115 : decode cX2_readStream 115 = .ok (.aload_n 0, 1) := by decide +kernel
theorem dX2_readStream_116 : decode cX2_readStream 116 = .ok (.getfield 31, 3) := by decide +kernel
theorem dX2_readStream_119 : decode cX2_readStream 119 = .ok (.iastore, 1) := by decide +kernel
theorem dX2_readStream_120 : decode cX2_readStream 120 = .ok (.aload_n 0, 1) := by decide +kernel
theorem dX2_readStream_121 : decode cX2_readStream 121 = .ok (.dup, 1) := by decide +kernel
theorem dX2_readStream_122 : decode cX2_readStream 122 = .ok (.getfield 43, 3) := by decide +kernel
theorem dX2_readStream_125 : decode cX2_readStream 125 = .ok (.iconst 1, 1) := by decide +kernel
theorem dX2_readStream_126 : decode cX2_readStream 126 = .ok (.iadd, 1) := by decide +kernel
theorem dX2_readStream_127 : decode cX2_readStream 127 = .ok (.putfield 43, 3) := by decide +kernel
theorem dX2_readStream_130 : decode cX2_readStream 130 = .ok (.aload_n 0, 1) := by decide +kernel
theorem dX2_readStream_131 : decode cX2_readStream 131 = .ok (.invokevirtual 67, 3) := by decide +kernel
theorem dX2_readStream_134 : decode cX2_readStream 134 = .ok (.iconst 1, 1) := by decide +kernel
theorem dX2_readStream_135 : decode cX2_readStream 135 = .ok (.ireturn, 1) := by decide +kernel
theorem dX2_readPush_0 : decode cX2_readPush 0 = .ok (.aload_n 0, 1) := by decide +kernel
theorem dX2_readPush_1 : decode cX2_readPush 1 = .ok (.getfield 40, 3) := by decide +kernel
theorem dX2_readPush_4 : decode cX2_readPush 4 = .ok (.ifCond .ne 10, 3) := by decide +kernel
theorem dX2_readPush_7 : decode cX2_readPush 7 = .ok (.aload_n 0, 1) := by decide +kernel
theorem dX2_readPush_8 : decode cX2_readPush 8 = .ok (.bipush 6, 2) := by decide +kernel
theorem dX2_readPush_10 : decode cX2_readPush 10 = .ok (.invokevirtual 77, 3) := by decide +kernel
theorem dX2_readPush_13 : decode cX2_readPush 13 = .ok (.ireturn, 1) := by decide +kernel
theorem dX2_readPush_14 : decode cX2_readPush 14 = .ok (.aload_n 0, 1) := by decide +kernel
theorem dX2_readPush_15 : decode cX2_readPush 15 = .ok (.invokevirtual 67, 3) := by decide +kernel
theorem dX2_readPush_18 : decode cX2_readPush 18 = .ok (.aload_n 0, 1) := by decide +kernel
theorem dX2_readPush_19 : decode cX2_readPush 19 = .ok (.invokevirtual 109, 3) := by decide +kernel
theorem dX2_readPush_22 : decode cX2_readPush 22 = .ok (.ifCond .ne 9, 3) := by decide +kernel
theorem dX2_readPush_25 : decode cX2_readPush 25 = .ok (.aload_n 0, 1) := by decide +kernel
theorem dX2_readPush_26 : decode cX2_readPush 26 = .ok (.iconst 1, 1) := by decide +kernel
theorem dX2_readPush_27 : decode cX2_readPush 27 = .ok (.invokevirtual 77, 3) := by decide +kernel
theorem dX2_readPush_30 : decode cX2_readPush 30 = .ok (.ireturn, 1) := by decide +kernel
theorem dX2_readPush_31 : decode cX2_readPush 31 = .ok (.aload_n 0, 1) := by decide +kernel
theorem dX2_readPush_32 : decode cX2_readPush 32 = .ok (.aload_n 0, 1) := by decide +kernel
theorem dX2_readPush_33 : decode cX2_readPush 33 = .ok (.getfield 31, 3) := by decide +kernel
theorem dX2_readPush_36 : decode cX2_readPush 36 = .ok (.invokevirtual 112, 3) := by decide +kernel
theorem dX2_readPush_39 : decode cX2_readPush 39 = .ok (.istore_n 1, 1) := by decide +kernel
theorem dX2_readPush_40 : decode cX2_readPush 40 = .ok (.iload_n 1, 1) := by decide +kernel
theorem dX2_readPush_41 : decode cX2_readPush 41 = .ok (.iconst (-1), 1) := by decide +kernel
theorem dX2_readPush_42 : decode cX2_readPush 42 = .ok (.if_icmp .ne 9, 3) := by decide +kernel
theorem dX2_readPush_45 : decode cX2_readPush 45 = .ok (.aload_n 0, 1) := by decide +kernel
theorem dX2_readPush_46 : decode cX2_readPush 46 = .ok (.iconst 3, 1) := by decide +kernel
theorem dX2_readPush_47 : decode cX2_readPush 47 = .ok (.invokevirtual 77, 3) := by decide +kernel
theorem dX2_readPush_50 : decode cX2_readPush 50 = .ok (.ireturn, 1) := by decide +kernel
theorem dX2_readPush_51 : decode cX2_readPush 51 = .ok (.aload_n 0, 1) := by decide +kernel
theorem dX2_readPush_52 : decode cX2_readPush 52 = .ok (.invokevirtual 67, 3) := by decide +kernel
theorem dX2_readPush_55 : decode cX2_readPush 55 = .ok (.aload_n 0, 1) := by decide +kernel
theorem dX2_readPush_56 : decode cX2_readPush 56 = .ok (.iconst 0, 1) := by decide +kernel
theorem dX2_readPush_57 : decode cX2_readPush 57 = .ok (.sipush 999, 3) := by decide +kernel
theorem dX2_readPush_60 : decode cX2_readPush 60 = .ok (.invokevirtual 105, 3) := by decide +kernel
theorem dX2_readPush_63 : decode cX2_readPush 63 = .ok (.ifCond .ne 5, 3) := by decide +kernel
theorem dX2_readPush_66 : decode cX2_readPush 66 = .ok (.iconst 0, 1) := by decide +kernel
theorem dX2_readPush_67 : decode cX2_readPush 67 = .ok (.ireturn, 1) := by decide +kernel
theorem dX2_readPush_68 : decode cX2_readPush 68 = .ok (.iconst 0, 1) := by decide +kernel
theorem dX2_readPush_69 : decode cX2_readPush 69 = .ok (.istore_n 2, 1) := by decide +kernel
theorem dX2_readPush_70 : decode cX2_readPush 70 = .ok (.iload_n 2, 1) := by decide +kernel
theorem dX2_readPush_71 : decode cX2_readPush 71 = .ok (.sipush 200, 3) := by decide +kernel
theorem dX2_readPush_74 : decode cX2_readPush 74 = .ok (.if_icmp .ge 30, 3) := by decide +kernel
theorem dX2_readPush_77 : decode cX2_readPush 77 = .ok (.aload_n 0, 1) := by decide +kernel
theorem dX2_readPush_78 : decode cX2_readPush 78 = .ok (.getfield 22, 3) := by decide +kernel
theorem dX2_readPush_81 : decode cX2_readPush 81 = .ok (.iconst 3, 1) := by decide +kernel
theorem dX2_readPush_82 : decode cX2_readPush 82 = .ok (.if_icmp .ne 22, 3) := by decide +kernel
theorem dX2_readPush_85 : decode cX2_readPush 85 = .ok (.aload_n 0, 1) := by decide +kernel
theorem dX2_readPush_86 : decode cX2_readPush 86 = .ok (.iload_n 1, 1) := by decide +kernel
theorem dX2_readPush_87 : decode cX2_readPush 87 = .ok (.aload_n 0, 1) := by decide +kernel
theorem dX2_readPush_88 : decode cX2_readPush 88 = .ok (.getfield 31, 3) := by decide +kernel
theorem dX2_readPush_91 : decode cX2_readPush 91 = .ok (.invokevirtual 118, 3) := by decide +kernel
theorem dX2_readPush_94 : decode cX2_readPush 94 = .ok (.aload_n 0, 1) := by decide +kernel
theorem dX2_readPush_95 : decode cX2_readPush 95 = .ok (.invokevirtual 67, 3) := by decide +kernel
theorem dX2_readPush_98 : decode cX2_readPush 98 = .ok (.iinc 2 1, 3) := by decide +kernel
theorem dX2_readPush_101 : decode cX2_readPush 101 = .ok (.goto (-31), 3) := by decide +kernel
theorem dX2_readPush_104 : decode cX2_readPush 104 = .ok (.iconst 1, 1) := by decide +kernel
theorem dX2_readPush_105 : decode cX2_readPush 105 = .ok (.ireturn, 1) := by decide +kernel
theorem dX2_keepPush_0 : decode cX2_keepPush 0 = .ok (.aload_n 0, 1) := by decide +kernel
theorem dX2_keepPush_1 : decode cX2_keepPush 1 = .ok (.getfield 52, 3) := by decide +kernel
theorem dX2_keepPush_4 : decode cX2_keepPush 4 = .ok (.sipush 200, 3) := by decide +kernel
theorem dX2_keepPush_7 : decode cX2_keepPush 7 = .ok (.if_icmp .ge 33, 3) := by decide +kernel
theorem dX2_keepPush_10 : decode cX2_keepPush 10 = .ok (.aload_n 0, 1) := by decide +kernel
theorem dX2_keepPush_11 : decode cX2_keepPush 11 = .ok (.getfield 55, 3) := by decide +kernel
theorem dX2_keepPush_14 : decode cX2_keepPush 14 = .ok (.aload_n 0, 1) := by decide +kernel
theorem dX2_keepPush_15 : decode cX2_keepPush 15 = .ok (.getfield 52, 3) := by decide +kernel
theorem dX2_keepPush_18 : decode cX2_keepPush 18 = .ok (.iload_n 1, 1) := by decide +kernel
theorem dX2_keepPush_19 : decode cX2_keepPush 19 = .ok (.iastore, 1) := by decide +kernel
theorem dX2_keepPush_20 : decode cX2_keepPush 20 = .ok (.aload_n 0, 1) := by decide +kernel
theorem dX2_keepPush_21 : decode cX2_keepPush 21 = .ok (.getfield 58, 3) := by decide +kernel
theorem dX2_keepPush_24 : decode cX2_keepPush 24 = .ok (.aload_n 0, 1) := by decide +kernel
theorem dX2_keepPush_25 : decode cX2_keepPush 25 = .ok (.getfield 52, 3) := by decide +kernel
theorem dX2_keepPush_28 : decode cX2_keepPush 28 = .ok (.iload_n 2, 1) := by decide +kernel
theorem dX2_keepPush_29 : decode cX2_keepPush 29 = .ok (.iastore, 1) := by decide +kernel
theorem dX2_keepPush_30 : decode cX2_keepPush 30 = .ok (.aload_n 0, 1) := by decide +kernel
theorem dX2_keepPush_31 : decode cX2_keepPush 31 = .ok (.dup, 1) := by decide +kernel
theorem dX2_keepPush_32 : decode cX2_keepPush 32 = .ok (.getfield 52, 3) := by decide +kernel
theorem dX2_keepPush_35 : decode cX2_keepPush 35 = .ok (.iconst 1, 1) := by decide +kernel
theorem dX2_keepPush_36 : decode cX2_keepPush 36 = .ok (.iadd, 1) := by decide +kernel
theorem dX2_keepPush_37 : decode cX2_keepPush 37 = .ok (.putfield 52, 3) := by decide +kernel
theorem dX2_keepPush_40 : decode cX2_keepPush 40 = .ok (.return_, 1) := by decide +kernel
theorem dX2_wantsWord_0 : decode cX2_wantsWord 0 = .ok (.aload_n 0, 1) := by decide +kernel
theorem dX2_wantsWord_1 : decode cX2_wantsWord 1 = .ok (.aload_n 1, 1) := by decide +kernel
theorem dX2_wantsWord_2 : decode cX2_wantsWord 2 = .ok (.invokevirtual 83, 3) := by decide +kernel
theorem dX2_wantsWord_5 : decode cX2_wantsWord 5 = .ok (.ifCond .ne 11, 3) := by decide +kernel
theorem dX2_wantsWord_8 : decode cX2_wantsWord 8 = .ok (.aload_n 0, 1) := by decide +kernel
theorem dX2_wantsWord_9 : decode cX2_wantsWord 9 = .ok (.iconst 1, 1) := by decide +kernel
theorem dX2_wantsWord_10 : decode cX2_wantsWord 10 = .ok (.invokevirtual 77, 3) := by decide +kernel
theorem dX2_wantsWord_13 : decode cX2_wantsWord 13 = .ok (.ifCond .eq 7, 3) := by decide +kernel
theorem dX2_wantsWord_16 : decode cX2_wantsWord 16 = .ok (.iconst 1, 1) := by decide +kernel
theorem dX2_wantsWord_17 : decode cX2_wantsWord 17 = .ok (.goto 4, 3) := by decide +kernel
theorem dX2_wantsWord_20 : decode cX2_wantsWord 20 = .ok (.iconst 0, 1) := by decide +kernel
theorem dX2_wantsWord_21 : decode cX2_wantsWord 21 = .ok (.ireturn, 1) := by decide +kernel
theorem dX2_wantsWhole_0 : decode cX2_wantsWhole 0 = .ok (.aload_n 0, 1) := by decide +kernel
theorem dX2_wantsWhole_1 : decode cX2_wantsWhole 1 = .ok (.getfield 22, 3) := by decide +kernel
theorem dX2_wantsWhole_4 : decode cX2_wantsWhole 4 = .ok (.iconst 3, 1) := by decide +kernel
theorem dX2_wantsWhole_5 : decode cX2_wantsWhole 5 = .ok (.if_icmp .eq 9, 3) := by decide +kernel
theorem dX2_wantsWhole_8 : decode cX2_wantsWhole 8 = .ok (.aload_n 0, 1) := by decide +kernel
theorem dX2_wantsWhole_9 : decode cX2_wantsWhole 9 = .ok (.iconst 1, 1) := by decide +kernel
theorem dX2_wantsWhole_10 : decode cX2_wantsWhole 10 = .ok (.invokevirtual 77, 3) := by decide +kernel
theorem dX2_wantsWhole_13 : decode cX2_wantsWhole 13 = .ok (.ireturn, 1) := by decide +kernel
theorem dX2_wantsWhole_14 : decode cX2_wantsWhole 14 = .ok (.aload_n 0, 1) := by decide +kernel
theorem dX2_wantsWhole_15 : decode cX2_wantsWhole 15 = .ok (.getfield 31, 3) := by decide +kernel
theorem dX2_wantsWhole_18 : decode cX2_wantsWhole 18 = .ok (.iload_n 1, 1) := by decide +kernel
theorem dX2_wantsWhole_19 : decode cX2_wantsWhole 19 = .ok (.if_icmp .lt 11, 3) := by decide +kernel
theorem dX2_wantsWhole_22 : decode cX2_wantsWhole 22 = .ok (.aload_n 0, 1) := by decide +kernel
theorem dX2_wantsWhole_23 : decode cX2_wantsWhole 23 = .ok (.getfield 31, 3) := by decide +kernel
theorem dX2_wantsWhole_26 : decode cX2_wantsWhole 26 = .ok (.iload_n 2, 1) := by decide +kernel
theorem dX2_wantsWhole_27 : decode cX2_wantsWhole 27 = .ok (.if_icmp .le 11, 3) := by decide +kernel
theorem dX2_wantsWhole_30 : decode cX2_wantsWhole 30 = .ok (.aload_n 0, 1) := by decide +kernel
theorem dX2_wantsWhole_31 : decode cX2_wantsWhole 31 = .ok (.iconst 2, 1) := by decide +kernel
theorem dX2_wantsWhole_32 : decode cX2_wantsWhole 32 = .ok (.invokevirtual 77, 3) := by decide +kernel
theorem dX2_wantsWhole_35 : decode cX2_wantsWhole 35 = .ok (.ifCond .eq 7, 3) := by decide +kernel
theorem dX2_wantsWhole_38 : decode cX2_wantsWhole 38 = .ok (.iconst 1, 1) := by decide +kernel
theorem dX2_wantsWhole_39 : decode cX2_wantsWhole 39 = .ok (.goto 4, 3) := by decide +kernel
theorem dX2_wantsWhole_42 : decode cX2_wantsWhole 42 = .ok (.iconst 0, 1) := by decide +kernel
theorem dX2_wantsWhole_43 : decode cX2_wantsWhole 43 = .ok (.ireturn, 1) := by decide +kernel
theorem dX2_isWord_0 : decode cX2_isWord 0 = .ok (.aload_n 0, 1) := by decide +kernel
theorem dX2_isWord_1 : decode cX2_isWord 1 = .ok (.getfield 22, 3) := by decide +kernel
theorem dX2_isWord_4 : decode cX2_isWord 4 = .ok (.iconst 2, 1) := by decide +kernel
theorem dX2_isWord_5 : decode cX2_isWord 5 = .ok (.if_icmp .ne 19, 3) := by decide +kernel
theorem dX2_isWord_8 : decode cX2_isWord 8 = .ok (.aload_n 0, 1) := by decide +kernel
theorem dX2_isWord_9 : decode cX2_isWord 9 = .ok (.getfield 28, 3) := by decide +kernel
theorem dX2_isWord_12 : decode cX2_isWord 12 = .ok (.aload_n 0, 1) := by decide +kernel
theorem dX2_isWord_13 : decode cX2_isWord 13 = .ok (.getfield 25, 3) := by decide +kernel
theorem dX2_isWord_16 : decode cX2_isWord 16 = .ok (.isub, 1) := by decide +kernel
theorem dX2_isWord_17 : decode cX2_isWord 17 = .ok (.aload_n 1, 1) := by decide +kernel
theorem dX2_isWord_18 : decode cX2_isWord 18 = .ok (.invokevirtual 122, 3) := by decide +kernel
theorem dX2_isWord_21 : decode cX2_isWord 21 = .ok (.if_icmp .eq 5, 3) := by decide +kernel
theorem dX2_isWord_24 : decode cX2_isWord 24 = .ok (.iconst 0, 1) := by decide +kernel
theorem dX2_isWord_25 : decode cX2_isWord 25 = .ok (.ireturn, 1) := by decide +kernel
theorem dX2_isWord_26 : decode cX2_isWord 26 = .ok (.iconst 0, 1) := by decide +kernel
theorem dX2_isWord_27 : decode cX2_isWord 27 = .ok (.istore_n 2, 1) := by decide +kernel
theorem dX2_isWord_28 : decode cX2_isWord 28 = .ok (.iload_n 2, 1) := by decide +kernel
theorem dX2_isWord_29 : decode cX2_isWord 29 = .ok (.aload_n 1, 1) := by decide +kernel
theorem dX2_isWord_30 : decode cX2_isWord 30 = .ok (.invokevirtual 122, 3) := by decide +kernel
theorem dX2_isWord_33 : decode cX2_isWord 33 = .ok (.if_icmp .ge 30, 3) := by decide +kernel
theorem dX2_isWord_36 : decode cX2_isWord 36 = .ok (.aload_n 0, 1) := by decide +kernel
theorem dX2_isWord_37 : decode cX2_isWord 37 = .ok (.getfield 9, 3) := by decide +kernel
theorem dX2_isWord_40 : decode cX2_isWord 40 = .ok (.aload_n 0, 1) := by decide +kernel
theorem dX2_isWord_41 : decode cX2_isWord 41 = .ok (.getfield 25, 3) := by decide +kernel
theorem dX2_isWord_44 : decode cX2_isWord 44 = .ok (.iload_n 2, 1) := by decide +kernel
theorem dX2_isWord_45 : decode cX2_isWord 45 = .ok (.iadd, 1) := by decide +kernel
theorem dX2_isWord_46 : decode cX2_isWord 46 = .ok (.iaload, 1) := by decide +kernel
theorem dX2_isWord_47 : decode cX2_isWord 47 = .ok (.aload_n 1, 1) := by decide +kernel
theorem dX2_isWord_48 : decode cX2_isWord 48 = .ok (.iload_n 2, 1) := by decide +kernel
theorem dX2_isWord_49 : decode cX2_isWord 49 = .ok (.invokevirtual 128, 3) := by decide +kernel
theorem dX2_isWord_52 : decode cX2_isWord 52 = .ok (.if_icmp .eq 5, 3) := by decide +kernel
theorem dX2_isWord_55 : decode cX2_isWord 55 = .ok (.iconst 0, 1) := by decide +kernel
theorem dX2_isWord_56 : decode cX2_isWord 56 = .ok (.ireturn, 1) := by decide +kernel
theorem dX2_isWord_57 : decode cX2_isWord 57 = .ok (.iinc 2 1, 3) := by decide +kernel
theorem dX2_isWord_60 : decode cX2_isWord 60 = .ok (.goto (-32), 3) := by decide +kernel
theorem dX2_isWord_63 : decode cX2_isWord 63 = .ok (.iconst 1, 1) := by decide +kernel
theorem dX2_isWord_64 : decode cX2_isWord 64 = .ok (.ireturn, 1) := by decide +kernel
theorem dX2_isName_0 : decode cX2_isName 0 = .ok (.aload_n 0, 1) := by decide +kernel
theorem dX2_isName_1 : decode cX2_isName 1 = .ok (.getfield 22, 3) := by decide +kernel
theorem dX2_isName_4 : decode cX2_isName 4 = .ok (.iconst 2, 1) := by decide +kernel
theorem dX2_isName_5 : decode cX2_isName 5 = .ok (.if_icmp .ne 34, 3) := by decide +kernel
theorem dX2_isName_8 : decode cX2_isName 8 = .ok (.aload_n 0, 1) := by decide +kernel
theorem dX2_isName_9 : decode cX2_isName 9 = .ok (.ldc 81, 2) := by decide +kernel
theorem dX2_isName_11 : decode cX2_isName 11 = .ok (.invokevirtual 83, 3) := by decide +kernel
theorem dX2_isName_14 : decode cX2_isName 14 = .ok (.ifCond .ne 25, 3) := by decide +kernel
theorem dX2_isName_17 : decode cX2_isName 17 = .ok (.aload_n 0, 1) := by decide +kernel
theorem dX2_isName_18 : decode cX2_isName 18 = .ok (.ldc 90, 2) := by decide +kernel
theorem dX2_isName_20 : decode cX2_isName 20 = .ok (.invokevirtual 83, 3) := by decide +kernel
theorem dX2_isName_23 : decode cX2_isName 23 = .ok (.ifCond .ne 16, 3) := by decide +kernel
theorem dX2_isName_26 : decode cX2_isName 26 = .ok (.aload_n 0, 1) := by decide +kernel
theorem dX2_isName_27 : decode cX2_isName 27 = .ok (.ldc 95, 2) := by decide +kernel
theorem dX2_isName_29 : decode cX2_isName 29 = .ok (.invokevirtual 83, 3) := by decide +kernel
theorem dX2_isName_32 : decode cX2_isName 32 = .ok (.ifCond .ne 7, 3) := by decide +kernel
theorem dX2_isName_35 : decode cX2_isName 35 = .ok (.iconst 1, 1) := by decide +kernel
theorem dX2_isName_36 : decode cX2_isName 36 = .ok (.goto 4, 3) := by decide +kernel
theorem dX2_isName_39 : decode cX2_isName 39 = .ok (.iconst 0, 1) := by decide +kernel
theorem dX2_isName_40 : decode cX2_isName 40 = .ok (.ireturn, 1) := by decide +kernel
theorem dX2_streamNamed_0 : decode cX2_streamNamed 0 = .ok (.iconst 0, 1) := by decide +kernel
theorem dX2_streamNamed_1 : decode cX2_streamNamed 1 = .ok (.istore_n 2, 1) := by decide +kernel
theorem dX2_streamNamed_2 : decode cX2_streamNamed 2 = .ok (.iload_n 2, 1) := by decide +kernel
theorem dX2_streamNamed_3 : decode cX2_streamNamed 3 = .ok (.aload_n 0, 1) := by decide +kernel
theorem dX2_streamNamed_4 : decode cX2_streamNamed 4 = .ok (.getfield 43, 3) := by decide +kernel
theorem dX2_streamNamed_7 : decode cX2_streamNamed 7 = .ok (.if_icmp .ge 21, 3) := by decide +kernel
theorem dX2_streamNamed_10 : decode cX2_streamNamed 10 = .ok (.aload_n 0, 1) := by decide +kernel
theorem dX2_streamNamed_11 : decode cX2_streamNamed 11 = .ok (.getfield 46, 3) := by decide +kernel
theorem dX2_streamNamed_14 : decode cX2_streamNamed 14 = .ok (.iload_n 2, 1) := by decide +kernel
theorem dX2_streamNamed_15 : decode cX2_streamNamed 15 = .ok (.iaload, 1) := by decide +kernel
theorem dX2_streamNamed_16 : decode cX2_streamNamed 16 = .ok (.iload_n 1, 1) := by decide +kernel
theorem dX2_streamNamed_17 : decode cX2_streamNamed 17 = .ok (.if_icmp .ne 5, 3) := by decide +kernel
theorem dX2_streamNamed_20 : decode cX2_streamNamed 20 = .ok (.iload_n 2, 1) := by decide +kernel
theorem dX2_streamNamed_21 : decode cX2_streamNamed 21 = .ok (.ireturn, 1) := by decide +kernel
theorem dX2_streamNamed_22 : decode cX2_streamNamed 22 = .ok (.iinc 2 1, 3) := by decide +kernel
theorem dX2_streamNamed_25 : decode cX2_streamNamed 25 = .ok (.goto (-23), 3) := by decide +kernel
theorem dX2_streamNamed_28 : decode cX2_streamNamed 28 = .ok (.iconst (-1), 1) := by decide +kernel
theorem dX2_streamNamed_29 : decode cX2_streamNamed 29 = .ok (.ireturn, 1) := by decide +kernel
theorem dX2_fail_0 : decode cX2_fail 0 = .ok (.aload_n 0, 1) := by decide +kernel
theorem dX2_fail_1 : decode cX2_fail 1 = .ok (.iload_n 1, 1) := by decide +kernel
theorem dX2_fail_2 : decode cX2_fail 2 = .ok (.putfield 34, 3) := by decide +kernel
theorem dX2_fail_5 : decode cX2_fail 5 = .ok (.aload_n 0, 1) := by decide +kernel
theorem dX2_fail_6 : decode cX2_fail 6 = .ok (.aload_n 0, 1) := by decide +kernel
theorem dX2_fail_7 : decode cX2_fail 7 = .ok (.getfield 25, 3) := by decide +kernel
theorem dX2_fail_10 : decode cX2_fail 10 = .ok (.putfield 37, 3) := by decide +kernel
theorem dX2_fail_13 : decode cX2_fail 13 = .ok (.iconst 0, 1) := by decide +kernel
theorem dX2_fail_14 : decode cX2_fail 14 = .ok (.ireturn, 1) := by decide +kernel
theorem dX2_step_0 : decode cX2_step 0 = .ok (.aload_n 0, 1) := by decide +kernel
theorem dX2_step_1 : decode cX2_step 1 = .ok (.aload_n 0, 1) := by decide +kernel
theorem dX2_step_2 : decode cX2_step 2 = .ok (.getfield 28, 3) := by decide +kernel
theorem dX2_step_5 : decode cX2_step 5 = .ok (.putfield 25, 3) := by decide +kernel
theorem dX2_step_8 : decode cX2_step 8 = .ok (.aload_n 0, 1) := by decide +kernel
theorem dX2_step_9 : decode cX2_step 9 = .ok (.getfield 25, 3) := by decide +kernel
theorem dX2_step_12 : decode cX2_step 12 = .ok (.aload_n 0, 1) := by decide +kernel
theorem dX2_step_13 : decode cX2_step 13 = .ok (.getfield 19, 3) := by decide +kernel
theorem dX2_step_16 : decode cX2_step 16 = .ok (.if_icmp .ge 30, 3) := by decide +kernel
theorem dX2_step_19 : decode cX2_step 19 = .ok (.aload_n 0, 1) := by decide +kernel
theorem dX2_step_20 : decode cX2_step 20 = .ok (.getfield 9, 3) := by decide +kernel
theorem dX2_step_23 : decode cX2_step 23 = .ok (.aload_n 0, 1) := by decide +kernel
theorem dX2_step_24 : decode cX2_step 24 = .ok (.getfield 25, 3) := by decide +kernel
theorem dX2_step_27 : decode cX2_step 27 = .ok (.iaload, 1) := by decide +kernel
theorem dX2_step_28 : decode cX2_step 28 = .ok (.bipush 32, 2) := by decide +kernel
theorem dX2_step_30 : decode cX2_step 30 = .ok (.if_icmp .ne 16, 3) := by decide +kernel
theorem dX2_step_33 : decode cX2_step 33 = .ok (.aload_n 0, 1) := by decide +kernel
theorem dX2_step_34 : decode cX2_step 34 = .ok (.dup, 1) := by decide +kernel
theorem dX2_step_35 : decode cX2_step 35 = .ok (.getfield 25, 3) := by decide +kernel
theorem dX2_step_38 : decode cX2_step 38 = .ok (.iconst 1, 1) := by decide +kernel
theorem dX2_step_39 : decode cX2_step 39 = .ok (.iadd, 1) := by decide +kernel
theorem dX2_step_40 : decode cX2_step 40 = .ok (.putfield 25, 3) := by decide +kernel
theorem dX2_step_43 : decode cX2_step 43 = .ok (.goto (-35), 3) := by decide +kernel
theorem dX2_step_46 : decode cX2_step 46 = .ok (.aload_n 0, 1) := by decide +kernel
theorem dX2_step_47 : decode cX2_step 47 = .ok (.aload_n 0, 1) := by decide +kernel
theorem dX2_step_48 : decode cX2_step 48 = .ok (.getfield 25, 3) := by decide +kernel
theorem dX2_step_51 : decode cX2_step 51 = .ok (.putfield 28, 3) := by decide +kernel
theorem dX2_step_54 : decode cX2_step 54 = .ok (.aload_n 0, 1) := by decide +kernel
theorem dX2_step_55 : decode cX2_step 55 = .ok (.iconst 0, 1) := by decide +kernel
theorem dX2_step_56 : decode cX2_step 56 = .ok (.putfield 31, 3) := by decide +kernel
theorem dX2_step_59 : decode cX2_step 59 = .ok (.aload_n 0, 1) := by decide +kernel
theorem dX2_step_60 : decode cX2_step 60 = .ok (.getfield 25, 3) := by decide +kernel
theorem dX2_step_63 : decode cX2_step 63 = .ok (.aload_n 0, 1) := by decide +kernel
theorem dX2_step_64 : decode cX2_step 64 = .ok (.getfield 19, 3) := by decide +kernel
theorem dX2_step_67 : decode cX2_step 67 = .ok (.if_icmp .lt 11, 3) := by decide +kernel
theorem dX2_step_70 : decode cX2_step 70 = .ok (.aload_n 0, 1) := by decide +kernel
theorem dX2_step_71 : decode cX2_step 71 = .ok (.iconst 0, 1) := by decide +kernel
theorem dX2_step_72 : decode cX2_step 72 = .ok (.putfield 22, 3) := by decide +kernel
theorem dX2_step_75 : decode cX2_step 75 = .ok (.goto 84, 3) := by decide +kernel
theorem dX2_step_78 : decode cX2_step 78 = .ok (.aload_n 0, 1) := by decide +kernel
theorem dX2_step_79 : decode cX2_step 79 = .ok (.getfield 9, 3) := by decide +kernel
theorem dX2_step_82 : decode cX2_step 82 = .ok (.aload_n 0, 1) := by decide +kernel
theorem dX2_step_83 : decode cX2_step 83 = .ok (.getfield 25, 3) := by decide +kernel
theorem dX2_step_86 : decode cX2_step 86 = .ok (.iaload, 1) := by decide +kernel
theorem dX2_step_87 : decode cX2_step 87 = .ok (.bipush 59, 2) := by decide +kernel
theorem dX2_step_89 : decode cX2_step 89 = .ok (.if_icmp .ne 21, 3) := by decide +kernel
theorem dX2_step_92 : decode cX2_step 92 = .ok (.aload_n 0, 1) := by decide +kernel
theorem dX2_step_93 : decode cX2_step 93 = .ok (.iconst 4, 1) := by decide +kernel
theorem dX2_step_94 : decode cX2_step 94 = .ok (.putfield 22, 3) := by decide +kernel
theorem dX2_step_97 : decode cX2_step 97 = .ok (.aload_n 0, 1) := by decide +kernel
theorem dX2_step_98 : decode cX2_step 98 = .ok (.dup, 1) := by decide +kernel
theorem dX2_step_99 : decode cX2_step 99 = .ok (.getfield 28, 3) := by decide +kernel
theorem dX2_step_102 : decode cX2_step 102 = .ok (.iconst 1, 1) := by decide +kernel
theorem dX2_step_103 : decode cX2_step 103 = .ok (.iadd, 1) := by decide +kernel
theorem dX2_step_104 : decode cX2_step 104 = .ok (.putfield 28, 3) := by decide +kernel
theorem dX2_step_107 : decode cX2_step 107 = .ok (.goto 52, 3) := by decide +kernel
theorem dX2_step_110 : decode cX2_step 110 = .ok (.aload_n 0, 1) := by decide +kernel
theorem dX2_step_111 : decode cX2_step 111 = .ok (.getfield 9, 3) := by decide +kernel
theorem dX2_step_114 : decode cX2_step 114 = .ok (.aload_n 0, 1) := by decide +kernel
theorem dX2_step_115 : decode cX2_step 115 = .ok (.getfield 25, 3) := by decide +kernel
theorem dX2_step_118 : decode cX2_step 118 = .ok (.iaload, 1) := by decide +kernel
theorem dX2_step_119 : decode cX2_step 119 = .ok (.invokestatic 132, 3) := by decide +kernel
theorem dX2_step_122 : decode cX2_step 122 = .ok (.ifCond .eq 10, 3) := by decide +kernel
theorem dX2_step_125 : decode cX2_step 125 = .ok (.aload_n 0, 1) := by decide +kernel
theorem dX2_step_126 : decode cX2_step 126 = .ok (.invokevirtual 135, 3) := by decide +kernel
theorem dX2_step_129 : decode cX2_step 129 = .ok (.goto 30, 3) := by decide +kernel
theorem dX2_step_132 : decode cX2_step 132 = .ok (.aload_n 0, 1) := by decide +kernel
theorem dX2_step_133 : decode cX2_step 133 = .ok (.getfield 9, 3) := by decide +kernel
theorem dX2_step_136 : decode cX2_step 136 = .ok (.aload_n 0, 1) := by decide +kernel
theorem dX2_step_137 : decode cX2_step 137 = .ok (.getfield 25, 3) := by decide +kernel
theorem dX2_step_140 : decode cX2_step 140 = .ok (.iaload, 1) := by decide +kernel
theorem dX2_step_141 : decode cX2_step 141 = .ok (.invokestatic 138, 3) := by decide +kernel
theorem dX2_step_144 : decode cX2_step 144 = .ok (.ifCond .eq 10, 3) := by decide +kernel
theorem dX2_step_147 : decode cX2_step 147 = .ok (.aload_n 0, 1) := by decide +kernel
theorem dX2_step_148 : decode cX2_step 148 = .ok (.invokevirtual 141, 3) := by decide +kernel
theorem dX2_step_151 : decode cX2_step 151 = .ok (.goto 8, 3) := by decide +kernel
theorem dX2_step_154 : decode cX2_step 154 = .ok (.aload_n 0, 1) := by decide +kernel
theorem dX2_step_155 : decode cX2_step 155 = .ok (.iconst 1, 1) := by decide +kernel
theorem dX2_step_156 : decode cX2_step 156 = .ok (.putfield 22, 3) := by decide +kernel
theorem dX2_step_159 : decode cX2_step 159 = .ok (.return_, 1) := by decide +kernel
theorem dX2_stepOverWord_0 : decode cX2_stepOverWord 0 = .ok (.aload_n 0, 1) := by decide +kernel
theorem dX2_stepOverWord_1 : decode cX2_stepOverWord 1 = .ok (.getfield 28, 3) := by decide +kernel
theorem dX2_stepOverWord_4 : decode cX2_stepOverWord 4 = .ok (.aload_n 0, 1) := by decide +kernel
theorem dX2_stepOverWord_5 : decode cX2_stepOverWord 5 = .ok (.getfield 19, 3) := by decide +kernel
theorem dX2_stepOverWord_8 : decode cX2_stepOverWord 8 = .ok (.if_icmp .ge 57, 3) := by decide +kernel
theorem dX2_stepOverWord_11 : decode cX2_stepOverWord 11 = .ok (.aload_n 0, 1) := by decide +kernel
theorem dX2_stepOverWord_12 : decode cX2_stepOverWord 12 = .ok (.getfield 9, 3) := by decide +kernel
theorem dX2_stepOverWord_15 : decode cX2_stepOverWord 15 = .ok (.aload_n 0, 1) := by decide +kernel
theorem dX2_stepOverWord_16 : decode cX2_stepOverWord 16 = .ok (.getfield 28, 3) := by decide +kernel
theorem dX2_stepOverWord_19 : decode cX2_stepOverWord 19 = .ok (.iaload, 1) := by decide +kernel
theorem dX2_stepOverWord_20 : decode cX2_stepOverWord 20 = .ok (.invokestatic 132, 3) := by decide +kernel
theorem dX2_stepOverWord_23 : decode cX2_stepOverWord 23 = .ok (.ifCond .eq 42, 3) := by decide +kernel
theorem dX2_stepOverWord_26 : decode cX2_stepOverWord 26 = .ok (.aload_n 0, 1) := by decide +kernel
theorem dX2_stepOverWord_27 : decode cX2_stepOverWord 27 = .ok (.aload_n 0, 1) := by decide +kernel
theorem dX2_stepOverWord_28 : decode cX2_stepOverWord 28 = .ok (.getfield 31, 3) := by decide +kernel
theorem dX2_stepOverWord_31 : decode cX2_stepOverWord 31 = .ok (.bipush 27, 2) := by decide +kernel
theorem dX2_stepOverWord_33 : decode cX2_stepOverWord 33 = .ok (.imul, 1) := by decide +kernel
theorem dX2_stepOverWord_34 : decode cX2_stepOverWord 34 = .ok (.aload_n 0, 1) := by decide +kernel
theorem dX2_stepOverWord_35 : decode cX2_stepOverWord 35 = .ok (.getfield 9, 3) := by decide +kernel
theorem dX2_stepOverWord_38 : decode cX2_stepOverWord 38 = .ok (.aload_n 0, 1) := by decide +kernel
theorem dX2_stepOverWord_39 : decode cX2_stepOverWord 39 = .ok (.getfield 28, 3) := by decide +kernel
theorem dX2_stepOverWord_42 : decode cX2_stepOverWord 42 = .ok (.iaload, 1) := by decide +kernel
theorem dX2_stepOverWord_43 : decode cX2_stepOverWord 43 = .ok (.iadd, 1) := by decide +kernel
theorem dX2_stepOverWord_44 : decode cX2_stepOverWord 44 = .ok (.bipush 97, 2) := by decide +kernel
theorem dX2_stepOverWord_46 : decode cX2_stepOverWord 46 = .ok (.isub, 1) := by decide +kernel
theorem dX2_stepOverWord_47 : decode cX2_stepOverWord 47 = .ok (.iconst 1, 1) := by decide +kernel
theorem dX2_stepOverWord_48 : decode cX2_stepOverWord 48 = .ok (.iadd, 1) := by decide +kernel
theorem dX2_stepOverWord_49 : decode cX2_stepOverWord 49 = .ok (.putfield 31, 3) := by decide +kernel
theorem dX2_stepOverWord_52 : decode cX2_stepOverWord 52 = .ok (.aload_n 0, 1) := by decide +kernel
theorem dX2_stepOverWord_53 : decode cX2_stepOverWord 53 = .ok (.dup, 1) := by decide +kernel
theorem dX2_stepOverWord_54 : decode cX2_stepOverWord 54 = .ok (.getfield 28, 3) := by decide +kernel
theorem dX2_stepOverWord_57 : decode cX2_stepOverWord 57 = .ok (.iconst 1, 1) := by decide +kernel
theorem dX2_stepOverWord_58 : decode cX2_stepOverWord 58 = .ok (.iadd, 1) := by decide +kernel
theorem dX2_stepOverWord_59 : decode cX2_stepOverWord 59 = .ok (.putfield 28, 3) := by decide +kernel
theorem dX2_stepOverWord_62 : decode cX2_stepOverWord 62 = .ok (.goto (-62), 3) := by decide +kernel
theorem dX2_stepOverWord_65 : decode cX2_stepOverWord 65 = .ok (.aload_n 0, 1) := by decide +kernel
theorem dX2_stepOverWord_66 : decode cX2_stepOverWord 66 = .ok (.aload_n 0, 1) := by decide +kernel
theorem dX2_stepOverWord_67 : decode cX2_stepOverWord 67 = .ok (.getfield 28, 3) := by decide +kernel
theorem dX2_stepOverWord_70 : decode cX2_stepOverWord 70 = .ok (.aload_n 0, 1) := by decide +kernel
theorem dX2_stepOverWord_71 : decode cX2_stepOverWord 71 = .ok (.getfield 25, 3) := by decide +kernel
theorem dX2_stepOverWord_74 : decode cX2_stepOverWord 74 = .ok (.isub, 1) := by decide +kernel
theorem dX2_stepOverWord_75 : decode cX2_stepOverWord 75 = .ok (.bipush 6, 2) := by decide +kernel
theorem dX2_stepOverWord_77 : decode cX2_stepOverWord 77 = .ok (.if_icmp .gt 7, 3) := by decide +kernel
theorem dX2_stepOverWord_80 : decode cX2_stepOverWord 80 = .ok (.iconst 2, 1) := by decide +kernel
theorem dX2_stepOverWord_81 : decode cX2_stepOverWord 81 = .ok (.goto 4, 3) := by decide +kernel
theorem dX2_stepOverWord_84 : decode cX2_stepOverWord 84 = .ok (.iconst 1, 1) := by decide +kernel
theorem dX2_stepOverWord_85 : decode cX2_stepOverWord 85 = .ok (.putfield 22, 3) := by decide +kernel
theorem dX2_stepOverWord_88 : decode cX2_stepOverWord 88 = .ok (.return_, 1) := by decide +kernel
theorem dX2_stepOverWhole_0 : decode cX2_stepOverWhole 0 = .ok (.aload_n 0, 1) := by decide +kernel
theorem dX2_stepOverWhole_1 : decode cX2_stepOverWhole 1 = .ok (.getfield 28, 3) := by decide +kernel
theorem dX2_stepOverWhole_4 : decode cX2_stepOverWhole 4 = .ok (.aload_n 0, 1) := by decide +kernel
theorem dX2_stepOverWhole_5 : decode cX2_stepOverWhole 5 = .ok (.getfield 19, 3) := by decide +kernel
theorem dX2_stepOverWhole_8 : decode cX2_stepOverWhole 8 = .ok (.if_icmp .ge 55, 3) := by decide +kernel
theorem dX2_stepOverWhole_11 : decode cX2_stepOverWhole 11 = .ok (.aload_n 0, 1) := by decide +kernel
theorem dX2_stepOverWhole_12 : decode cX2_stepOverWhole 12 = .ok (.getfield 9, 3) := by decide +kernel
theorem dX2_stepOverWhole_15 : decode cX2_stepOverWhole 15 = .ok (.aload_n 0, 1) := by decide +kernel
theorem dX2_stepOverWhole_16 : decode cX2_stepOverWhole 16 = .ok (.getfield 28, 3) := by decide +kernel
theorem dX2_stepOverWhole_19 : decode cX2_stepOverWhole 19 = .ok (.iaload, 1) := by decide +kernel
theorem dX2_stepOverWhole_20 : decode cX2_stepOverWhole 20 = .ok (.invokestatic 138, 3) := by decide +kernel
theorem dX2_stepOverWhole_23 : decode cX2_stepOverWhole 23 = .ok (.ifCond .eq 40, 3) := by decide +kernel
theorem dX2_stepOverWhole_26 : decode cX2_stepOverWhole 26 = .ok (.aload_n 0, 1) := by decide +kernel
theorem dX2_stepOverWhole_27 : decode cX2_stepOverWhole 27 = .ok (.aload_n 0, 1) := by decide +kernel
theorem dX2_stepOverWhole_28 : decode cX2_stepOverWhole 28 = .ok (.getfield 31, 3) := by decide +kernel
theorem dX2_stepOverWhole_31 : decode cX2_stepOverWhole 31 = .ok (.bipush 10, 2) := by decide +kernel
theorem dX2_stepOverWhole_33 : decode cX2_stepOverWhole 33 = .ok (.imul, 1) := by decide +kernel
theorem dX2_stepOverWhole_34 : decode cX2_stepOverWhole 34 = .ok (.aload_n 0, 1) := by decide +kernel
theorem dX2_stepOverWhole_35 : decode cX2_stepOverWhole 35 = .ok (.getfield 9, 3) := by decide +kernel
theorem dX2_stepOverWhole_38 : decode cX2_stepOverWhole 38 = .ok (.aload_n 0, 1) := by decide +kernel
theorem dX2_stepOverWhole_39 : decode cX2_stepOverWhole 39 = .ok (.getfield 28, 3) := by decide +kernel
theorem dX2_stepOverWhole_42 : decode cX2_stepOverWhole 42 = .ok (.iaload, 1) := by decide +kernel
theorem dX2_stepOverWhole_43 : decode cX2_stepOverWhole 43 = .ok (.iadd, 1) := by decide +kernel
theorem dX2_stepOverWhole_44 : decode cX2_stepOverWhole 44 = .ok (.bipush 48, 2) := by decide +kernel
theorem dX2_stepOverWhole_46 : decode cX2_stepOverWhole 46 = .ok (.isub, 1) := by decide +kernel
theorem dX2_stepOverWhole_47 : decode cX2_stepOverWhole 47 = .ok (.putfield 31, 3) := by decide +kernel
theorem dX2_stepOverWhole_50 : decode cX2_stepOverWhole 50 = .ok (.aload_n 0, 1) := by decide +kernel
theorem dX2_stepOverWhole_51 : decode cX2_stepOverWhole 51 = .ok (.dup, 1) := by decide +kernel
theorem dX2_stepOverWhole_52 : decode cX2_stepOverWhole 52 = .ok (.getfield 28, 3) := by decide +kernel
theorem dX2_stepOverWhole_55 : decode cX2_stepOverWhole 55 = .ok (.iconst 1, 1) := by decide +kernel
theorem dX2_stepOverWhole_56 : decode cX2_stepOverWhole 56 = .ok (.iadd, 1) := by decide +kernel
theorem dX2_stepOverWhole_57 : decode cX2_stepOverWhole 57 = .ok (.putfield 28, 3) := by decide +kernel
theorem dX2_stepOverWhole_60 : decode cX2_stepOverWhole 60 = .ok (.goto (-60), 3) := by decide +kernel
theorem dX2_stepOverWhole_63 : decode cX2_stepOverWhole 63 = .ok (.aload_n 0, 1) := by decide +kernel
theorem dX2_stepOverWhole_64 : decode cX2_stepOverWhole 64 = .ok (.aload_n 0, 1) := by decide +kernel
theorem dX2_stepOverWhole_65 : decode cX2_stepOverWhole 65 = .ok (.getfield 28, 3) := by decide +kernel
theorem dX2_stepOverWhole_68 : decode cX2_stepOverWhole 68 = .ok (.aload_n 0, 1) := by decide +kernel
theorem dX2_stepOverWhole_69 : decode cX2_stepOverWhole 69 = .ok (.getfield 25, 3) := by decide +kernel
theorem dX2_stepOverWhole_72 : decode cX2_stepOverWhole 72 = .ok (.isub, 1) := by decide +kernel
theorem dX2_stepOverWhole_73 : decode cX2_stepOverWhole 73 = .ok (.iconst 3, 1) := by decide +kernel
theorem dX2_stepOverWhole_74 : decode cX2_stepOverWhole 74 = .ok (.if_icmp .gt 7, 3) := by decide +kernel
theorem dX2_stepOverWhole_77 : decode cX2_stepOverWhole 77 = .ok (.iconst 3, 1) := by decide +kernel
theorem dX2_stepOverWhole_78 : decode cX2_stepOverWhole 78 = .ok (.goto 4, 3) := by decide +kernel
theorem dX2_stepOverWhole_81 : decode cX2_stepOverWhole 81 = .ok (.iconst 1, 1) := by decide +kernel
theorem dX2_stepOverWhole_82 : decode cX2_stepOverWhole 82 = .ok (.putfield 22, 3) := by decide +kernel
theorem dX2_stepOverWhole_85 : decode cX2_stepOverWhole 85 = .ok (.return_, 1) := by decide +kernel
theorem dX2_isLetter_0 : decode cX2_isLetter 0 = .ok (.iload_n 0, 1) := by decide +kernel
theorem dX2_isLetter_1 : decode cX2_isLetter 1 = .ok (.bipush 97, 2) := by decide +kernel
theorem dX2_isLetter_3 : decode cX2_isLetter 3 = .ok (.if_icmp .lt 13, 3) := by decide +kernel
theorem dX2_isLetter_6 : decode cX2_isLetter 6 = .ok (.iload_n 0, 1) := by decide +kernel
theorem dX2_isLetter_7 : decode cX2_isLetter 7 = .ok (.bipush 122, 2) := by decide +kernel
theorem dX2_isLetter_9 : decode cX2_isLetter 9 = .ok (.if_icmp .gt 7, 3) := by decide +kernel
theorem dX2_isLetter_12 : decode cX2_isLetter 12 = .ok (.iconst 1, 1) := by decide +kernel
theorem dX2_isLetter_13 : decode cX2_isLetter 13 = .ok (.goto 4, 3) := by decide +kernel
theorem dX2_isLetter_16 : decode cX2_isLetter 16 = .ok (.iconst 0, 1) := by decide +kernel
theorem dX2_isLetter_17 : decode cX2_isLetter 17 = .ok (.ireturn, 1) := by decide +kernel
theorem dX2_isDigit_0 : decode cX2_isDigit 0 = .ok (.iload_n 0, 1) := by decide +kernel
theorem dX2_isDigit_1 : decode cX2_isDigit 1 = .ok (.bipush 48, 2) := by decide +kernel
theorem dX2_isDigit_3 : decode cX2_isDigit 3 = .ok (.if_icmp .lt 13, 3) := by decide +kernel
theorem dX2_isDigit_6 : decode cX2_isDigit 6 = .ok (.iload_n 0, 1) := by decide +kernel
theorem dX2_isDigit_7 : decode cX2_isDigit 7 = .ok (.bipush 57, 2) := by decide +kernel
theorem dX2_isDigit_9 : decode cX2_isDigit 9 = .ok (.if_icmp .gt 7, 3) := by decide +kernel
theorem dX2_isDigit_12 : decode cX2_isDigit 12 = .ok (.iconst 1, 1) := by decide +kernel
theorem dX2_isDigit_13 : decode cX2_isDigit 13 = .ok (.goto 4, 3) := by decide +kernel
theorem dX2_isDigit_16 : decode cX2_isDigit 16 = .ok (.iconst 0, 1) := by decide +kernel
theorem dX2_isDigit_17 : decode cX2_isDigit 17 = .ok (.ireturn, 1) := by decide +kernel
theorem dX3_init_0 : decode cX3_init 0 = .ok (.aload_n 0, 1) := by decide +kernel
theorem dX3_init_1 : decode cX3_init 1 = .ok (.invokespecial 1, 3) := by decide +kernel
theorem dX3_init_4 : decode cX3_init 4 = .ok (.aload_n 0, 1) := by decide +kernel
theorem dX3_init_5 : decode cX3_init 5 = .ok (.new 7, 3) := by decide +kernel
theorem dX3_init_8 : decode cX3_init 8 = .ok (.dup, 1) := by decide +kernel
theorem dX3_init_9 : decode cX3_init 9 = .ok (.invokespecial 9, 3) := by decide +kernel
theorem dX3_init_12 : decode cX3_init 12 = .ok (.putfield 10, 3) := by decide +kernel
theorem dX3_init_15 : decode cX3_init 15 = .ok (.aload_n 0, 1) := by decide +kernel
theorem dX3_init_16 : decode cX3_init 16 = .ok (.iconst 4, 1) := by decide +kernel
theorem dX3_init_17 : decode cX3_init 17 = .ok (.anewarray 16, 3) := by decide +kernel
theorem dX3_init_20 : decode cX3_init 20 = .ok (.putfield 18, 3) := by decide +kernel
theorem dX3_init_23 : decode cX3_init 23 = .ok (.aload_n 0, 1) := by decide +kernel
theorem dX3_init_24 : decode cX3_init 24 = .ok (.iconst 0, 1) := by decide +kernel
theorem dX3_init_25 : decode cX3_init 25 = .ok (.putfield 22, 3) := by decide +kernel
theorem dX3_init_28 : decode cX3_init 28 = .ok (.aload_n 0, 1) := by decide +kernel
theorem dX3_init_29 : decode cX3_init 29 = .ok (.iconst 0, 1) := by decide +kernel
theorem dX3_init_30 : decode cX3_init 30 = .ok (.putfield 26, 3) := by decide +kernel
theorem dX3_init_33 : decode cX3_init 33 = .ok (.aload_n 0, 1) := by decide +kernel
theorem dX3_init_34 : decode cX3_init 34 = .ok (.iconst 1, 1) := by decide +kernel
theorem dX3_init_35 : decode cX3_init 35 = .ok (.putfield 29, 3) := by decide +kernel
theorem dX3_init_38 : decode cX3_init 38 = .ok (.aload_n 0, 1) := by decide +kernel
theorem dX3_init_39 : decode cX3_init 39 = .ok (.iconst 0, 1) := by decide +kernel
theorem dX3_init_40 : decode cX3_init 40 = .ok (.putfield 32, 3) := by decide +kernel
theorem dX3_init_43 : decode cX3_init 43 = .ok (.aload_n 0, 1) := by decide +kernel
theorem dX3_init_44 : decode cX3_init 44 = .ok (.iconst 0, 1) := by decide +kernel
theorem dX3_init_45 : decode cX3_init 45 = .ok (.putfield 35, 3) := by decide +kernel
theorem dX3_init_48 : decode cX3_init 48 = .ok (.aload_n 0, 1) := by decide +kernel
theorem dX3_init_49 : decode cX3_init 49 = .ok (.iconst (-1), 1) := by decide +kernel
theorem dX3_init_50 : decode cX3_init 50 = .ok (.putfield 38, 3) := by decide +kernel
theorem dX3_init_53 : decode cX3_init 53 = .ok (.aload_n 0, 1) := by decide +kernel
theorem dX3_init_54 : decode cX3_init 54 = .ok (.new 41, 3) := by decide +kernel
theorem dX3_init_57 : decode cX3_init 57 = .ok (.dup, 1) := by decide +kernel
theorem dX3_init_58 : decode cX3_init 58 = .ok (.invokespecial 43, 3) := by decide +kernel
theorem dX3_init_61 : decode cX3_init 61 = .ok (.putfield 44, 3) := by decide +kernel
theorem dX3_init_64 : decode cX3_init 64 = .ok (.aload_n 0, 1) := by decide +kernel
theorem dX3_init_65 : decode cX3_init 65 = .ok (.new 41, 3) := by decide +kernel
theorem dX3_init_68 : decode cX3_init 68 = .ok (.dup, 1) := by decide +kernel
theorem dX3_init_69 : decode cX3_init 69 = .ok (.invokespecial 43, 3) := by decide +kernel
theorem dX3_init_72 : decode cX3_init 72 = .ok (.putfield 48, 3) := by decide +kernel
theorem dX3_init_75 : decode cX3_init 75 = .ok (.return_, 1) := by decide +kernel
theorem dX3_feed_0 : decode cX3_feed 0 = .ok (.aload_n 0, 1) := by decide +kernel
theorem dX3_feed_1 : decode cX3_feed 1 = .ok (.getfield 10, 3) := by decide +kernel
theorem dX3_feed_4 : decode cX3_feed 4 = .ok (.getfield 51, 3) := by decide +kernel
theorem dX3_feed_7 : decode cX3_feed 7 = .ok (.bipush 20, 2) := by decide +kernel
theorem dX3_feed_9 : decode cX3_feed 9 = .ok (.iadd, 1) := by decide +kernel
theorem dX3_feed_10 : decode cX3_feed 10 = .ok (.sipush 400, 3) := by decide +kernel
theorem dX3_feed_13 : decode cX3_feed 13 = .ok (.if_icmp .le 5, 3) := by decide +kernel
theorem dX3_feed_16 : decode cX3_feed 16 = .ok (.iconst (-1), 1) := by decide +kernel
theorem dX3_feed_17 : decode cX3_feed 17 = .ok (.ireturn, 1) := by decide +kernel
theorem dX3_feed_18 : decode cX3_feed 18 = .ok (.aload_n 0, 1) := by decide +kernel
theorem dX3_feed_19 : decode cX3_feed 19 = .ok (.getfield 10, 3) := by decide +kernel
theorem dX3_feed_22 : decode cX3_feed 22 = .ok (.iload_n 1, 1) := by decide +kernel
theorem dX3_feed_23 : decode cX3_feed 23 = .ok (.invokevirtual 54, 3) := by decide +kernel
theorem dX3_feed_26 : decode cX3_feed 26 = .ok (.aload_n 0, 1) := by decide +kernel
theorem dX3_feed_27 : decode cX3_feed 27 = .ok (.getfield 10, 3) := by decide +kernel
theorem dX3_feed_30 : decode cX3_feed 30 = .ok (.iload_n 2, 1) := by decide +kernel
theorem dX3_feed_31 : decode cX3_feed 31 = .ok (.invokevirtual 54, 3) := by decide +kernel
theorem dX3_feed_34 : decode cX3_feed 34 = .ok (.aload_n 0, 1) := by decide +kernel
theorem dX3_feed_35 : decode cX3_feed 35 = .ok (.getfield 10, 3) := by decide +kernel
theorem dX3_feed_38 : decode cX3_feed 38 = .ok (.iload_n 3, 1) := by decide +kernel
theorem dX3_feed_39 : decode cX3_feed 39 = .ok (.invokevirtual 54, 3) := by decide +kernel
theorem dX3_feed_42 : decode cX3_feed 42 = .ok (.aload_n 0, 1) := by decide +kernel
theorem dX3_feed_43 : decode cX3_feed 43 = .ok (.getfield 10, 3) := by decide +kernel
theorem dX3_feed_46 : decode cX3_feed 46 = .ok (.iload 4, 2) := by decide +kernel
theorem dX3_feed_48 : decode cX3_feed 48 = .ok (.invokevirtual 54, 3) := by decide +kernel
theorem dX3_feed_51 : decode cX3_feed 51 = .ok (.aload_n 0, 1) := by decide +kernel
theorem dX3_feed_52 : decode cX3_feed 52 = .ok (.getfield 10, 3) := by decide +kernel
theorem dX3_feed_55 : decode cX3_feed 55 = .ok (.iload 5, 2) := by decide +kernel
theorem dX3_feed_57 : decode cX3_feed 57 = .ok (.invokevirtual 54, 3) := by decide +kernel
theorem dX3_feed_60 : decode cX3_feed 60 = .ok (.aload_n 0, 1) := by decide +kernel
theorem dX3_feed_61 : decode cX3_feed 61 = .ok (.getfield 10, 3) := by decide +kernel
theorem dX3_feed_64 : decode cX3_feed 64 = .ok (.getfield 51, 3) := by decide +kernel
theorem dX3_feed_67 : decode cX3_feed 67 = .ok (.ireturn, 1) := by decide +kernel
theorem dX3_ranks_0 : decode cX3_ranks 0 = .ok (.iload_n 1, 1) := by decide +kernel
theorem dX3_ranks_1 : decode cX3_ranks 1 = .ok (.ifCond .lt 14, 3) := by decide +kernel
theorem dX3_ranks_4 : decode cX3_ranks 4 = .ok (.iload_n 1, 1) := by decide +kernel
theorem dX3_ranks_5 : decode cX3_ranks 5 = .ok (.aload_n 0, 1) := by decide +kernel
theorem dX3_ranks_6 : decode cX3_ranks 6 = .ok (.getfield 10, 3) := by decide +kernel
theorem dX3_ranks_9 : decode cX3_ranks 9 = .ok (.getfield 51, 3) := by decide +kernel
theorem dX3_ranks_12 : decode cX3_ranks 12 = .ok (.if_icmp .le 9, 3) := by decide +kernel
theorem dX3_ranks_15 : decode cX3_ranks 15 = .ok (.aload_n 0, 1) := by decide +kernel
theorem dX3_ranks_16 : decode cX3_ranks 16 = .ok (.iconst 2, 1) := by decide +kernel
theorem dX3_ranks_17 : decode cX3_ranks 17 = .ok (.invokevirtual 58, 3) := by decide +kernel
theorem dX3_ranks_20 : decode cX3_ranks 20 = .ok (.ireturn, 1) := by decide +kernel
theorem dX3_ranks_21 : decode cX3_ranks 21 = .ok (.aload_n 0, 1) := by decide +kernel
theorem dX3_ranks_22 : decode cX3_ranks 22 = .ok (.getfield 10, 3) := by decide +kernel
theorem dX3_ranks_25 : decode cX3_ranks 25 = .ok (.iload_n 1, 1) := by decide +kernel
theorem dX3_ranks_26 : decode cX3_ranks 26 = .ok (.invokevirtual 62, 3) := by decide +kernel
theorem dX3_ranks_29 : decode cX3_ranks 29 = .ok (.aload_n 0, 1) := by decide +kernel
theorem dX3_ranks_30 : decode cX3_ranks 30 = .ok (.aload_n 0, 1) := by decide +kernel
theorem dX3_ranks_31 : decode cX3_ranks 31 = .ok (.getfield 10, 3) := by decide +kernel
theorem dX3_ranks_34 : decode cX3_ranks 34 = .ok (.getfield 65, 3) := by decide +kernel
theorem dX3_ranks_37 : decode cX3_ranks 37 = .ok (.putfield 35, 3) := by decide +kernel
theorem dX3_ranks_40 : decode cX3_ranks 40 = .ok (.aload_n 0, 1) := by decide +kernel
theorem dX3_ranks_41 : decode cX3_ranks 41 = .ok (.aload_n 0, 1) := by decide +kernel
theorem dX3_ranks_42 : decode cX3_ranks 42 = .ok (.getfield 10, 3) := by decide +kernel
theorem dX3_ranks_45 : decode cX3_ranks 45 = .ok (.getfield 68, 3) := by decide +kernel
theorem dX3_ranks_48 : decode cX3_ranks 48 = .ok (.putfield 38, 3) := by decide +kernel
theorem dX3_ranks_51 : decode cX3_ranks 51 = .ok (.aload_n 0, 1) := by decide +kernel
theorem dX3_ranks_52 : decode cX3_ranks 52 = .ok (.getfield 35, 3) := by decide +kernel
theorem dX3_ranks_55 : decode cX3_ranks 55 = .ok (.ifCond .eq 9, 3) := by decide +kernel
theorem dX3_ranks_58 : decode cX3_ranks 58 = .ok (.aload_n 0, 1) := by decide +kernel
theorem dX3_ranks_59 : decode cX3_ranks 59 = .ok (.iconst 4, 1) := by decide +kernel
theorem dX3_ranks_60 : decode cX3_ranks 60 = .ok (.invokevirtual 58, 3) := by decide +kernel
theorem dX3_ranks_63 : decode cX3_ranks 63 = .ok (.ireturn, 1) := by decide +kernel
theorem dX3_ranks_64 : decode cX3_ranks 64 = .ok (.aload_n 0, 1) := by decide +kernel
theorem dX3_ranks_65 : decode cX3_ranks 65 = .ok (.invokevirtual 71, 3) := by decide +kernel
theorem dX3_ranks_68 : decode cX3_ranks 68 = .ok (.aload_n 0, 1) := by decide +kernel
theorem dX3_ranks_69 : decode cX3_ranks 69 = .ok (.aload_n 0, 1) := by decide +kernel
theorem dX3_ranks_70 : decode cX3_ranks 70 = .ok (.getfield 22, 3) := by decide +kernel
theorem dX3_ranks_73 : decode cX3_ranks 73 = .ok (.invokevirtual 74, 3) := by decide +kernel
theorem dX3_ranks_76 : decode cX3_ranks 76 = .ok (.ireturn, 1) := by decide +kernel
theorem dX3_fault_0 : decode cX3_fault 0 = .ok (.aload_n 0, 1) := by decide +kernel
theorem dX3_fault_1 : decode cX3_fault 1 = .ok (.getfield 35, 3) := by decide +kernel
theorem dX3_fault_4 : decode cX3_fault 4 = .ok (.ireturn, 1) := by decide +kernel
theorem dX3_where_0 : decode cX3_where 0 = .ok (.aload_n 0, 1) := by decide +kernel
theorem dX3_where_1 : decode cX3_where 1 = .ok (.getfield 32, 3) := by decide +kernel
theorem dX3_where_4 : decode cX3_where 4 = .ok (.iconst 4, 1) := by decide +kernel
theorem dX3_where_5 : decode cX3_where 5 = .ok (.if_icmp .ne 10, 3) := by decide +kernel
theorem dX3_where_8 : decode cX3_where 8 = .ok (.aload_n 0, 1) := by decide +kernel
theorem dX3_where_9 : decode cX3_where 9 = .ok (.getfield 38, 3) := by decide +kernel
theorem dX3_where_12 : decode cX3_where 12 = .ok (.goto 4, 3) := by decide +kernel
theorem dX3_where_15 : decode cX3_where 15 = .ok (.iconst (-1), 1) := by decide +kernel
theorem dX3_where_16 : decode cX3_where 16 = .ok (.ireturn, 1) := by decide +kernel
theorem dX3_about_0 : decode cX3_about 0 = .ok (.aload_n 0, 1) := by decide +kernel
theorem dX3_about_1 : decode cX3_about 1 = .ok (.getfield 22, 3) := by decide +kernel
theorem dX3_about_4 : decode cX3_about 4 = .ok (.ifCond .eq 12, 3) := by decide +kernel
theorem dX3_about_7 : decode cX3_about 7 = .ok (.iload_n 1, 1) := by decide +kernel
theorem dX3_about_8 : decode cX3_about 8 = .ok (.ifCond .lt 8, 3) := by decide +kernel
theorem dX3_about_11 : decode cX3_about 11 = .ok (.iload_n 1, 1) := by decide +kernel
theorem dX3_about_12 : decode cX3_about 12 = .ok (.iconst 5, 1) := by decide +kernel
theorem dX3_about_13 : decode cX3_about 13 = .ok (.if_icmp .le 9, 3) := by decide +kernel
theorem dX3_about_16 : decode cX3_about 16 = .ok (.aload_n 0, 1) := by decide +kernel
theorem dX3_about_17 : decode cX3_about 17 = .ok (.iconst 1, 1) := by decide +kernel
theorem dX3_about_18 : decode cX3_about 18 = .ok (.invokevirtual 58, 3) := by decide +kernel
theorem dX3_about_21 : decode cX3_about 21 = .ok (.ireturn, 1) := by decide +kernel
theorem dX3_about_22 : decode cX3_about 22 = .ok (.iload_n 1, 1) := by decide +kernel
theorem dX3_about_23 : decode cX3_about 23 = .ok (.lookupswitch 60 #[(0, 33), (1, 42), (5, 51)], 33) := by decide +kernel
theorem dX3_about_56 : decode cX3_about 56 = .ok (.aload_n 0, 1) := by decide +kernel
theorem dX3_about_57 : decode cX3_about 57 = .ok (.aload_n 0, 1) := by decide +kernel
theorem dX3_about_58 : decode cX3_about 58 = .ok (.getfield 26, 3) := by decide +kernel
theorem dX3_about_61 : decode cX3_about 61 = .ok (.invokevirtual 74, 3) := by decide +kernel
theorem dX3_about_64 : decode cX3_about 64 = .ok (.ireturn, 1) := by decide +kernel
theorem dX3_about_65 : decode cX3_about 65 = .ok (.aload_n 0, 1) := by decide +kernel
theorem dX3_about_66 : decode cX3_about 66 = .ok (.aload_n 0, 1) := by decide +kernel
theorem dX3_about_67 : decode cX3_about 67 = .ok (.getfield 22, 3) := by decide +kernel
theorem dX3_about_70 : decode cX3_about 70 = .ok (.invokevirtual 74, 3) := by decide +kernel
theorem dX3_about_73 : decode cX3_about 73 = .ok (.ireturn, 1) := by decide +kernel
theorem dX3_about_74 : decode cX3_about 74 = .ok (.aload_n 0, 1) := by decide +kernel
theorem dX3_about_75 : decode cX3_about 75 = .ok (.aload_n 0, 1) := by decide +kernel
theorem dX3_about_76 : decode cX3_about 76 = .ok (.getfield 29, 3) := by decide +kernel
theorem dX3_about_79 : decode cX3_about 79 = .ok (.invokevirtual 74, 3) := by decide +kernel
theorem dX3_about_82 : decode cX3_about 82 = .ok (.ireturn, 1) := by decide +kernel
theorem dX3_about_83 : decode cX3_about 83 = .ok (.aload_n 0, 1) := by decide +kernel
theorem dX3_about_84 : decode cX3_about 84 = .ok (.aload_n 0, 1) := by decide +kernel
theorem dX3_about_85 : decode cX3_about 85 = .ok (.iload_n 1, 1) := by decide +kernel
theorem dX3_about_86 : decode cX3_about 86 = .ok (.invokevirtual 77, 3) := by decide +kernel
theorem dX3_about_89 : decode cX3_about 89 = .ok (.invokevirtual 74, 3) := by decide +kernel
theorem dX3_about_92 : decode cX3_about 92 = .ok (.ireturn, 1) := by decide +kernel
theorem dX3_stream_0 : decode cX3_stream 0 = .ok (.aload_n 0, 1) := by decide +kernel
theorem dX3_stream_1 : decode cX3_stream 1 = .ok (.iload_n 1, 1) := by decide +kernel
theorem dX3_stream_2 : decode cX3_stream 2 = .ok (.invokevirtual 80, 3) := by decide +kernel
theorem dX3_stream_5 : decode cX3_stream 5 = .ok (.astore_n 3, 1) := by decide +kernel
theorem dX3_stream_6 : decode cX3_stream 6 = .ok (.aload_n 3, 1) := by decide +kernel
theorem dX3_stream_7 : decode cX3_stream 7 = .ok (.ifnull 13, 3) := by decide +kernel
theorem dX3_stream_10 : decode cX3_stream 10 = .ok (.iload_n 2, 1) := by decide +kernel
theorem dX3_stream_11 : decode cX3_stream 11 = .ok (.ifCond .lt 9, 3) := by decide +kernel
theorem dX3_stream_14 : decode cX3_stream 14 = .ok (.iload_n 2, 1) := by decide +kernel
theorem dX3_stream_15 : decode cX3_stream 15 = .ok (.bipush 9, 2) := by decide +kernel
theorem dX3_stream_17 : decode cX3_stream 17 = .ok (.if_icmp .le 9, 3) := by decide +kernel
theorem dX3_stream_20 : decode cX3_stream 20 = .ok (.aload_n 0, 1) := by decide +kernel
theorem dX3_stream_21 : decode cX3_stream 21 = .ok (.iconst 1, 1) := by decide +kernel
theorem dX3_stream_22 : decode cX3_stream 22 = .ok (.invokevirtual 58, 3) := by decide +kernel
theorem dX3_stream_25 : decode cX3_stream 25 = .ok (.ireturn, 1) := by decide +kernel
theorem dX3_stream_26 : decode cX3_stream 26 = .ok (.iload_n 2, 1) := by decide +kernel
theorem dX3_stream_27 : decode cX3_stream 27 = .ok (.tableswitch 191 0 8 #[49, 58, 70, 86, 95, 104, 113, 142, 179], 49) := by decide +kernel
theorem dX3_stream_76 : decode cX3_stream 76 = .ok (.aload_n 0, 1) := by decide +kernel
theorem dX3_stream_77 : decode cX3_stream 77 = .ok (.aload_n 3, 1) := by decide +kernel
theorem dX3_stream_78 : decode cX3_stream 78 = .ok (.getfield 84, 3) := by decide +kernel
theorem dX3_stream_81 : decode cX3_stream 81 = .ok (.invokevirtual 74, 3) := by decide +kernel
theorem dX3_stream_84 : decode cX3_stream 84 = .ok (.ireturn, 1) := by decide +kernel
theorem dX3_stream_85 : decode cX3_stream 85 = .ok (.aload_n 0, 1) := by decide +kernel
theorem dX3_stream_86 : decode cX3_stream 86 = .ok (.aload_n 3, 1) := by decide +kernel
theorem dX3_stream_87 : decode cX3_stream 87 = .ok (.getfield 87, 3) := by decide +kernel
theorem dX3_stream_90 : decode cX3_stream 90 = .ok (.getfield 90, 3) := by decide +kernel
theorem dX3_stream_93 : decode cX3_stream 93 = .ok (.invokevirtual 74, 3) := by decide +kernel
theorem dX3_stream_96 : decode cX3_stream 96 = .ok (.ireturn, 1) := by decide +kernel
theorem dX3_stream_97 : decode cX3_stream 97 = .ok (.aload_n 0, 1) := by decide +kernel
theorem dX3_stream_98 : decode cX3_stream 98 = .ok (.aload_n 3, 1) := by decide +kernel
theorem dX3_stream_99 : decode cX3_stream 99 = .ok (.getfield 84, 3) := by decide +kernel
theorem dX3_stream_102 : decode cX3_stream 102 = .ok (.aload_n 0, 1) := by decide +kernel
theorem dX3_stream_103 : decode cX3_stream 103 = .ok (.getfield 26, 3) := by decide +kernel
theorem dX3_stream_106 : decode cX3_stream 106 = .ok (.invokestatic 93, 3) := by decide +kernel
theorem dX3_stream_109 : decode cX3_stream 109 = .ok (.invokevirtual 74, 3) := by decide +kernel
theorem dX3_stream_112 : decode cX3_stream 112 = .ok (.ireturn, 1) := by decide +kernel
theorem dX3_stream_113 : decode cX3_stream 113 = .ok (.aload_n 0, 1) := by decide +kernel
theorem dX3_stream_114 : decode cX3_stream 114 = .ok (.aload_n 3, 1) := by decide +kernel
theorem dX3_stream_115 : decode cX3_stream 115 = .ok (.getfield 97, 3) := by decide +kernel
theorem dX3_stream_118 : decode cX3_stream 118 = .ok (.invokevirtual 74, 3) := by decide +kernel
theorem dX3_stream_121 : decode cX3_stream 121 = .ok (.ireturn, 1) := by decide +kernel
theorem dX3_stream_122 : decode cX3_stream 122 = .ok (.aload_n 0, 1) := by decide +kernel
theorem dX3_stream_123 : decode cX3_stream 123 = .ok (.aload_n 3, 1) := by decide +kernel
theorem dX3_stream_124 : decode cX3_stream 124 = .ok (.getfield 100, 3) := by decide +kernel
theorem dX3_stream_127 : decode cX3_stream 127 = .ok (.invokevirtual 74, 3) := by decide +kernel
theorem dX3_stream_130 : decode cX3_stream 130 = .ok (.ireturn, 1) := by decide +kernel
theorem dX3_stream_131 : decode cX3_stream 131 = .ok (.aload_n 0, 1) := by decide +kernel
theorem dX3_stream_132 : decode cX3_stream 132 = .ok (.aload_n 3, 1) := by decide +kernel
theorem dX3_stream_133 : decode cX3_stream 133 = .ok (.getfield 103, 3) := by decide +kernel
theorem dX3_stream_136 : decode cX3_stream 136 = .ok (.invokevirtual 74, 3) := by decide +kernel
theorem dX3_stream_139 : decode cX3_stream 139 = .ok (.ireturn, 1) := by decide +kernel
theorem dX3_stream_140 : decode cX3_stream 140 = .ok (.aload_n 0, 1) := by decide +kernel
theorem dX3_stream_141 : decode cX3_stream 141 = .ok (.aload_n 3, 1) := by decide +kernel
theorem dX3_stream_142 : decode cX3_stream 142 = .ok (.getfield 87, 3) := by decide +kernel
theorem dX3_stream_145 : decode cX3_stream 145 = .ok (.getfield 90, 3) := by decide +kernel
theorem dX3_stream_148 : decode cX3_stream 148 = .ok (.ifCond .ne 8, 3) := by decide +kernel
theorem dX3_stream_151 : decode cX3_stream 151 = .ok (.bipush (-2), 2) := by decide +kernel
theorem dX3_stream_153 : decode cX3_stream 153 = .ok (.goto 12, 3) := by decide +kernel
theorem dX3_stream_156 : decode cX3_stream 156 = .ok (.aload_n 3, 1) := by decide +kernel
theorem dX3_stream_157 : decode cX3_stream 157 = .ok (.getfield 87, 3) := by decide +kernel
theorem dX3_stream_160 : decode cX3_stream 160 = .ok (.getfield 106, 3) := by decide +kernel
theorem dX3_stream_163 : decode cX3_stream 163 = .ok (.iconst 0, 1) := by decide +kernel
theorem dX3_stream_164 : decode cX3_stream 164 = .ok (.iaload, 1) := by decide +kernel
theorem dX3_stream_165 : decode cX3_stream 165 = .ok (.invokevirtual 74, 3) := by decide +kernel
theorem dX3_stream_168 : decode cX3_stream 168 = .ok (.ireturn, 1) := by decide +kernel
theorem dX3_stream_169 : decode cX3_stream 169 = .ok (.aload_n 0, 1) := by decide +kernel
theorem dX3_stream_170 : decode cX3_stream 170 = .ok (.aload_n 3, 1) := by decide +kernel
theorem dX3_stream_171 : decode cX3_stream 171 = .ok (.getfield 87, 3) := by decide +kernel
theorem dX3_stream_174 : decode cX3_stream 174 = .ok (.getfield 90, 3) := by decide +kernel
theorem dX3_stream_177 : decode cX3_stream 177 = .ok (.ifCond .ne 8, 3) := by decide +kernel
theorem dX3_stream_180 : decode cX3_stream 180 = .ok (.bipush (-2), 2) := by decide +kernel
theorem dX3_stream_182 : decode cX3_stream 182 = .ok (.goto 20, 3) := by decide +kernel
theorem dX3_stream_185 : decode cX3_stream 185 = .ok (.aload_n 3, 1) := by decide +kernel
theorem dX3_stream_186 : decode cX3_stream 186 = .ok (.getfield 87, 3) := by decide +kernel
theorem dX3_stream_189 : decode cX3_stream 189 = .ok (.getfield 106, 3) := by decide +kernel
theorem dX3_stream_192 : decode cX3_stream 192 = .ok (.aload_n 3, 1) := by decide +kernel
theorem dX3_stream_193 : decode cX3_stream 193 = .ok (.getfield 87, 3) := by decide +kernel
theorem dX3_stream_196 : decode cX3_stream 196 = .ok (.getfield 90, 3) := by decide +kernel
theorem dX3_stream_199 : decode cX3_stream 199 = .ok (.iconst 1, 1) := by decide +kernel
theorem dX3_stream_200 : decode cX3_stream 200 = .ok (.isub, 1) := by decide +kernel
theorem dX3_stream_201 : decode cX3_stream 201 = .ok (.iaload, 1) := by decide +kernel
theorem dX3_stream_202 : decode cX3_stream 202 = .ok (.invokevirtual 74, 3) := by decide +kernel
theorem dX3_stream_205 : decode cX3_stream 205 = .ok (.ireturn, 1) := by decide +kernel
theorem dX3_stream_206 : decode cX3_stream 206 = .ok (.aload_n 0, 1) := by decide +kernel
theorem dX3_stream_207 : decode cX3_stream 207 = .ok (.aload_n 3, 1) := by decide +kernel
theorem dX3_stream_208 : decode cX3_stream 208 = .ok (.getfield 87, 3) := by decide +kernel
theorem dX3_stream_211 : decode cX3_stream 211 = .ok (.invokevirtual 110, 3) := by decide +kernel
theorem dX3_stream_214 : decode cX3_stream 214 = .ok (.invokevirtual 74, 3) := by decide +kernel
theorem dX3_stream_217 : decode cX3_stream 217 = .ok (.ireturn, 1) := by decide +kernel
theorem dX3_stream_218 : decode cX3_stream 218 = .ok (.aload_n 0, 1) := by decide +kernel
theorem dX3_stream_219 : decode cX3_stream 219 = .ok (.aload_n 3, 1) := by decide +kernel
theorem dX3_stream_220 : decode cX3_stream 220 = .ok (.invokevirtual 114, 3) := by decide +kernel
theorem dX3_stream_223 : decode cX3_stream 223 = .ok (.invokevirtual 74, 3) := by decide +kernel
theorem dX3_stream_226 : decode cX3_stream 226 = .ok (.ireturn, 1) := by decide +kernel
theorem dX3_tuple_0 : decode cX3_tuple 0 = .ok (.aload_n 0, 1) := by decide +kernel
theorem dX3_tuple_1 : decode cX3_tuple 1 = .ok (.iload_n 1, 1) := by decide +kernel
theorem dX3_tuple_2 : decode cX3_tuple 2 = .ok (.invokevirtual 80, 3) := by decide +kernel
theorem dX3_tuple_5 : decode cX3_tuple 5 = .ok (.astore 4, 2) := by decide +kernel
theorem dX3_tuple_7 : decode cX3_tuple 7 = .ok (.aload 4, 2) := by decide +kernel
theorem dX3_tuple_9 : decode cX3_tuple 9 = .ok (.ifnull 29, 3) := by decide +kernel
theorem dX3_tuple_12 : decode cX3_tuple 12 = .ok (.iload_n 2, 1) := by decide +kernel
theorem dX3_tuple_13 : decode cX3_tuple 13 = .ok (.ifCond .lt 25, 3) := by decide +kernel
theorem dX3_tuple_16 : decode cX3_tuple 16 = .ok (.iload_n 2, 1) := by decide +kernel
theorem dX3_tuple_17 : decode cX3_tuple 17 = .ok (.aload 4, 2) := by decide +kernel
theorem dX3_tuple_19 : decode cX3_tuple 19 = .ok (.getfield 87, 3) := by decide +kernel
theorem dX3_tuple_22 : decode cX3_tuple 22 = .ok (.getfield 90, 3) := by decide +kernel
theorem dX3_tuple_25 : decode cX3_tuple 25 = .ok (.if_icmp .ge 13, 3) := by decide +kernel
theorem dX3_tuple_28 : decode cX3_tuple 28 = .ok (.iload_n 3, 1) := by decide +kernel
theorem dX3_tuple_29 : decode cX3_tuple 29 = .ok (.ifCond .lt 9, 3) := by decide +kernel
theorem dX3_tuple_32 : decode cX3_tuple 32 = .ok (.iload_n 3, 1) := by decide +kernel
theorem dX3_tuple_33 : decode cX3_tuple 33 = .ok (.bipush 6, 2) := by decide +kernel
theorem dX3_tuple_35 : decode cX3_tuple 35 = .ok (.if_icmp .le 9, 3) := by decide +kernel
theorem dX3_tuple_38 : decode cX3_tuple 38 = .ok (.aload_n 0, 1) := by decide +kernel
theorem dX3_tuple_39 : decode cX3_tuple 39 = .ok (.iconst 1, 1) := by decide +kernel
theorem dX3_tuple_40 : decode cX3_tuple 40 = .ok (.invokevirtual 58, 3) := by decide +kernel
theorem dX3_tuple_43 : decode cX3_tuple 43 = .ok (.ireturn, 1) := by decide +kernel
theorem dX3_tuple_44 : decode cX3_tuple 44 = .ok (.aload 4, 2) := by decide +kernel
theorem dX3_tuple_46 : decode cX3_tuple 46 = .ok (.getfield 87, 3) := by decide +kernel
theorem dX3_tuple_49 : decode cX3_tuple 49 = .ok (.astore 5, 2) := by decide +kernel
theorem dX3_tuple_51 : decode cX3_tuple 51 = .ok (.iload_n 3, 1) := by decide +kernel
theorem dX3_tuple_52 : decode cX3_tuple 52 = .ok (.tableswitch 125 0 5 #[40, 52, 63, 75, 87, 98], 40) := by decide +kernel
theorem dX3_tuple_92 : decode cX3_tuple 92 = .ok (.aload_n 0, 1) := by decide +kernel
theorem dX3_tuple_93 : decode cX3_tuple 93 = .ok (.aload 5, 2) := by decide +kernel
theorem dX3_tuple_95 : decode cX3_tuple 95 = .ok (.getfield 106, 3) := by decide +kernel
theorem dX3_tuple_98 : decode cX3_tuple 98 = .ok (.iload_n 2, 1) := by decide +kernel
theorem dX3_tuple_99 : decode cX3_tuple 99 = .ok (.iaload, 1) := by decide +kernel
theorem dX3_tuple_100 : decode cX3_tuple 100 = .ok (.invokevirtual 74, 3) := by decide +kernel
theorem dX3_tuple_103 : decode cX3_tuple 103 = .ok (.ireturn, 1) := by decide +kernel
theorem dX3_tuple_104 : decode cX3_tuple 104 = .ok (.aload_n 0, 1) := by decide +kernel
theorem dX3_tuple_105 : decode cX3_tuple 105 = .ok (.aload 5, 2) := by decide +kernel
theorem dX3_tuple_107 : decode cX3_tuple 107 = .ok (.iload_n 2, 1) := by decide +kernel
theorem dX3_tuple_108 : decode cX3_tuple 108 = .ok (.invokevirtual 117, 3) := by decide +kernel
theorem dX3_tuple_111 : decode cX3_tuple 111 = .ok (.invokevirtual 74, 3) := by decide +kernel
theorem dX3_tuple_114 : decode cX3_tuple 114 = .ok (.ireturn, 1) := by decide +kernel
theorem dX3_tuple_115 : decode cX3_tuple 115 = .ok (.aload_n 0, 1) := by decide +kernel
theorem dX3_tuple_116 : decode cX3_tuple 116 = .ok (.aload 5, 2) := by decide +kernel
theorem dX3_tuple_118 : decode cX3_tuple 118 = .ok (.getfield 120, 3) := by decide +kernel
theorem dX3_tuple_121 : decode cX3_tuple 121 = .ok (.iload_n 2, 1) := by decide +kernel
theorem dX3_tuple_122 : decode cX3_tuple 122 = .ok (.iaload, 1) := by decide +kernel
theorem dX3_tuple_123 : decode cX3_tuple 123 = .ok (.invokevirtual 74, 3) := by decide +kernel
theorem dX3_tuple_126 : decode cX3_tuple 126 = .ok (.ireturn, 1) := by decide +kernel
theorem dX3_tuple_127 : decode cX3_tuple 127 = .ok (.aload_n 0, 1) := by decide +kernel
theorem dX3_tuple_128 : decode cX3_tuple 128 = .ok (.aload 5, 2) := by decide +kernel
theorem dX3_tuple_130 : decode cX3_tuple 130 = .ok (.getfield 123, 3) := by decide +kernel
theorem dX3_tuple_133 : decode cX3_tuple 133 = .ok (.iload_n 2, 1) := by decide +kernel
theorem dX3_tuple_134 : decode cX3_tuple 134 = .ok (.iaload, 1) := by decide +kernel
theorem dX3_tuple_135 : decode cX3_tuple 135 = .ok (.invokevirtual 74, 3) := by decide +kernel
theorem dX3_tuple_138 : decode cX3_tuple 138 = .ok (.ireturn, 1) := by decide +kernel
theorem dX3_tuple_139 : decode cX3_tuple 139 = .ok (.aload_n 0, 1) := by decide +kernel
theorem dX3_tuple_140 : decode cX3_tuple 140 = .ok (.aload 5, 2) := by decide +kernel
theorem dX3_tuple_142 : decode cX3_tuple 142 = .ok (.iload_n 2, 1) := by decide +kernel
theorem dX3_tuple_143 : decode cX3_tuple 143 = .ok (.invokevirtual 126, 3) := by decide +kernel
theorem dX3_tuple_146 : decode cX3_tuple 146 = .ok (.invokevirtual 74, 3) := by decide +kernel
theorem dX3_tuple_149 : decode cX3_tuple 149 = .ok (.ireturn, 1) := by decide +kernel
theorem dX3_tuple_150 : decode cX3_tuple 150 = .ok (.aload_n 0, 1) := by decide +kernel
theorem dX3_tuple_151 : decode cX3_tuple 151 = .ok (.aload 5, 2) := by decide +kernel
theorem dX3_tuple_153 : decode cX3_tuple 153 = .ok (.getfield 120, 3) := by decide +kernel
theorem dX3_tuple_156 : decode cX3_tuple 156 = .ok (.iload_n 2, 1) := by decide +kernel
theorem dX3_tuple_157 : decode cX3_tuple 157 = .ok (.iaload, 1) := by decide +kernel
theorem dX3_tuple_158 : decode cX3_tuple 158 = .ok (.aload 4, 2) := by decide +kernel
theorem dX3_tuple_160 : decode cX3_tuple 160 = .ok (.getfield 84, 3) := by decide +kernel
theorem dX3_tuple_163 : decode cX3_tuple 163 = .ok (.aload_n 0, 1) := by decide +kernel
theorem dX3_tuple_164 : decode cX3_tuple 164 = .ok (.getfield 26, 3) := by decide +kernel
theorem dX3_tuple_167 : decode cX3_tuple 167 = .ok (.invokestatic 93, 3) := by decide +kernel
theorem dX3_tuple_170 : decode cX3_tuple 170 = .ok (.invokestatic 129, 3) := by decide +kernel
theorem dX3_tuple_173 : decode cX3_tuple 173 = .ok (.invokevirtual 74, 3) := by decide +kernel
theorem dX3_tuple_176 : decode cX3_tuple 176 = .ok (.ireturn, 1) := by decide +kernel
theorem dX3_tuple_177 : decode cX3_tuple 177 = .ok (.aload 5, 2) := by decide +kernel
theorem dX3_tuple_179 : decode cX3_tuple 179 = .ok (.aload 4, 2) := by decide +kernel
theorem dX3_tuple_181 : decode cX3_tuple 181 = .ok (.getfield 84, 3) := by decide +kernel
theorem dX3_tuple_184 : decode cX3_tuple 184 = .ok (.aload_n 0, 1) := by decide +kernel
theorem dX3_tuple_185 : decode cX3_tuple 185 = .ok (.getfield 26, 3) := by decide +kernel
theorem dX3_tuple_188 : decode cX3_tuple 188 = .ok (.invokestatic 93, 3) := by decide +kernel
theorem dX3_tuple_191 : decode cX3_tuple 191 = .ok (.invokevirtual 132, 3) := by decide +kernel
theorem dX3_tuple_194 : decode cX3_tuple 194 = .ok (.aload_n 0, 1) := by decide +kernel
theorem dX3_tuple_195 : decode cX3_tuple 195 = .ok (.iload_n 2, 1) := by decide +kernel
theorem dX3_tuple_196 : decode cX3_tuple 196 = .ok (.aload 5, 2) := by decide +kernel
theorem dX3_tuple_198 : decode cX3_tuple 198 = .ok (.iload_n 2, 1) := by decide +kernel
theorem dX3_tuple_199 : decode cX3_tuple 199 = .ok (.invokevirtual 135, 3) := by decide +kernel
theorem dX3_tuple_202 : decode cX3_tuple 202 = .ok (.isub, 1) := by decide +kernel
theorem dX3_tuple_203 : decode cX3_tuple 203 = .ok (.iconst 1, 1) := by decide +kernel
theorem dX3_tuple_204 : decode cX3_tuple 204 = .ok (.iadd, 1) := by decide +kernel
theorem dX3_tuple_205 : decode cX3_tuple 205 = .ok (.invokevirtual 74, 3) := by decide +kernel
theorem dX3_tuple_208 : decode cX3_tuple 208 = .ok (.ireturn, 1) := by decide +kernel
theorem dX3_goes_0 : decode cX3_goes 0 = .ok (.aload_n 0, 1) := by decide +kernel
theorem dX3_goes_1 : decode cX3_goes 1 = .ok (.iload_n 1, 1) := by decide +kernel
theorem dX3_goes_2 : decode cX3_goes 2 = .ok (.invokevirtual 80, 3) := by decide +kernel
theorem dX3_goes_5 : decode cX3_goes 5 = .ok (.astore_n 3, 1) := by decide +kernel
theorem dX3_goes_6 : decode cX3_goes 6 = .ok (.aload_n 3, 1) := by decide +kernel
theorem dX3_goes_7 : decode cX3_goes 7 = .ok (.ifnull 18, 3) := by decide +kernel
theorem dX3_goes_10 : decode cX3_goes 10 = .ok (.iload_n 2, 1) := by decide +kernel
theorem dX3_goes_11 : decode cX3_goes 11 = .ok (.ifCond .lt 14, 3) := by decide +kernel
theorem dX3_goes_14 : decode cX3_goes 14 = .ok (.iload_n 2, 1) := by decide +kernel
theorem dX3_goes_15 : decode cX3_goes 15 = .ok (.aload_n 3, 1) := by decide +kernel
theorem dX3_goes_16 : decode cX3_goes 16 = .ok (.getfield 87, 3) := by decide +kernel
theorem dX3_goes_19 : decode cX3_goes 19 = .ok (.getfield 90, 3) := by decide +kernel
theorem dX3_goes_22 : decode cX3_goes 22 = .ok (.if_icmp .lt 9, 3) := by decide +kernel
theorem dX3_goes_25 : decode cX3_goes 25 = .ok (.aload_n 0, 1) := by decide +kernel
theorem dX3_goes_26 : decode cX3_goes 26 = .ok (.iconst 1, 1) := by decide +kernel
theorem dX3_goes_27 : decode cX3_goes 27 = .ok (.invokevirtual 58, 3) := by decide +kernel
theorem dX3_goes_30 : decode cX3_goes 30 = .ok (.ireturn, 1) := by decide +kernel
theorem dX3_goes_31 : decode cX3_goes 31 = .ok (.iload_n 2, 1) := by decide +kernel
theorem dX3_goes_32 : decode cX3_goes 32 = .ok (.ifCond .eq 16, 3) := by decide +kernel
theorem dX3_goes_35 : decode cX3_goes 35 = .ok (.iload_n 2, 1) := by decide +kernel
theorem dX3_goes_36 : decode cX3_goes 36 = .ok (.aload_n 3, 1) := by decide +kernel
theorem dX3_goes_37 : decode cX3_goes 37 = .ok (.getfield 87, 3) := by decide +kernel
theorem dX3_goes_40 : decode cX3_goes 40 = .ok (.getfield 90, 3) := by decide +kernel
theorem dX3_goes_43 : decode cX3_goes 43 = .ok (.iconst 1, 1) := by decide +kernel
theorem dX3_goes_44 : decode cX3_goes 44 = .ok (.isub, 1) := by decide +kernel
theorem dX3_goes_45 : decode cX3_goes 45 = .ok (.if_icmp .ne 9, 3) := by decide +kernel
theorem dX3_goes_48 : decode cX3_goes 48 = .ok (.aload_n 0, 1) := by decide +kernel
theorem dX3_goes_49 : decode cX3_goes 49 = .ok (.iconst 0, 1) := by decide +kernel
theorem dX3_goes_50 : decode cX3_goes 50 = .ok (.invokevirtual 74, 3) := by decide +kernel
theorem dX3_goes_53 : decode cX3_goes 53 = .ok (.ireturn, 1) := by decide +kernel
theorem dX3_goes_54 : decode cX3_goes 54 = .ok (.aload_n 3, 1) := by decide +kernel
theorem dX3_goes_55 : decode cX3_goes 55 = .ok (.getfield 84, 3) := by decide +kernel
theorem dX3_goes_58 : decode cX3_goes 58 = .ok (.aload_n 0, 1) := by decide +kernel
theorem dX3_goes_59 : decode cX3_goes 59 = .ok (.getfield 26, 3) := by decide +kernel
theorem dX3_goes_62 : decode cX3_goes 62 = .ok (.invokestatic 93, 3) := by decide +kernel
theorem dX3_goes_65 : decode cX3_goes 65 = .ok (.istore 4, 2) := by decide +kernel
theorem dX3_goes_67 : decode cX3_goes 67 = .ok (.aload_n 3, 1) := by decide +kernel
theorem dX3_goes_68 : decode cX3_goes 68 = .ok (.getfield 87, 3) := by decide +kernel
theorem dX3_goes_71 : decode cX3_goes 71 = .ok (.iload 4, 2) := by decide +kernel
theorem dX3_goes_73 : decode cX3_goes 73 = .ok (.invokevirtual 132, 3) := by decide +kernel
theorem dX3_goes_76 : decode cX3_goes 76 = .ok (.aload_n 3, 1) := by decide +kernel
theorem dX3_goes_77 : decode cX3_goes 77 = .ok (.getfield 87, 3) := by decide +kernel
theorem dX3_goes_80 : decode cX3_goes 80 = .ok (.iload_n 2, 1) := by decide +kernel
theorem dX3_goes_81 : decode cX3_goes 81 = .ok (.aload_n 3, 1) := by decide +kernel
theorem dX3_goes_82 : decode cX3_goes 82 = .ok (.getfield 87, 3) := by decide +kernel
theorem dX3_goes_85 : decode cX3_goes 85 = .ok (.iload_n 2, 1) := by decide +kernel
theorem dX3_goes_86 : decode cX3_goes 86 = .ok (.invokevirtual 135, 3) := by decide +kernel
theorem dX3_goes_89 : decode cX3_goes 89 = .ok (.iload_n 2, 1) := by decide +kernel
theorem dX3_goes_90 : decode cX3_goes 90 = .ok (.iconst 1, 1) := by decide +kernel
theorem dX3_goes_91 : decode cX3_goes 91 = .ok (.iadd, 1) := by decide +kernel
theorem dX3_goes_92 : decode cX3_goes 92 = .ok (.iload 4, 2) := by decide +kernel
theorem dX3_goes_94 : decode cX3_goes 94 = .ok (.invokevirtual 138, 3) := by decide +kernel
theorem dX3_goes_97 : decode cX3_goes 97 = .ok (.istore 5, 2) := by decide +kernel
theorem dX3_goes_99 : decode cX3_goes 99 = .ok (.aload_n 0, 1) := by decide +kernel
theorem dX3_goes_100 : decode cX3_goes 100 = .ok (.iload 5, 2) := by decide +kernel
theorem dX3_goes_102 : decode cX3_goes 102 = .ok (.ifCond .eq 7, 3) := by decide +kernel
theorem dX3_goes_105 : decode cX3_goes 105 = .ok (.iconst 1, 1) := by decide +kernel
theorem dX3_goes_106 : decode cX3_goes 106 = .ok (.goto 4, 3) := by decide +kernel
theorem dX3_goes_109 : decode cX3_goes 109 = .ok (.iconst 0, 1) := by decide +kernel
theorem dX3_goes_110 : decode cX3_goes 110 = .ok (.invokevirtual 74, 3) := by decide +kernel
theorem dX3_goes_113 : decode cX3_goes 113 = .ok (.ireturn, 1) := by decide +kernel
theorem dX3_band_0 : decode cX3_band 0 = .ok (.iload_n 1, 1) := by decide +kernel
theorem dX3_band_1 : decode cX3_band 1 = .ok (.ifCond .lt 22, 3) := by decide +kernel
theorem dX3_band_4 : decode cX3_band 4 = .ok (.iload_n 1, 1) := by decide +kernel
theorem dX3_band_5 : decode cX3_band 5 = .ok (.sipush 1000, 3) := by decide +kernel
theorem dX3_band_8 : decode cX3_band 8 = .ok (.if_icmp .ge 15, 3) := by decide +kernel
theorem dX3_band_11 : decode cX3_band 11 = .ok (.iload_n 2, 1) := by decide +kernel
theorem dX3_band_12 : decode cX3_band 12 = .ok (.iconst 1, 1) := by decide +kernel
theorem dX3_band_13 : decode cX3_band 13 = .ok (.if_icmp .lt 10, 3) := by decide +kernel
theorem dX3_band_16 : decode cX3_band 16 = .ok (.iload_n 2, 1) := by decide +kernel
theorem dX3_band_17 : decode cX3_band 17 = .ok (.sipush 1000, 3) := by decide +kernel
theorem dX3_band_20 : decode cX3_band 20 = .ok (.if_icmp .le 9, 3) := by decide +kernel
theorem dX3_band_23 : decode cX3_band 23 = .ok (.aload_n 0, 1) := by decide +kernel
theorem dX3_band_24 : decode cX3_band 24 = .ok (.iconst 2, 1) := by decide +kernel
theorem dX3_band_25 : decode cX3_band 25 = .ok (.invokevirtual 58, 3) := by decide +kernel
theorem dX3_band_28 : decode cX3_band 28 = .ok (.ireturn, 1) := by decide +kernel
theorem dX3_band_29 : decode cX3_band 29 = .ok (.aload_n 0, 1) := by decide +kernel
theorem dX3_band_30 : decode cX3_band 30 = .ok (.iload_n 1, 1) := by decide +kernel
theorem dX3_band_31 : decode cX3_band 31 = .ok (.iload_n 2, 1) := by decide +kernel
theorem dX3_band_32 : decode cX3_band 32 = .ok (.invokestatic 129, 3) := by decide +kernel
theorem dX3_band_35 : decode cX3_band 35 = .ok (.invokevirtual 74, 3) := by decide +kernel
theorem dX3_band_38 : decode cX3_band 38 = .ok (.ireturn, 1) := by decide +kernel
theorem dX3_check_0 : decode cX3_check 0 = .ok (.aload_n 0, 1) := by decide +kernel
theorem dX3_check_1 : decode cX3_check 1 = .ok (.iload_n 1, 1) := by decide +kernel
theorem dX3_check_2 : decode cX3_check 2 = .ok (.invokevirtual 80, 3) := by decide +kernel
theorem dX3_check_5 : decode cX3_check 5 = .ok (.astore_n 2, 1) := by decide +kernel
theorem dX3_check_6 : decode cX3_check 6 = .ok (.aload_n 2, 1) := by decide +kernel
theorem dX3_check_7 : decode cX3_check 7 = .ok (.ifnonnull 9, 3) := by decide +kernel
theorem dX3_check_10 : decode cX3_check 10 = .ok (.aload_n 0, 1) := by decide +kernel
theorem dX3_check_11 : decode cX3_check 11 = .ok (.iconst 1, 1) := by decide +kernel
theorem dX3_check_12 : decode cX3_check 12 = .ok (.invokevirtual 58, 3) := by decide +kernel
theorem dX3_check_15 : decode cX3_check 15 = .ok (.ireturn, 1) := by decide +kernel
theorem dX3_check_16 : decode cX3_check 16 = .ok (.aload_n 0, 1) := by decide +kernel
theorem dX3_check_17 : decode cX3_check 17 = .ok (.aload_n 2, 1) := by decide +kernel
theorem dX3_check_18 : decode cX3_check 18 = .ok (.getfield 87, 3) := by decide +kernel
theorem dX3_check_21 : decode cX3_check 21 = .ok (.aload_n 2, 1) := by decide +kernel
theorem dX3_check_22 : decode cX3_check 22 = .ok (.getfield 84, 3) := by decide +kernel
theorem dX3_check_25 : decode cX3_check 25 = .ok (.aload_n 2, 1) := by decide +kernel
theorem dX3_check_26 : decode cX3_check 26 = .ok (.getfield 84, 3) := by decide +kernel
theorem dX3_check_29 : decode cX3_check 29 = .ok (.aload_n 0, 1) := by decide +kernel
theorem dX3_check_30 : decode cX3_check 30 = .ok (.getfield 26, 3) := by decide +kernel
theorem dX3_check_33 : decode cX3_check 33 = .ok (.invokestatic 93, 3) := by decide +kernel
theorem dX3_check_36 : decode cX3_check 36 = .ok (.invokevirtual 142, 3) := by decide +kernel
theorem dX3_check_39 : decode cX3_check 39 = .ok (.invokevirtual 74, 3) := by decide +kernel
theorem dX3_check_42 : decode cX3_check 42 = .ok (.ireturn, 1) := by decide +kernel
theorem dX3_answer_0 : decode cX3_answer 0 = .ok (.aload_n 0, 1) := by decide +kernel
theorem dX3_answer_1 : decode cX3_answer 1 = .ok (.iload_n 1, 1) := by decide +kernel
theorem dX3_answer_2 : decode cX3_answer 2 = .ok (.invokevirtual 80, 3) := by decide +kernel
