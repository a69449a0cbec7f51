theorem dX4_sum_23 : decode cX4_sum 23 = .ok (.iload_n 3, 1) := by decide +kernel
theorem dX4_sum_24 : decode cX4_sum 24 = .ok (.sipush 1000, 3) := by decide +kernel
theorem dX4_sum_27 : decode cX4_sum 27 = .ok (.if_icmp .ge 26, 3) := by decide +kernel
theorem dX4_sum_30 : decode cX4_sum 30 = .ok (.iload_n 2, 1) := by decide +kernel
theorem dX4_sum_31 : decode cX4_sum 31 = .ok (.iload_n 3, 1) := by decide +kernel
theorem dX4_sum_32 : decode cX4_sum 32 = .ok (.aload_n 0, 1) := by decide +kernel
theorem dX4_sum_33 : decode cX4_sum 33 = .ok (.getfield 55, 3) := by decide +kernel
theorem dX4_sum_36 : decode cX4_sum 36 = .ok (.sipush 1000, 3) := by decide +kernel
theorem dX4_sum_39 : decode cX4_sum 39 = .ok (.iload_n 1, 1) := by decide +kernel
theorem dX4_sum_40 : decode cX4_sum 40 = .ok (.imul, 1) := by decide +kernel
theorem dX4_sum_41 : decode cX4_sum 41 = .ok (.iload_n 3, 1) := by decide +kernel
theorem dX4_sum_42 : decode cX4_sum 42 = .ok (.iadd, 1) := by decide +kernel
theorem dX4_sum_43 : decode cX4_sum 43 = .ok (.iaload, 1) := by decide +kernel
theorem dX4_sum_44 : decode cX4_sum 44 = .ok (.imul, 1) := by decide +kernel
theorem dX4_sum_45 : decode cX4_sum 45 = .ok (.iadd, 1) := by decide +kernel
theorem dX4_sum_46 : decode cX4_sum 46 = .ok (.istore_n 2, 1) := by decide +kernel
theorem dX4_sum_47 : decode cX4_sum 47 = .ok (.iinc 3 1, 3) := by decide +kernel
theorem dX4_sum_50 : decode cX4_sum 50 = .ok (.goto (-27), 3) := by decide +kernel
theorem dX4_sum_53 : decode cX4_sum 53 = .ok (.aload_n 0, 1) := by decide +kernel
theorem dX4_sum_54 : decode cX4_sum 54 = .ok (.iload_n 2, 1) := by decide +kernel
theorem dX4_sum_55 : decode cX4_sum 55 = .ok (.invokevirtual 195, 3) := by decide +kernel
theorem dX4_sum_58 : decode cX4_sum 58 = .ok (.ireturn, 1) := by decide +kernel
theorem dX4_heavy_0 : decode cX4_heavy 0 = .ok (.aload_n 0, 1) := by decide +kernel
theorem dX4_heavy_1 : decode cX4_heavy 1 = .ok (.iconst 0, 1) := by decide +kernel
theorem dX4_heavy_2 : decode cX4_heavy 2 = .ok (.putfield 61, 3) := by decide +kernel
theorem dX4_heavy_5 : decode cX4_heavy 5 = .ok (.aload_n 0, 1) := by decide +kernel
theorem dX4_heavy_6 : decode cX4_heavy 6 = .ok (.iload_n 1, 1) := by decide +kernel
theorem dX4_heavy_7 : decode cX4_heavy 7 = .ok (.invokevirtual 247, 3) := by decide +kernel
theorem dX4_heavy_10 : decode cX4_heavy 10 = .ok (.ifCond .eq 7, 3) := by decide +kernel
theorem dX4_heavy_13 : decode cX4_heavy 13 = .ok (.iload_n 3, 1) := by decide +kernel
theorem dX4_heavy_14 : decode cX4_heavy 14 = .ok (.ifCond .ge 9, 3) := by decide +kernel
theorem dX4_heavy_17 : decode cX4_heavy 17 = .ok (.aload_n 0, 1) := by decide +kernel
theorem dX4_heavy_18 : decode cX4_heavy 18 = .ok (.iconst 1, 1) := by decide +kernel
theorem dX4_heavy_19 : decode cX4_heavy 19 = .ok (.invokevirtual 179, 3) := by decide +kernel
theorem dX4_heavy_22 : decode cX4_heavy 22 = .ok (.ireturn, 1) := by decide +kernel
theorem dX4_heavy_23 : decode cX4_heavy 23 = .ok (.iload_n 2, 1) := by decide +kernel
theorem dX4_heavy_24 : decode cX4_heavy 24 = .ok (.iconst 1, 1) := by decide +kernel
theorem dX4_heavy_25 : decode cX4_heavy 25 = .ok (.bipush 100, 2) := by decide +kernel
theorem dX4_heavy_27 : decode cX4_heavy 27 = .ok (.invokestatic 86, 3) := by decide +kernel
theorem dX4_heavy_30 : decode cX4_heavy 30 = .ok (.ifCond .ne 9, 3) := by decide +kernel
theorem dX4_heavy_33 : decode cX4_heavy 33 = .ok (.aload_n 0, 1) := by decide +kernel
theorem dX4_heavy_34 : decode cX4_heavy 34 = .ok (.iconst 2, 1) := by decide +kernel
theorem dX4_heavy_35 : decode cX4_heavy 35 = .ok (.invokevirtual 179, 3) := by decide +kernel
theorem dX4_heavy_38 : decode cX4_heavy 38 = .ok (.ireturn, 1) := by decide +kernel
theorem dX4_heavy_39 : decode cX4_heavy 39 = .ok (.iload_n 3, 1) := by decide +kernel
theorem dX4_heavy_40 : decode cX4_heavy 40 = .ok (.istore 4, 2) := by decide +kernel
theorem dX4_heavy_42 : decode cX4_heavy 42 = .ok (.iconst 0, 1) := by decide +kernel
theorem dX4_heavy_43 : decode cX4_heavy 43 = .ok (.istore 5, 2) := by decide +kernel
theorem dX4_heavy_45 : decode cX4_heavy 45 = .ok (.iload 5, 2) := by decide +kernel
theorem dX4_heavy_47 : decode cX4_heavy 47 = .ok (.aload_n 0, 1) := by decide +kernel
theorem dX4_heavy_48 : decode cX4_heavy 48 = .ok (.getfield 40, 3) := by decide +kernel
theorem dX4_heavy_51 : decode cX4_heavy 51 = .ok (.iload_n 1, 1) := by decide +kernel
theorem dX4_heavy_52 : decode cX4_heavy 52 = .ok (.iaload, 1) := by decide +kernel
theorem dX4_heavy_53 : decode cX4_heavy 53 = .ok (.if_icmp .ge 87, 3) := by decide +kernel
theorem dX4_heavy_56 : decode cX4_heavy 56 = .ok (.aload_n 0, 1) := by decide +kernel
theorem dX4_heavy_57 : decode cX4_heavy 57 = .ok (.getfield 31, 3) := by decide +kernel
theorem dX4_heavy_60 : decode cX4_heavy 60 = .ok (.sipush 1000, 3) := by decide +kernel
theorem dX4_heavy_63 : decode cX4_heavy 63 = .ok (.iload_n 1, 1) := by decide +kernel
theorem dX4_heavy_64 : decode cX4_heavy 64 = .ok (.imul, 1) := by decide +kernel
theorem dX4_heavy_65 : decode cX4_heavy 65 = .ok (.iload 5, 2) := by decide +kernel
theorem dX4_heavy_67 : decode cX4_heavy 67 = .ok (.iadd, 1) := by decide +kernel
theorem dX4_heavy_68 : decode cX4_heavy 68 = .ok (.iaload, 1) := by decide +kernel
theorem dX4_heavy_69 : decode cX4_heavy 69 = .ok (.istore 6, 2) := by decide +kernel
theorem dX4_heavy_71 : decode cX4_heavy 71 = .ok (.iload 5, 2) := by decide +kernel
theorem dX4_heavy_73 : decode cX4_heavy 73 = .ok (.ifCond .le 23, 3) := by decide +kernel
theorem dX4_heavy_76 : decode cX4_heavy 76 = .ok (.iload 6, 2) := by decide +kernel
theorem dX4_heavy_78 : decode cX4_heavy 78 = .ok (.aload_n 0, 1) := by decide +kernel
theorem dX4_heavy_79 : decode cX4_heavy 79 = .ok (.getfield 31, 3) := by decide +kernel
theorem dX4_heavy_82 : decode cX4_heavy 82 = .ok (.sipush 1000, 3) := by decide +kernel
theorem dX4_heavy_85 : decode cX4_heavy 85 = .ok (.iload_n 1, 1) := by decide +kernel
theorem dX4_heavy_86 : decode cX4_heavy 86 = .ok (.imul, 1) := by decide +kernel
theorem dX4_heavy_87 : decode cX4_heavy 87 = .ok (.iload 5, 2) := by decide +kernel
theorem dX4_heavy_89 : decode cX4_heavy 89 = .ok (.iadd, 1) := by decide +kernel
theorem dX4_heavy_90 : decode cX4_heavy 90 = .ok (.iconst 1, 1) := by decide +kernel
theorem dX4_heavy_91 : decode cX4_heavy 91 = .ok (.isub, 1) := by decide +kernel
theorem dX4_heavy_92 : decode cX4_heavy 92 = .ok (.iaload, 1) := by decide +kernel
theorem dX4_heavy_93 : decode cX4_heavy 93 = .ok (.if_icmp .eq 41, 3) := by decide +kernel
theorem dX4_heavy_96 : decode cX4_heavy 96 = .ok (.aload_n 0, 1) := by decide +kernel
theorem dX4_heavy_97 : decode cX4_heavy 97 = .ok (.iload_n 1, 1) := by decide +kernel
theorem dX4_heavy_98 : decode cX4_heavy 98 = .ok (.iload 6, 2) := by decide +kernel
theorem dX4_heavy_100 : decode cX4_heavy 100 = .ok (.iload 6, 2) := by decide +kernel
theorem dX4_heavy_102 : decode cX4_heavy 102 = .ok (.invokevirtual 307, 3) := by decide +kernel
theorem dX4_heavy_105 : decode cX4_heavy 105 = .ok (.iload_n 2, 1) := by decide +kernel
theorem dX4_heavy_106 : decode cX4_heavy 106 = .ok (.imul, 1) := by decide +kernel
theorem dX4_heavy_107 : decode cX4_heavy 107 = .ok (.aload_n 0, 1) := by decide +kernel
theorem dX4_heavy_108 : decode cX4_heavy 108 = .ok (.getfield 43, 3) := by decide +kernel
theorem dX4_heavy_111 : decode cX4_heavy 111 = .ok (.iload_n 1, 1) := by decide +kernel
theorem dX4_heavy_112 : decode cX4_heavy 112 = .ok (.iaload, 1) := by decide +kernel
theorem dX4_heavy_113 : decode cX4_heavy 113 = .ok (.if_icmp .ge 6, 3) := by decide +kernel
theorem dX4_heavy_116 : decode cX4_heavy 116 = .ok (.goto 18, 3) := by decide +kernel
theorem dX4_heavy_119 : decode cX4_heavy 119 = .ok (.iload 4, 2) := by decide +kernel
theorem dX4_heavy_121 : decode cX4_heavy 121 = .ok (.ifCond .ne 10, 3) := by decide +kernel
theorem dX4_heavy_124 : decode cX4_heavy 124 = .ok (.aload_n 0, 1) := by decide +kernel
theorem dX4_heavy_125 : decode cX4_heavy 125 = .ok (.iload 6, 2) := by decide +kernel
theorem dX4_heavy_127 : decode cX4_heavy 127 = .ok (.invokevirtual 195, 3) := by decide +kernel
theorem dX4_heavy_130 : decode cX4_heavy 130 = .ok (.ireturn, 1) := by decide +kernel
theorem dX4_heavy_131 : decode cX4_heavy 131 = .ok (.iinc 4 (-1), 3) := by decide +kernel
theorem dX4_heavy_134 : decode cX4_heavy 134 = .ok (.iinc 5 1, 3) := by decide +kernel
theorem dX4_heavy_137 : decode cX4_heavy 137 = .ok (.goto (-92), 3) := by decide +kernel
theorem dX4_heavy_140 : decode cX4_heavy 140 = .ok (.aload_n 0, 1) := by decide +kernel
theorem dX4_heavy_141 : decode cX4_heavy 141 = .ok (.bipush (-2), 2) := by decide +kernel
theorem dX4_heavy_143 : decode cX4_heavy 143 = .ok (.invokevirtual 195, 3) := by decide +kernel
theorem dX4_heavy_146 : decode cX4_heavy 146 = .ok (.ireturn, 1) := by decide +kernel
theorem dX4_areTwo_0 : decode cX4_areTwo 0 = .ok (.aload_n 0, 1) := by decide +kernel
theorem dX4_areTwo_1 : decode cX4_areTwo 1 = .ok (.iload_n 1, 1) := by decide +kernel
theorem dX4_areTwo_2 : decode cX4_areTwo 2 = .ok (.invokevirtual 247, 3) := by decide +kernel
theorem dX4_areTwo_5 : decode cX4_areTwo 5 = .ok (.ifCond .eq 20, 3) := by decide +kernel
theorem dX4_areTwo_8 : decode cX4_areTwo 8 = .ok (.aload_n 0, 1) := by decide +kernel
theorem dX4_areTwo_9 : decode cX4_areTwo 9 = .ok (.iload_n 2, 1) := by decide +kernel
theorem dX4_areTwo_10 : decode cX4_areTwo 10 = .ok (.invokevirtual 247, 3) := by decide +kernel
theorem dX4_areTwo_13 : decode cX4_areTwo 13 = .ok (.ifCond .eq 12, 3) := by decide +kernel
theorem dX4_areTwo_16 : decode cX4_areTwo 16 = .ok (.iload_n 1, 1) := by decide +kernel
theorem dX4_areTwo_17 : decode cX4_areTwo 17 = .ok (.iload_n 2, 1) := by decide +kernel
theorem dX4_areTwo_18 : decode cX4_areTwo 18 = .ok (.if_icmp .eq 7, 3) := by decide +kernel
theorem dX4_areTwo_21 : decode cX4_areTwo 21 = .ok (.iconst 1, 1) := by decide +kernel
theorem dX4_areTwo_22 : decode cX4_areTwo 22 = .ok (.goto 4, 3) := by decide +kernel
theorem dX4_areTwo_25 : decode cX4_areTwo 25 = .ok (.iconst 0, 1) := by decide +kernel
theorem dX4_areTwo_26 : decode cX4_areTwo 26 = .ok (.ireturn, 1) := by decide +kernel
theorem dX4_between__0 : decode cX4_between_ 0 = .ok (.bipush 100, 2) := by decide +kernel
theorem dX4_between__2 : decode cX4_between_ 2 = .ok (.aload_n 0, 1) := by decide +kernel
theorem dX4_between__3 : decode cX4_between_ 3 = .ok (.iload_n 1, 1) := by decide +kernel
theorem dX4_between__4 : decode cX4_between_ 4 = .ok (.iload_n 3, 1) := by decide +kernel
theorem dX4_between__5 : decode cX4_between_ 5 = .ok (.invokevirtual 288, 3) := by decide +kernel
theorem dX4_between__8 : decode cX4_between_ 8 = .ok (.imul, 1) := by decide +kernel
theorem dX4_between__9 : decode cX4_between_ 9 = .ok (.aload_n 0, 1) := by decide +kernel
theorem dX4_between__10 : decode cX4_between_ 10 = .ok (.getfield 43, 3) := by decide +kernel
theorem dX4_between__13 : decode cX4_between_ 13 = .ok (.iload_n 2, 1) := by decide +kernel
theorem dX4_between__14 : decode cX4_between_ 14 = .ok (.iaload, 1) := by decide +kernel
theorem dX4_between__15 : decode cX4_between_ 15 = .ok (.imul, 1) := by decide +kernel
theorem dX4_between__16 : decode cX4_between_ 16 = .ok (.bipush 100, 2) := by decide +kernel
theorem dX4_between__18 : decode cX4_between_ 18 = .ok (.aload_n 0, 1) := by decide +kernel
theorem dX4_between__19 : decode cX4_between_ 19 = .ok (.iload_n 2, 1) := by decide +kernel
theorem dX4_between__20 : decode cX4_between_ 20 = .ok (.iload_n 3, 1) := by decide +kernel
theorem dX4_between__21 : decode cX4_between_ 21 = .ok (.invokevirtual 285, 3) := by decide +kernel
theorem dX4_between__24 : decode cX4_between_ 24 = .ok (.imul, 1) := by decide +kernel
theorem dX4_between__25 : decode cX4_between_ 25 = .ok (.aload_n 0, 1) := by decide +kernel
theorem dX4_between__26 : decode cX4_between_ 26 = .ok (.getfield 43, 3) := by decide +kernel
theorem dX4_between__29 : decode cX4_between_ 29 = .ok (.iload_n 1, 1) := by decide +kernel
theorem dX4_between__30 : decode cX4_between_ 30 = .ok (.iaload, 1) := by decide +kernel
theorem dX4_between__31 : decode cX4_between_ 31 = .ok (.imul, 1) := by decide +kernel
theorem dX4_between__32 : decode cX4_between_ 32 = .ok (.isub, 1) := by decide +kernel
theorem dX4_between__33 : decode cX4_between_ 33 = .ok (.istore 4, 2) := by decide +kernel
theorem dX4_between__35 : decode cX4_between_ 35 = .ok (.iload 4, 2) := by decide +kernel
theorem dX4_between__37 : decode cX4_between_ 37 = .ok (.aload_n 0, 1) := by decide +kernel
theorem dX4_between__38 : decode cX4_between_ 38 = .ok (.getfield 43, 3) := by decide +kernel
theorem dX4_between__41 : decode cX4_between_ 41 = .ok (.iload_n 1, 1) := by decide +kernel
theorem dX4_between__42 : decode cX4_between_ 42 = .ok (.iaload, 1) := by decide +kernel
theorem dX4_between__43 : decode cX4_between_ 43 = .ok (.aload_n 0, 1) := by decide +kernel
theorem dX4_between__44 : decode cX4_between_ 44 = .ok (.getfield 43, 3) := by decide +kernel
theorem dX4_between__47 : decode cX4_between_ 47 = .ok (.iload_n 2, 1) := by decide +kernel
theorem dX4_between__48 : decode cX4_between_ 48 = .ok (.iaload, 1) := by decide +kernel
theorem dX4_between__49 : decode cX4_between_ 49 = .ok (.imul, 1) := by decide +kernel
theorem dX4_between__50 : decode cX4_between_ 50 = .ok (.idiv, 1) := by decide +kernel
theorem dX4_between__51 : decode cX4_between_ 51 = .ok (.ireturn, 1) := by decide +kernel
theorem dX4_apartBy_0 : decode cX4_apartBy 0 = .ok (.iconst 0, 1) := by decide +kernel
theorem dX4_apartBy_1 : decode cX4_apartBy 1 = .ok (.istore 4, 2) := by decide +kernel
theorem dX4_apartBy_3 : decode cX4_apartBy 3 = .ok (.iconst 0, 1) := by decide +kernel
theorem dX4_apartBy_4 : decode cX4_apartBy 4 = .ok (.istore 5, 2) := by decide +kernel
theorem dX4_apartBy_6 : decode cX4_apartBy 6 = .ok (.iload 5, 2) := by decide +kernel
theorem dX4_apartBy_8 : decode cX4_apartBy 8 = .ok (.aload_n 0, 1) := by decide +kernel
theorem dX4_apartBy_9 : decode cX4_apartBy 9 = .ok (.getfield 40, 3) := by decide +kernel
theorem dX4_apartBy_12 : decode cX4_apartBy 12 = .ok (.iload_n 3, 1) := by decide +kernel
theorem dX4_apartBy_13 : decode cX4_apartBy 13 = .ok (.iaload, 1) := by decide +kernel
theorem dX4_apartBy_14 : decode cX4_apartBy 14 = .ok (.if_icmp .ge 41, 3) := by decide +kernel
theorem dX4_apartBy_17 : decode cX4_apartBy 17 = .ok (.aload_n 0, 1) := by decide +kernel
theorem dX4_apartBy_18 : decode cX4_apartBy 18 = .ok (.iload_n 1, 1) := by decide +kernel
theorem dX4_apartBy_19 : decode cX4_apartBy 19 = .ok (.iload_n 2, 1) := by decide +kernel
theorem dX4_apartBy_20 : decode cX4_apartBy 20 = .ok (.aload_n 0, 1) := by decide +kernel
theorem dX4_apartBy_21 : decode cX4_apartBy 21 = .ok (.getfield 31, 3) := by decide +kernel
theorem dX4_apartBy_24 : decode cX4_apartBy 24 = .ok (.sipush 1000, 3) := by decide +kernel
theorem dX4_apartBy_27 : decode cX4_apartBy 27 = .ok (.iload_n 3, 1) := by decide +kernel
theorem dX4_apartBy_28 : decode cX4_apartBy 28 = .ok (.imul, 1) := by decide +kernel
theorem dX4_apartBy_29 : decode cX4_apartBy 29 = .ok (.iload 5, 2) := by decide +kernel
theorem dX4_apartBy_31 : decode cX4_apartBy 31 = .ok (.iadd, 1) := by decide +kernel
theorem dX4_apartBy_32 : decode cX4_apartBy 32 = .ok (.iaload, 1) := by decide +kernel
theorem dX4_apartBy_33 : decode cX4_apartBy 33 = .ok (.invokevirtual 319, 3) := by decide +kernel
theorem dX4_apartBy_36 : decode cX4_apartBy 36 = .ok (.istore 6, 2) := by decide +kernel
theorem dX4_apartBy_38 : decode cX4_apartBy 38 = .ok (.iload 6, 2) := by decide +kernel
theorem dX4_apartBy_40 : decode cX4_apartBy 40 = .ok (.iload 4, 2) := by decide +kernel
theorem dX4_apartBy_42 : decode cX4_apartBy 42 = .ok (.if_icmp .le 7, 3) := by decide +kernel
theorem dX4_apartBy_45 : decode cX4_apartBy 45 = .ok (.iload 6, 2) := by decide +kernel
theorem dX4_apartBy_47 : decode cX4_apartBy 47 = .ok (.istore 4, 2) := by decide +kernel
theorem dX4_apartBy_49 : decode cX4_apartBy 49 = .ok (.iinc 5 1, 3) := by decide +kernel
theorem dX4_apartBy_52 : decode cX4_apartBy 52 = .ok (.goto (-46), 3) := by decide +kernel
theorem dX4_apartBy_55 : decode cX4_apartBy 55 = .ok (.iload 4, 2) := by decide +kernel
theorem dX4_apartBy_57 : decode cX4_apartBy 57 = .ok (.ireturn, 1) := by decide +kernel
theorem dX4_apart_0 : decode cX4_apart 0 = .ok (.aload_n 0, 1) := by decide +kernel
theorem dX4_apart_1 : decode cX4_apart 1 = .ok (.iconst 0, 1) := by decide +kernel
theorem dX4_apart_2 : decode cX4_apart 2 = .ok (.putfield 61, 3) := by decide +kernel
theorem dX4_apart_5 : decode cX4_apart 5 = .ok (.aload_n 0, 1) := by decide +kernel
theorem dX4_apart_6 : decode cX4_apart 6 = .ok (.iload_n 1, 1) := by decide +kernel
theorem dX4_apart_7 : decode cX4_apart 7 = .ok (.iload_n 2, 1) := by decide +kernel
theorem dX4_apart_8 : decode cX4_apart 8 = .ok (.invokevirtual 295, 3) := by decide +kernel
theorem dX4_apart_11 : decode cX4_apart 11 = .ok (.ifCond .ne 9, 3) := by decide +kernel
theorem dX4_apart_14 : decode cX4_apart 14 = .ok (.aload_n 0, 1) := by decide +kernel
theorem dX4_apart_15 : decode cX4_apart 15 = .ok (.iconst 1, 1) := by decide +kernel
theorem dX4_apart_16 : decode cX4_apart 16 = .ok (.invokevirtual 179, 3) := by decide +kernel
theorem dX4_apart_19 : decode cX4_apart 19 = .ok (.ireturn, 1) := by decide +kernel
theorem dX4_apart_20 : decode cX4_apart 20 = .ok (.aload_n 0, 1) := by decide +kernel
theorem dX4_apart_21 : decode cX4_apart 21 = .ok (.getfield 43, 3) := by decide +kernel
theorem dX4_apart_24 : decode cX4_apart 24 = .ok (.iload_n 1, 1) := by decide +kernel
theorem dX4_apart_25 : decode cX4_apart 25 = .ok (.iaload, 1) := by decide +kernel
theorem dX4_apart_26 : decode cX4_apart 26 = .ok (.ifCond .eq 12, 3) := by decide +kernel
theorem dX4_apart_29 : decode cX4_apart 29 = .ok (.aload_n 0, 1) := by decide +kernel
theorem dX4_apart_30 : decode cX4_apart 30 = .ok (.getfield 43, 3) := by decide +kernel
theorem dX4_apart_33 : decode cX4_apart 33 = .ok (.iload_n 2, 1) := by decide +kernel
theorem dX4_apart_34 : decode cX4_apart 34 = .ok (.iaload, 1) := by decide +kernel
theorem dX4_apart_35 : decode cX4_apart 35 = .ok (.ifCond .ne 9, 3) := by decide +kernel
theorem dX4_apart_38 : decode cX4_apart 38 = .ok (.aload_n 0, 1) := by decide +kernel
theorem dX4_apart_39 : decode cX4_apart 39 = .ok (.iconst 5, 1) := by decide +kernel
theorem dX4_apart_40 : decode cX4_apart 40 = .ok (.invokevirtual 179, 3) := by decide +kernel
theorem dX4_apart_43 : decode cX4_apart 43 = .ok (.ireturn, 1) := by decide +kernel
theorem dX4_apart_44 : decode cX4_apart 44 = .ok (.iconst 0, 1) := by decide +kernel
theorem dX4_apart_45 : decode cX4_apart 45 = .ok (.istore_n 3, 1) := by decide +kernel
theorem dX4_apart_46 : decode cX4_apart 46 = .ok (.iconst 0, 1) := by decide +kernel
theorem dX4_apart_47 : decode cX4_apart 47 = .ok (.istore 4, 2) := by decide +kernel
theorem dX4_apart_49 : decode cX4_apart 49 = .ok (.iload 4, 2) := by decide +kernel
theorem dX4_apart_51 : decode cX4_apart 51 = .ok (.iconst 4, 1) := by decide +kernel
theorem dX4_apart_52 : decode cX4_apart 52 = .ok (.if_icmp .ge 62, 3) := by decide +kernel
theorem dX4_apart_55 : decode cX4_apart 55 = .ok (.iload 4, 2) := by decide +kernel
theorem dX4_apart_57 : decode cX4_apart 57 = .ok (.iconst 2, 1) := by decide +kernel
theorem dX4_apart_58 : decode cX4_apart 58 = .ok (.if_icmp .ge 22, 3) := by decide +kernel
theorem dX4_apart_61 : decode cX4_apart 61 = .ok (.aload_n 0, 1) := by decide +kernel
theorem dX4_apart_62 : decode cX4_apart 62 = .ok (.iload_n 1, 1) := by decide +kernel
theorem dX4_apart_63 : decode cX4_apart 63 = .ok (.iload_n 2, 1) := by decide +kernel
theorem dX4_apart_64 : decode cX4_apart 64 = .ok (.iload 4, 2) := by decide +kernel
theorem dX4_apart_66 : decode cX4_apart 66 = .ok (.ifCond .ne 7, 3) := by decide +kernel
theorem dX4_apart_69 : decode cX4_apart 69 = .ok (.iload_n 1, 1) := by decide +kernel
theorem dX4_apart_70 : decode cX4_apart 70 = .ok (.goto 4, 3) := by decide +kernel
theorem dX4_apart_73 : decode cX4_apart 73 = .ok (.iload_n 2, 1) := by decide +kernel
theorem dX4_apart_74 : decode cX4_apart 74 = .ok (.invokevirtual 322, 3) := by decide +kernel
theorem dX4_apart_77 : decode cX4_apart 77 = .ok (.goto 20, 3) := by decide +kernel
theorem dX4_apart_80 : decode cX4_apart 80 = .ok (.aload_n 0, 1) := by decide +kernel
theorem dX4_apart_81 : decode cX4_apart 81 = .ok (.iload_n 2, 1) := by decide +kernel
theorem dX4_apart_82 : decode cX4_apart 82 = .ok (.iload_n 1, 1) := by decide +kernel
theorem dX4_apart_83 : decode cX4_apart 83 = .ok (.iload 4, 2) := by decide +kernel
theorem dX4_apart_85 : decode cX4_apart 85 = .ok (.iconst 2, 1) := by decide +kernel
theorem dX4_apart_86 : decode cX4_apart 86 = .ok (.if_icmp .ne 7, 3) := by decide +kernel
theorem dX4_apart_89 : decode cX4_apart 89 = .ok (.iload_n 1, 1) := by decide +kernel
theorem dX4_apart_90 : decode cX4_apart 90 = .ok (.goto 4, 3) := by decide +kernel
theorem dX4_apart_93 : decode cX4_apart 93 = .ok (.iload_n 2, 1) := by decide +kernel
theorem dX4_apart_94 : decode cX4_apart 94 = .ok (.invokevirtual 322, 3) := by decide +kernel
theorem dX4_apart_97 : decode cX4_apart 97 = .ok (.istore 5, 2) := by decide +kernel
theorem dX4_apart_99 : decode cX4_apart 99 = .ok (.iload 5, 2) := by decide +kernel
theorem dX4_apart_101 : decode cX4_apart 101 = .ok (.iload_n 3, 1) := by decide +kernel
theorem dX4_apart_102 : decode cX4_apart 102 = .ok (.if_icmp .le 6, 3) := by decide +kernel
theorem dX4_apart_105 : decode cX4_apart 105 = .ok (.iload 5, 2) := by decide +kernel
theorem dX4_apart_107 : decode cX4_apart 107 = .ok (.istore_n 3, 1) := by decide +kernel
theorem dX4_apart_108 : decode cX4_apart 108 = .ok (.iinc 4 1, 3) := by decide +kernel
theorem dX4_apart_111 : decode cX4_apart 111 = .ok (.goto (-62), 3) := by decide +kernel
theorem dX4_apart_114 : decode cX4_apart 114 = .ok (.aload_n 0, 1) := by decide +kernel
theorem dX4_apart_115 : decode cX4_apart 115 = .ok (.iload_n 3, 1) := by decide +kernel
theorem dX4_apart_116 : decode cX4_apart 116 = .ok (.invokevirtual 195, 3) := by decide +kernel
theorem dX4_apart_119 : decode cX4_apart 119 = .ok (.ireturn, 1) := by decide +kernel
theorem dX4_wins_0 : decode cX4_wins 0 = .ok (.aload_n 0, 1) := by decide +kernel
theorem dX4_wins_1 : decode cX4_wins 1 = .ok (.iconst 0, 1) := by decide +kernel
theorem dX4_wins_2 : decode cX4_wins 2 = .ok (.putfield 61, 3) := by decide +kernel
theorem dX4_wins_5 : decode cX4_wins 5 = .ok (.aload_n 0, 1) := by decide +kernel
theorem dX4_wins_6 : decode cX4_wins 6 = .ok (.iload_n 1, 1) := by decide +kernel
theorem dX4_wins_7 : decode cX4_wins 7 = .ok (.iload_n 2, 1) := by decide +kernel
theorem dX4_wins_8 : decode cX4_wins 8 = .ok (.invokevirtual 295, 3) := by decide +kernel
theorem dX4_wins_11 : decode cX4_wins 11 = .ok (.ifCond .ne 9, 3) := by decide +kernel
theorem dX4_wins_14 : decode cX4_wins 14 = .ok (.aload_n 0, 1) := by decide +kernel
theorem dX4_wins_15 : decode cX4_wins 15 = .ok (.iconst 1, 1) := by decide +kernel
theorem dX4_wins_16 : decode cX4_wins 16 = .ok (.invokevirtual 179, 3) := by decide +kernel
theorem dX4_wins_19 : decode cX4_wins 19 = .ok (.ireturn, 1) := by decide +kernel
theorem dX4_wins_20 : decode cX4_wins 20 = .ok (.iconst 0, 1) := by decide +kernel
theorem dX4_wins_21 : decode cX4_wins 21 = .ok (.istore 4, 2) := by decide +kernel
theorem dX4_wins_23 : decode cX4_wins 23 = .ok (.iconst 1, 1) := by decide +kernel
theorem dX4_wins_24 : decode cX4_wins 24 = .ok (.istore 5, 2) := by decide +kernel
theorem dX4_wins_26 : decode cX4_wins 26 = .ok (.iload 5, 2) := by decide +kernel
theorem dX4_wins_28 : decode cX4_wins 28 = .ok (.aload_n 0, 1) := by decide +kernel
theorem dX4_wins_29 : decode cX4_wins 29 = .ok (.getfield 43, 3) := by decide +kernel
theorem dX4_wins_32 : decode cX4_wins 32 = .ok (.iload_n 1, 1) := by decide +kernel
theorem dX4_wins_33 : decode cX4_wins 33 = .ok (.iaload, 1) := by decide +kernel
theorem dX4_wins_34 : decode cX4_wins 34 = .ok (.if_icmp .gt 52, 3) := by decide +kernel
theorem dX4_wins_37 : decode cX4_wins 37 = .ok (.iload 4, 2) := by decide +kernel
theorem dX4_wins_39 : decode cX4_wins 39 = .ok (.aload_n 0, 1) := by decide +kernel
theorem dX4_wins_40 : decode cX4_wins 40 = .ok (.getfield 43, 3) := by decide +kernel
theorem dX4_wins_43 : decode cX4_wins 43 = .ok (.iload_n 2, 1) := by decide +kernel
theorem dX4_wins_44 : decode cX4_wins 44 = .ok (.iaload, 1) := by decide +kernel
theorem dX4_wins_45 : decode cX4_wins 45 = .ok (.iload_n 3, 1) := by decide +kernel
theorem dX4_wins_46 : decode cX4_wins 46 = .ok (.ifCond .eq 18, 3) := by decide +kernel
theorem dX4_wins_49 : decode cX4_wins 49 = .ok (.aload_n 0, 1) := by decide +kernel
theorem dX4_wins_50 : decode cX4_wins 50 = .ok (.iload_n 2, 1) := by decide +kernel
theorem dX4_wins_51 : decode cX4_wins 51 = .ok (.aload_n 0, 1) := by decide +kernel
theorem dX4_wins_52 : decode cX4_wins 52 = .ok (.iload_n 1, 1) := by decide +kernel
theorem dX4_wins_53 : decode cX4_wins 53 = .ok (.iload 5, 2) := by decide +kernel
theorem dX4_wins_55 : decode cX4_wins 55 = .ok (.invokevirtual 301, 3) := by decide +kernel
theorem dX4_wins_58 : decode cX4_wins 58 = .ok (.invokevirtual 288, 3) := by decide +kernel
theorem dX4_wins_61 : decode cX4_wins 61 = .ok (.goto 15, 3) := by decide +kernel
theorem dX4_wins_64 : decode cX4_wins 64 = .ok (.aload_n 0, 1) := by decide +kernel
theorem dX4_wins_65 : decode cX4_wins 65 = .ok (.iload_n 2, 1) := by decide +kernel
theorem dX4_wins_66 : decode cX4_wins 66 = .ok (.aload_n 0, 1) := by decide +kernel
theorem dX4_wins_67 : decode cX4_wins 67 = .ok (.iload_n 1, 1) := by decide +kernel
theorem dX4_wins_68 : decode cX4_wins 68 = .ok (.iload 5, 2) := by decide +kernel
theorem dX4_wins_70 : decode cX4_wins 70 = .ok (.invokevirtual 298, 3) := by decide +kernel
theorem dX4_wins_73 : decode cX4_wins 73 = .ok (.invokevirtual 285, 3) := by decide +kernel
theorem dX4_wins_76 : decode cX4_wins 76 = .ok (.isub, 1) := by decide +kernel
theorem dX4_wins_77 : decode cX4_wins 77 = .ok (.iadd, 1) := by decide +kernel
theorem dX4_wins_78 : decode cX4_wins 78 = .ok (.istore 4, 2) := by decide +kernel
theorem dX4_wins_80 : decode cX4_wins 80 = .ok (.iinc 5 1, 3) := by decide +kernel
theorem dX4_wins_83 : decode cX4_wins 83 = .ok (.goto (-57), 3) := by decide +kernel
theorem dX4_wins_86 : decode cX4_wins 86 = .ok (.aload_n 0, 1) := by decide +kernel
theorem dX4_wins_87 : decode cX4_wins 87 = .ok (.iload 4, 2) := by decide +kernel
theorem dX4_wins_89 : decode cX4_wins 89 = .ok (.invokevirtual 195, 3) := by decide +kernel
theorem dX4_wins_92 : decode cX4_wins 92 = .ok (.ireturn, 1) := by decide +kernel
theorem dX4_would_0 : decode cX4_would 0 = .ok (.aload_n 0, 1) := by decide +kernel
theorem dX4_would_1 : decode cX4_would 1 = .ok (.iconst 0, 1) := by decide +kernel
theorem dX4_would_2 : decode cX4_would 2 = .ok (.putfield 61, 3) := by decide +kernel
theorem dX4_would_5 : decode cX4_would 5 = .ok (.aload_n 0, 1) := by decide +kernel
theorem dX4_would_6 : decode cX4_would 6 = .ok (.iload_n 1, 1) := by decide +kernel
theorem dX4_would_7 : decode cX4_would 7 = .ok (.iload_n 2, 1) := by decide +kernel
theorem dX4_would_8 : decode cX4_would 8 = .ok (.invokevirtual 295, 3) := by decide +kernel
theorem dX4_would_11 : decode cX4_would 11 = .ok (.ifCond .ne 9, 3) := by decide +kernel
theorem dX4_would_14 : decode cX4_would 14 = .ok (.aload_n 0, 1) := by decide +kernel
theorem dX4_would_15 : decode cX4_would 15 = .ok (.iconst 1, 1) := by decide +kernel
theorem dX4_would_16 : decode cX4_would 16 = .ok (.invokevirtual 179, 3) := by decide +kernel
theorem dX4_would_19 : decode cX4_would 19 = .ok (.ireturn, 1) := by decide +kernel
theorem dX4_would_20 : decode cX4_would 20 = .ok (.aload_n 0, 1) := by decide +kernel
theorem dX4_would_21 : decode cX4_would 21 = .ok (.getfield 43, 3) := by decide +kernel
theorem dX4_would_24 : decode cX4_would 24 = .ok (.iload_n 1, 1) := by decide +kernel
theorem dX4_would_25 : decode cX4_would 25 = .ok (.iaload, 1) := by decide +kernel
theorem dX4_would_26 : decode cX4_would 26 = .ok (.aload_n 0, 1) := by decide +kernel
theorem dX4_would_27 : decode cX4_would 27 = .ok (.getfield 43, 3) := by decide +kernel
theorem dX4_would_30 : decode cX4_would 30 = .ok (.iload_n 2, 1) := by decide +kernel
theorem dX4_would_31 : decode cX4_would 31 = .ok (.iaload, 1) := by decide +kernel
theorem dX4_would_32 : decode cX4_would 32 = .ok (.iadd, 1) := by decide +kernel
theorem dX4_would_33 : decode cX4_would 33 = .ok (.sipush 1000, 3) := by decide +kernel
theorem dX4_would_36 : decode cX4_would 36 = .ok (.if_icmp .le 9, 3) := by decide +kernel
theorem dX4_would_39 : decode cX4_would 39 = .ok (.aload_n 0, 1) := by decide +kernel
theorem dX4_would_40 : decode cX4_would 40 = .ok (.iconst 3, 1) := by decide +kernel
theorem dX4_would_41 : decode cX4_would 41 = .ok (.invokevirtual 179, 3) := by decide +kernel
theorem dX4_would_44 : decode cX4_would 44 = .ok (.ireturn, 1) := by decide +kernel
theorem dX4_would_45 : decode cX4_would 45 = .ok (.aload_n 0, 1) := by decide +kernel
theorem dX4_would_46 : decode cX4_would 46 = .ok (.iload_n 1, 1) := by decide +kernel
theorem dX4_would_47 : decode cX4_would 47 = .ok (.iload_n 2, 1) := by decide +kernel
theorem dX4_would_48 : decode cX4_would 48 = .ok (.iconst 4, 1) := by decide +kernel
theorem dX4_would_49 : decode cX4_would 49 = .ok (.invokevirtual 325, 3) := by decide +kernel
theorem dX4_would_52 : decode cX4_would 52 = .ok (.aload_n 0, 1) := by decide +kernel
theorem dX4_would_53 : decode cX4_would 53 = .ok (.aload_n 0, 1) := by decide +kernel
theorem dX4_would_54 : decode cX4_would 54 = .ok (.getfield 40, 3) := by decide +kernel
theorem dX4_would_57 : decode cX4_would 57 = .ok (.iconst 4, 1) := by decide +kernel
theorem dX4_would_58 : decode cX4_would 58 = .ok (.iaload, 1) := by decide +kernel
theorem dX4_would_59 : decode cX4_would 59 = .ok (.invokevirtual 195, 3) := by decide +kernel
theorem dX4_would_62 : decode cX4_would 62 = .ok (.ireturn, 1) := by decide +kernel
theorem dX4_spread_0 : decode cX4_spread 0 = .ok (.aload_n 0, 1) := by decide +kernel
theorem dX4_spread_1 : decode cX4_spread 1 = .ok (.iconst 0, 1) := by decide +kernel
theorem dX4_spread_2 : decode cX4_spread 2 = .ok (.putfield 61, 3) := by decide +kernel
theorem dX4_spread_5 : decode cX4_spread 5 = .ok (.aload_n 0, 1) := by decide +kernel
theorem dX4_spread_6 : decode cX4_spread 6 = .ok (.iload_n 1, 1) := by decide +kernel
theorem dX4_spread_7 : decode cX4_spread 7 = .ok (.invokevirtual 247, 3) := by decide +kernel
theorem dX4_spread_10 : decode cX4_spread 10 = .ok (.ifCond .ne 9, 3) := by decide +kernel
theorem dX4_spread_13 : decode cX4_spread 13 = .ok (.aload_n 0, 1) := by decide +kernel
theorem dX4_spread_14 : decode cX4_spread 14 = .ok (.iconst 1, 1) := by decide +kernel
theorem dX4_spread_15 : decode cX4_spread 15 = .ok (.invokevirtual 179, 3) := by decide +kernel
theorem dX4_spread_18 : decode cX4_spread 18 = .ok (.ireturn, 1) := by decide +kernel
theorem dX4_spread_19 : decode cX4_spread 19 = .ok (.iload_n 2, 1) := by decide +kernel
theorem dX4_spread_20 : decode cX4_spread 20 = .ok (.invokestatic 304, 3) := by decide +kernel
theorem dX4_spread_23 : decode cX4_spread 23 = .ok (.ifCond .eq 21, 3) := by decide +kernel
theorem dX4_spread_26 : decode cX4_spread 26 = .ok (.aload_n 0, 1) := by decide +kernel
theorem dX4_spread_27 : decode cX4_spread 27 = .ok (.aload_n 0, 1) := by decide +kernel
theorem dX4_spread_28 : decode cX4_spread 28 = .ok (.iload_n 1, 1) := by decide +kernel
theorem dX4_spread_29 : decode cX4_spread 29 = .ok (.aload_n 0, 1) := by decide +kernel
theorem dX4_spread_30 : decode cX4_spread 30 = .ok (.iload_n 1, 1) := by decide +kernel
theorem dX4_spread_31 : decode cX4_spread 31 = .ok (.iload_n 2, 1) := by decide +kernel
theorem dX4_spread_32 : decode cX4_spread 32 = .ok (.invokevirtual 205, 3) := by decide +kernel
theorem dX4_spread_35 : decode cX4_spread 35 = .ok (.invokevirtual 208, 3) := by decide +kernel
theorem dX4_spread_38 : decode cX4_spread 38 = .ok (.invokevirtual 195, 3) := by decide +kernel
theorem dX4_spread_41 : decode cX4_spread 41 = .ok (.goto 8, 3) := by decide +kernel
theorem dX4_spread_44 : decode cX4_spread 44 = .ok (.aload_n 0, 1) := by decide +kernel
theorem dX4_spread_45 : decode cX4_spread 45 = .ok (.iconst 2, 1) := by decide +kernel
theorem dX4_spread_46 : decode cX4_spread 46 = .ok (.invokevirtual 179, 3) := by decide +kernel
theorem dX4_spread_49 : decode cX4_spread 49 = .ok (.ireturn, 1) := by decide +kernel
theorem dX4_finest_0 : decode cX4_finest 0 = .ok (.aload_n 0, 1) := by decide +kernel
theorem dX4_finest_1 : decode cX4_finest 1 = .ok (.iconst 0, 1) := by decide +kernel
theorem dX4_finest_2 : decode cX4_finest 2 = .ok (.putfield 61, 3) := by decide +kernel
theorem dX4_finest_5 : decode cX4_finest 5 = .ok (.aload_n 0, 1) := by decide +kernel
theorem dX4_finest_6 : decode cX4_finest 6 = .ok (.iload_n 1, 1) := by decide +kernel
theorem dX4_finest_7 : decode cX4_finest 7 = .ok (.invokevirtual 247, 3) := by decide +kernel
theorem dX4_finest_10 : decode cX4_finest 10 = .ok (.ifCond .ne 9, 3) := by decide +kernel
theorem dX4_finest_13 : decode cX4_finest 13 = .ok (.aload_n 0, 1) := by decide +kernel
theorem dX4_finest_14 : decode cX4_finest 14 = .ok (.iconst 1, 1) := by decide +kernel
theorem dX4_finest_15 : decode cX4_finest 15 = .ok (.invokevirtual 179, 3) := by decide +kernel
theorem dX4_finest_18 : decode cX4_finest 18 = .ok (.ireturn, 1) := by decide +kernel
theorem dX4_finest_19 : decode cX4_finest 19 = .ok (.bipush 40, 2) := by decide +kernel
theorem dX4_finest_21 : decode cX4_finest 21 = .ok (.istore_n 2, 1) := by decide +kernel
theorem dX4_finest_22 : decode cX4_finest 22 = .ok (.iload_n 2, 1) := by decide +kernel
theorem dX4_finest_23 : decode cX4_finest 23 = .ok (.iconst 1, 1) := by decide +kernel
theorem dX4_finest_24 : decode cX4_finest 24 = .ok (.if_icmp .le 33, 3) := by decide +kernel
theorem dX4_finest_27 : decode cX4_finest 27 = .ok (.aload_n 0, 1) := by decide +kernel
theorem dX4_finest_28 : decode cX4_finest 28 = .ok (.iload_n 1, 1) := by decide +kernel
theorem dX4_finest_29 : decode cX4_finest 29 = .ok (.invokevirtual 251, 3) := by decide +kernel
theorem dX4_finest_32 : decode cX4_finest 32 = .ok (.aload_n 0, 1) := by decide +kernel
theorem dX4_finest_33 : decode cX4_finest 33 = .ok (.getfield 43, 3) := by decide +kernel
theorem dX4_finest_36 : decode cX4_finest 36 = .ok (.iload_n 1, 1) := by decide +kernel
theorem dX4_finest_37 : decode cX4_finest 37 = .ok (.iaload, 1) := by decide +kernel
theorem dX4_finest_38 : decode cX4_finest 38 = .ok (.iload_n 2, 1) := by decide +kernel
theorem dX4_finest_39 : decode cX4_finest 39 = .ok (.invokestatic 198, 3) := by decide +kernel
theorem dX4_finest_42 : decode cX4_finest 42 = .ok (.if_icmp .gt 9, 3) := by decide +kernel
theorem dX4_finest_45 : decode cX4_finest 45 = .ok (.aload_n 0, 1) := by decide +kernel
theorem dX4_finest_46 : decode cX4_finest 46 = .ok (.iload_n 2, 1) := by decide +kernel
theorem dX4_finest_47 : decode cX4_finest 47 = .ok (.invokevirtual 195, 3) := by decide +kernel
theorem dX4_finest_50 : decode cX4_finest 50 = .ok (.ireturn, 1) := by decide +kernel
theorem dX4_finest_51 : decode cX4_finest 51 = .ok (.iinc 2 (-1), 3) := by decide +kernel
theorem dX4_finest_54 : decode cX4_finest 54 = .ok (.goto (-32), 3) := by decide +kernel
theorem dX4_finest_57 : decode cX4_finest 57 = .ok (.aload_n 0, 1) := by decide +kernel
theorem dX4_finest_58 : decode cX4_finest 58 = .ok (.bipush (-2), 2) := by decide +kernel
theorem dX4_finest_60 : decode cX4_finest 60 = .ok (.invokevirtual 195, 3) := by decide +kernel
theorem dX4_finest_63 : decode cX4_finest 63 = .ok (.ireturn, 1) := by decide +kernel
theorem dX4_wholeLays_0 : decode cX4_wholeLays 0 = .ok (.aload_n 0, 1) := by decide +kernel
theorem dX4_wholeLays_1 : decode cX4_wholeLays 1 = .ok (.aload_n 0, 1) := by decide +kernel
theorem dX4_wholeLays_2 : decode cX4_wholeLays 2 = .ok (.getfield 43, 3) := by decide +kernel
theorem dX4_wholeLays_5 : decode cX4_wholeLays 5 = .ok (.invokevirtual 243, 3) := by decide +kernel
theorem dX4_wholeLays_8 : decode cX4_wholeLays 8 = .ok (.ifCond .ne 5, 3) := by decide +kernel
theorem dX4_wholeLays_11 : decode cX4_wholeLays 11 = .ok (.iconst 5, 1) := by decide +kernel
theorem dX4_wholeLays_12 : decode cX4_wholeLays 12 = .ok (.ireturn, 1) := by decide +kernel
theorem dX4_wholeLays_13 : decode cX4_wholeLays 13 = .ok (.aload_n 0, 1) := by decide +kernel
theorem dX4_wholeLays_14 : decode cX4_wholeLays 14 = .ok (.aload_n 0, 1) := by decide +kernel
theorem dX4_wholeLays_15 : decode cX4_wholeLays 15 = .ok (.getfield 43, 3) := by decide +kernel
theorem dX4_wholeLays_18 : decode cX4_wholeLays 18 = .ok (.invokevirtual 243, 3) := by decide +kernel
theorem dX4_wholeLays_21 : decode cX4_wholeLays 21 = .ok (.sipush 1000, 3) := by decide +kernel
theorem dX4_wholeLays_24 : decode cX4_wholeLays 24 = .ok (.if_icmp .le 5, 3) := by decide +kernel
theorem dX4_wholeLays_27 : decode cX4_wholeLays 27 = .ok (.iconst 3, 1) := by decide +kernel
theorem dX4_wholeLays_28 : decode cX4_wholeLays 28 = .ok (.ireturn, 1) := by decide +kernel
theorem dX4_wholeLays_29 : decode cX4_wholeLays 29 = .ok (.aload_n 0, 1) := by decide +kernel
theorem dX4_wholeLays_30 : decode cX4_wholeLays 30 = .ok (.getfield 40, 3) := by decide +kernel
theorem dX4_wholeLays_33 : decode cX4_wholeLays 33 = .ok (.iconst 4, 1) := by decide +kernel
theorem dX4_wholeLays_34 : decode cX4_wholeLays 34 = .ok (.iconst 0, 1) := by decide +kernel
theorem dX4_wholeLays_35 : decode cX4_wholeLays 35 = .ok (.iastore, 1) := by decide +kernel
theorem dX4_wholeLays_36 : decode cX4_wholeLays 36 = .ok (.iconst 0, 1) := by decide +kernel
theorem dX4_wholeLays_37 : decode cX4_wholeLays 37 = .ok (.istore_n 1, 1) := by decide +kernel
theorem dX4_wholeLays_38 : decode cX4_wholeLays 38 = .ok (.iload_n 1, 1) := by decide +kernel
theorem dX4_wholeLays_39 : decode cX4_wholeLays 39 = .ok (.aload_n 0, 1) := by decide +kernel
theorem dX4_wholeLays_40 : decode cX4_wholeLays 40 = .ok (.getfield 187, 3) := by decide +kernel
theorem dX4_wholeLays_43 : decode cX4_wholeLays 43 = .ok (.if_icmp .ge 52, 3) := by decide +kernel
theorem dX4_wholeLays_46 : decode cX4_wholeLays 46 = .ok (.aload_n 0, 1) := by decide +kernel
theorem dX4_wholeLays_47 : decode cX4_wholeLays 47 = .ok (.getfield 43, 3) := by decide +kernel
theorem dX4_wholeLays_50 : decode cX4_wholeLays 50 = .ok (.iload_n 1, 1) := by decide +kernel
theorem dX4_wholeLays_51 : decode cX4_wholeLays 51 = .ok (.iaload, 1) := by decide +kernel
theorem dX4_wholeLays_52 : decode cX4_wholeLays 52 = .ok (.ifCond .ne 6, 3) := by decide +kernel
theorem dX4_wholeLays_55 : decode cX4_wholeLays 55 = .ok (.goto 34, 3) := by decide +kernel
theorem dX4_wholeLays_58 : decode cX4_wholeLays 58 = .ok (.aload_n 0, 1) := by decide +kernel
theorem dX4_wholeLays_59 : decode cX4_wholeLays 59 = .ok (.getfield 40, 3) := by decide +kernel
theorem dX4_wholeLays_62 : decode cX4_wholeLays 62 = .ok (.iconst 4, 1) := by decide +kernel
theorem dX4_wholeLays_63 : decode cX4_wholeLays 63 = .ok (.iaload, 1) := by decide +kernel
theorem dX4_wholeLays_64 : decode cX4_wholeLays 64 = .ok (.ifCond .ne 12, 3) := by decide +kernel
theorem dX4_wholeLays_67 : decode cX4_wholeLays 67 = .ok (.aload_n 0, 1) := by decide +kernel
theorem dX4_wholeLays_68 : decode cX4_wholeLays 68 = .ok (.iload_n 1, 1) := by decide +kernel
theorem dX4_wholeLays_69 : decode cX4_wholeLays 69 = .ok (.iconst 4, 1) := by decide +kernel
theorem dX4_wholeLays_70 : decode cX4_wholeLays 70 = .ok (.invokevirtual 328, 3) := by decide +kernel
theorem dX4_wholeLays_73 : decode cX4_wholeLays 73 = .ok (.goto 16, 3) := by decide +kernel
theorem dX4_wholeLays_76 : decode cX4_wholeLays 76 = .ok (.aload_n 0, 1) := by decide +kernel
theorem dX4_wholeLays_77 : decode cX4_wholeLays 77 = .ok (.iconst 4, 1) := by decide +kernel
theorem dX4_wholeLays_78 : decode cX4_wholeLays 78 = .ok (.iload_n 1, 1) := by decide +kernel
theorem dX4_wholeLays_79 : decode cX4_wholeLays 79 = .ok (.iconst 5, 1) := by decide +kernel
theorem dX4_wholeLays_80 : decode cX4_wholeLays 80 = .ok (.invokevirtual 325, 3) := by decide +kernel
theorem dX4_wholeLays_83 : decode cX4_wholeLays 83 = .ok (.aload_n 0, 1) := by decide +kernel
theorem dX4_wholeLays_84 : decode cX4_wholeLays 84 = .ok (.iconst 5, 1) := by decide +kernel
theorem dX4_wholeLays_85 : decode cX4_wholeLays 85 = .ok (.iconst 4, 1) := by decide +kernel
theorem dX4_wholeLays_86 : decode cX4_wholeLays 86 = .ok (.invokevirtual 328, 3) := by decide +kernel
theorem dX4_wholeLays_89 : decode cX4_wholeLays 89 = .ok (.iinc 1 1, 3) := by decide +kernel
theorem dX4_wholeLays_92 : decode cX4_wholeLays 92 = .ok (.goto (-54), 3) := by decide +kernel
theorem dX4_wholeLays_95 : decode cX4_wholeLays 95 = .ok (.iconst 0, 1) := by decide +kernel
theorem dX4_wholeLays_96 : decode cX4_wholeLays 96 = .ok (.ireturn, 1) := by decide +kernel
theorem dX4_whole_0 : decode cX4_whole 0 = .ok (.aload_n 0, 1) := by decide +kernel
theorem dX4_whole_1 : decode cX4_whole 1 = .ok (.iconst 0, 1) := by decide +kernel
theorem dX4_whole_2 : decode cX4_whole 2 = .ok (.putfield 61, 3) := by decide +kernel
theorem dX4_whole_5 : decode cX4_whole 5 = .ok (.aload_n 0, 1) := by decide +kernel
theorem dX4_whole_6 : decode cX4_whole 6 = .ok (.getfield 185, 3) := by decide +kernel
theorem dX4_whole_9 : decode cX4_whole 9 = .ok (.ifCond .eq 12, 3) := by decide +kernel
theorem dX4_whole_12 : decode cX4_whole 12 = .ok (.iload_n 1, 1) := by decide +kernel
theorem dX4_whole_13 : decode cX4_whole 13 = .ok (.iconst 0, 1) := by decide +kernel
theorem dX4_whole_14 : decode cX4_whole 14 = .ok (.iconst 2, 1) := by decide +kernel
theorem dX4_whole_15 : decode cX4_whole 15 = .ok (.invokestatic 86, 3) := by decide +kernel
theorem dX4_whole_18 : decode cX4_whole 18 = .ok (.ifCond .ne 9, 3) := by decide +kernel
theorem dX4_whole_21 : decode cX4_whole 21 = .ok (.aload_n 0, 1) := by decide +kernel
theorem dX4_whole_22 : decode cX4_whole 22 = .ok (.iconst 1, 1) := by decide +kernel
theorem dX4_whole_23 : decode cX4_whole 23 = .ok (.invokevirtual 179, 3) := by decide +kernel
theorem dX4_whole_26 : decode cX4_whole 26 = .ok (.ireturn, 1) := by decide +kernel
theorem dX4_whole_27 : decode cX4_whole 27 = .ok (.aload_n 0, 1) := by decide +kernel
theorem dX4_whole_28 : decode cX4_whole 28 = .ok (.invokevirtual 331, 3) := by decide +kernel
theorem dX4_whole_31 : decode cX4_whole 31 = .ok (.istore_n 2, 1) := by decide +kernel
theorem dX4_whole_32 : decode cX4_whole 32 = .ok (.iload_n 2, 1) := by decide +kernel
theorem dX4_whole_33 : decode cX4_whole 33 = .ok (.ifCond .le 9, 3) := by decide +kernel
theorem dX4_whole_36 : decode cX4_whole 36 = .ok (.aload_n 0, 1) := by decide +kernel
theorem dX4_whole_37 : decode cX4_whole 37 = .ok (.iload_n 2, 1) := by decide +kernel
theorem dX4_whole_38 : decode cX4_whole 38 = .ok (.invokevirtual 179, 3) := by decide +kernel
theorem dX4_whole_41 : decode cX4_whole 41 = .ok (.ireturn, 1) := by decide +kernel
theorem dX4_whole_42 : decode cX4_whole 42 = .ok (.aload_n 0, 1) := by decide +kernel
theorem dX4_whole_43 : decode cX4_whole 43 = .ok (.iload_n 1, 1) := by decide +kernel
theorem dX4_whole_44 : decode cX4_whole 44 = .ok (.ifCond .ne 12, 3) := by decide +kernel
theorem dX4_whole_47 : decode cX4_whole 47 = .ok (.aload_n 0, 1) := by decide +kernel
theorem dX4_whole_48 : decode cX4_whole 48 = .ok (.getfield 43, 3) := by decide +kernel
theorem dX4_whole_51 : decode cX4_whole 51 = .ok (.iconst 4, 1) := by decide +kernel
theorem dX4_whole_52 : decode cX4_whole 52 = .ok (.iaload, 1) := by decide +kernel
theorem dX4_whole_53 : decode cX4_whole 53 = .ok (.goto 22, 3) := by decide +kernel
theorem dX4_whole_56 : decode cX4_whole 56 = .ok (.iload_n 1, 1) := by decide +kernel
theorem dX4_whole_57 : decode cX4_whole 57 = .ok (.iconst 1, 1) := by decide +kernel
theorem dX4_whole_58 : decode cX4_whole 58 = .ok (.if_icmp .ne 12, 3) := by decide +kernel
theorem dX4_whole_61 : decode cX4_whole 61 = .ok (.aload_n 0, 1) := by decide +kernel
theorem dX4_whole_62 : decode cX4_whole 62 = .ok (.getfield 40, 3) := by decide +kernel
theorem dX4_whole_65 : decode cX4_whole 65 = .ok (.iconst 4, 1) := by decide +kernel
theorem dX4_whole_66 : decode cX4_whole 66 = .ok (.iaload, 1) := by decide +kernel
theorem dX4_whole_67 : decode cX4_whole 67 = .ok (.goto 8, 3) := by decide +kernel
theorem dX4_whole_70 : decode cX4_whole 70 = .ok (.aload_n 0, 1) := by decide +kernel
theorem dX4_whole_71 : decode cX4_whole 71 = .ok (.iconst 4, 1) := by decide +kernel
theorem dX4_whole_72 : decode cX4_whole 72 = .ok (.invokevirtual 310, 3) := by decide +kernel
theorem dX4_whole_75 : decode cX4_whole 75 = .ok (.invokevirtual 195, 3) := by decide +kernel
theorem dX4_whole_78 : decode cX4_whole 78 = .ok (.ireturn, 1) := by decide +kernel
theorem dX4_overall_0 : decode cX4_overall 0 = .ok (.aload_n 0, 1) := by decide +kernel
theorem dX4_overall_1 : decode cX4_overall 1 = .ok (.iconst 0, 1) := by decide +kernel
theorem dX4_overall_2 : decode cX4_overall 2 = .ok (.putfield 61, 3) := by decide +kernel
theorem dX4_overall_5 : decode cX4_overall 5 = .ok (.aload_n 0, 1) := by decide +kernel
theorem dX4_overall_6 : decode cX4_overall 6 = .ok (.getfield 185, 3) := by decide +kernel
theorem dX4_overall_9 : decode cX4_overall 9 = .ok (.ifCond .eq 12, 3) := by decide +kernel
theorem dX4_overall_12 : decode cX4_overall 12 = .ok (.iload_n 2, 1) := by decide +kernel
theorem dX4_overall_13 : decode cX4_overall 13 = .ok (.iconst 0, 1) := by decide +kernel
theorem dX4_overall_14 : decode cX4_overall 14 = .ok (.iconst 1, 1) := by decide +kernel
theorem dX4_overall_15 : decode cX4_overall 15 = .ok (.invokestatic 86, 3) := by decide +kernel
theorem dX4_overall_18 : decode cX4_overall 18 = .ok (.ifCond .ne 9, 3) := by decide +kernel
theorem dX4_overall_21 : decode cX4_overall 21 = .ok (.aload_n 0, 1) := by decide +kernel
theorem dX4_overall_22 : decode cX4_overall 22 = .ok (.iconst 1, 1) := by decide +kernel
theorem dX4_overall_23 : decode cX4_overall 23 = .ok (.invokevirtual 179, 3) := by decide +kernel
theorem dX4_overall_26 : decode cX4_overall 26 = .ok (.ireturn, 1) := by decide +kernel
theorem dX4_overall_27 : decode cX4_overall 27 = .ok (.aload_n 0, 1) := by decide +kernel
theorem dX4_overall_28 : decode cX4_overall 28 = .ok (.invokevirtual 331, 3) := by decide +kernel
theorem dX4_overall_31 : decode cX4_overall 31 = .ok (.istore_n 3, 1) := by decide +kernel
theorem dX4_overall_32 : decode cX4_overall 32 = .ok (.iload_n 3, 1) := by decide +kernel
theorem dX4_overall_33 : decode cX4_overall 33 = .ok (.ifCond .le 9, 3) := by decide +kernel
theorem dX4_overall_36 : decode cX4_overall 36 = .ok (.aload_n 0, 1) := by decide +kernel
theorem dX4_overall_37 : decode cX4_overall 37 = .ok (.iload_n 3, 1) := by decide +kernel
theorem dX4_overall_38 : decode cX4_overall 38 = .ok (.invokevirtual 179, 3) := by decide +kernel
theorem dX4_overall_41 : decode cX4_overall 41 = .ok (.ireturn, 1) := by decide +kernel
theorem dX4_overall_42 : decode cX4_overall 42 = .ok (.aload_n 0, 1) := by decide +kernel
theorem dX4_overall_43 : decode cX4_overall 43 = .ok (.iconst 4, 1) := by decide +kernel
theorem dX4_overall_44 : decode cX4_overall 44 = .ok (.iload_n 1, 1) := by decide +kernel
theorem dX4_overall_45 : decode cX4_overall 45 = .ok (.invokevirtual 273, 3) := by decide +kernel
theorem dX4_overall_48 : decode cX4_overall 48 = .ok (.ifCond .ne 9, 3) := by decide +kernel
theorem dX4_overall_51 : decode cX4_overall 51 = .ok (.aload_n 0, 1) := by decide +kernel
theorem dX4_overall_52 : decode cX4_overall 52 = .ok (.iconst 2, 1) := by decide +kernel
theorem dX4_overall_53 : decode cX4_overall 53 = .ok (.invokevirtual 179, 3) := by decide +kernel
theorem dX4_overall_56 : decode cX4_overall 56 = .ok (.ireturn, 1) := by decide +kernel
theorem dX4_overall_57 : decode cX4_overall 57 = .ok (.aload_n 0, 1) := by decide +kernel
theorem dX4_overall_58 : decode cX4_overall 58 = .ok (.iconst 4, 1) := by decide +kernel
theorem dX4_overall_59 : decode cX4_overall 59 = .ok (.iload_n 1, 1) := by decide +kernel
theorem dX4_overall_60 : decode cX4_overall 60 = .ok (.invokevirtual 276, 3) := by decide +kernel
theorem dX4_overall_63 : decode cX4_overall 63 = .ok (.istore 4, 2) := by decide +kernel
theorem dX4_overall_65 : decode cX4_overall 65 = .ok (.aload_n 0, 1) := by decide +kernel
theorem dX4_overall_66 : decode cX4_overall 66 = .ok (.iload_n 2, 1) := by decide +kernel
theorem dX4_overall_67 : decode cX4_overall 67 = .ok (.ifCond .ne 17, 3) := by decide +kernel
theorem dX4_overall_70 : decode cX4_overall 70 = .ok (.aload_n 0, 1) := by decide +kernel
theorem dX4_overall_71 : decode cX4_overall 71 = .ok (.getfield 31, 3) := by decide +kernel
theorem dX4_overall_74 : decode cX4_overall 74 = .ok (.sipush 4000, 3) := by decide +kernel
theorem dX4_overall_77 : decode cX4_overall 77 = .ok (.iload 4, 2) := by decide +kernel
theorem dX4_overall_79 : decode cX4_overall 79 = .ok (.iadd, 1) := by decide +kernel
theorem dX4_overall_80 : decode cX4_overall 80 = .ok (.iaload, 1) := by decide +kernel
theorem dX4_overall_81 : decode cX4_overall 81 = .ok (.goto 7, 3) := by decide +kernel
theorem dX4_overall_84 : decode cX4_overall 84 = .ok (.aload_n 0, 1) := by decide +kernel
theorem dX4_overall_85 : decode cX4_overall 85 = .ok (.getfield 270, 3) := by decide +kernel
theorem dX4_overall_88 : decode cX4_overall 88 = .ok (.invokevirtual 195, 3) := by decide +kernel
theorem dX4_overall_91 : decode cX4_overall 91 = .ok (.ireturn, 1) := by decide +kernel
theorem dX4_rounds_0 : decode cX4_rounds 0 = .ok (.aload_n 0, 1) := by decide +kernel
theorem dX4_rounds_1 : decode cX4_rounds 1 = .ok (.iconst 0, 1) := by decide +kernel
theorem dX4_rounds_2 : decode cX4_rounds 2 = .ok (.putfield 61, 3) := by decide +kernel
theorem dX4_rounds_5 : decode cX4_rounds 5 = .ok (.aload_n 0, 1) := by decide +kernel
theorem dX4_rounds_6 : decode cX4_rounds 6 = .ok (.iload_n 1, 1) := by decide +kernel
theorem dX4_rounds_7 : decode cX4_rounds 7 = .ok (.invokevirtual 247, 3) := by decide +kernel
theorem dX4_rounds_10 : decode cX4_rounds 10 = .ok (.ifCond .ne 9, 3) := by decide +kernel
theorem dX4_rounds_13 : decode cX4_rounds 13 = .ok (.aload_n 0, 1) := by decide +kernel
theorem dX4_rounds_14 : decode cX4_rounds 14 = .ok (.iconst 1, 1) := by decide +kernel
theorem dX4_rounds_15 : decode cX4_rounds 15 = .ok (.invokevirtual 179, 3) := by decide +kernel
theorem dX4_rounds_18 : decode cX4_rounds 18 = .ok (.ireturn, 1) := by decide +kernel
theorem dX4_rounds_19 : decode cX4_rounds 19 = .ok (.aload_n 0, 1) := by decide +kernel
theorem dX4_rounds_20 : decode cX4_rounds 20 = .ok (.iload_n 1, 1) := by decide +kernel
theorem dX4_rounds_21 : decode cX4_rounds 21 = .ok (.iconst 4, 1) := by decide +kernel
theorem dX4_rounds_22 : decode cX4_rounds 22 = .ok (.invokevirtual 328, 3) := by decide +kernel
theorem dX4_rounds_25 : decode cX4_rounds 25 = .ok (.iconst 0, 1) := by decide +kernel
theorem dX4_rounds_26 : decode cX4_rounds 26 = .ok (.istore_n 2, 1) := by decide +kernel
theorem dX4_rounds_27 : decode cX4_rounds 27 = .ok (.aload_n 0, 1) := by decide +kernel
theorem dX4_rounds_28 : decode cX4_rounds 28 = .ok (.iconst 4, 1) := by decide +kernel
theorem dX4_rounds_29 : decode cX4_rounds 29 = .ok (.aload_n 0, 1) := by decide +kernel
theorem dX4_rounds_30 : decode cX4_rounds 30 = .ok (.iconst 4, 1) := by decide +kernel
theorem dX4_rounds_31 : decode cX4_rounds 31 = .ok (.invokevirtual 237, 3) := by decide +kernel
theorem dX4_rounds_34 : decode cX4_rounds 34 = .ok (.invokevirtual 240, 3) := by decide +kernel
theorem dX4_rounds_37 : decode cX4_rounds 37 = .ok (.ifCond .le 9, 3) := by decide +kernel
theorem dX4_rounds_40 : decode cX4_rounds 40 = .ok (.iinc 2 1, 3) := by decide +kernel
theorem dX4_rounds_43 : decode cX4_rounds 43 = .ok (.goto (-16), 3) := by decide +kernel
theorem dX4_rounds_46 : decode cX4_rounds 46 = .ok (.aload_n 0, 1) := by decide +kernel
theorem dX4_rounds_47 : decode cX4_rounds 47 = .ok (.iload_n 2, 1) := by decide +kernel
theorem dX4_rounds_48 : decode cX4_rounds 48 = .ok (.invokevirtual 195, 3) := by decide +kernel
theorem dX4_rounds_51 : decode cX4_rounds 51 = .ok (.ireturn, 1) := by decide +kernel
theorem dX4_coarse_0 : decode cX4_coarse 0 = .ok (.aload_n 0, 1) := by decide +kernel
theorem dX4_coarse_1 : decode cX4_coarse 1 = .ok (.iconst 0, 1) := by decide +kernel
theorem dX4_coarse_2 : decode cX4_coarse 2 = .ok (.putfield 61, 3) := by decide +kernel
theorem dX4_coarse_5 : decode cX4_coarse 5 = .ok (.aload_n 0, 1) := by decide +kernel
theorem dX4_coarse_6 : decode cX4_coarse 6 = .ok (.iload_n 1, 1) := by decide +kernel
theorem dX4_coarse_7 : decode cX4_coarse 7 = .ok (.invokevirtual 247, 3) := by decide +kernel
theorem dX4_coarse_10 : decode cX4_coarse 10 = .ok (.ifCond .ne 9, 3) := by decide +kernel
theorem dX4_coarse_13 : decode cX4_coarse 13 = .ok (.aload_n 0, 1) := by decide +kernel
theorem dX4_coarse_14 : decode cX4_coarse 14 = .ok (.iconst 1, 1) := by decide +kernel
theorem dX4_coarse_15 : decode cX4_coarse 15 = .ok (.invokevirtual 179, 3) := by decide +kernel
theorem dX4_coarse_18 : decode cX4_coarse 18 = .ok (.ireturn, 1) := by decide +kernel
theorem dX4_coarse_19 : decode cX4_coarse 19 = .ok (.iload_n 2, 1) := by decide +kernel
theorem dX4_coarse_20 : decode cX4_coarse 20 = .ok (.iconst 2, 1) := by decide +kernel
theorem dX4_coarse_21 : decode cX4_coarse 21 = .ok (.aload_n 0, 1) := by decide +kernel
theorem dX4_coarse_22 : decode cX4_coarse 22 = .ok (.getfield 185, 3) := by decide +kernel
theorem dX4_coarse_25 : decode cX4_coarse 25 = .ok (.invokestatic 86, 3) := by decide +kernel
theorem dX4_coarse_28 : decode cX4_coarse 28 = .ok (.ifCond .ne 9, 3) := by decide +kernel
theorem dX4_coarse_31 : decode cX4_coarse 31 = .ok (.aload_n 0, 1) := by decide +kernel
theorem dX4_coarse_32 : decode cX4_coarse 32 = .ok (.iconst 2, 1) := by decide +kernel
theorem dX4_coarse_33 : decode cX4_coarse 33 = .ok (.invokevirtual 179, 3) := by decide +kernel
theorem dX4_coarse_36 : decode cX4_coarse 36 = .ok (.ireturn, 1) := by decide +kernel
theorem dX4_coarse_37 : decode cX4_coarse 37 = .ok (.aload_n 0, 1) := by decide +kernel
theorem dX4_coarse_38 : decode cX4_coarse 38 = .ok (.iload_n 1, 1) := by decide +kernel
theorem dX4_coarse_39 : decode cX4_coarse 39 = .ok (.iconst 4, 1) := by decide +kernel
theorem dX4_coarse_40 : decode cX4_coarse 40 = .ok (.invokevirtual 328, 3) := by decide +kernel
theorem dX4_coarse_43 : decode cX4_coarse 43 = .ok (.aload_n 0, 1) := by decide +kernel
theorem dX4_coarse_44 : decode cX4_coarse 44 = .ok (.iconst 4, 1) := by decide +kernel
theorem dX4_coarse_45 : decode cX4_coarse 45 = .ok (.aload_n 0, 1) := by decide +kernel
theorem dX4_coarse_46 : decode cX4_coarse 46 = .ok (.getfield 43, 3) := by decide +kernel
theorem dX4_coarse_49 : decode cX4_coarse 49 = .ok (.iload_n 1, 1) := by decide +kernel
theorem dX4_coarse_50 : decode cX4_coarse 50 = .ok (.iaload, 1) := by decide +kernel
theorem dX4_coarse_51 : decode cX4_coarse 51 = .ok (.iload_n 2, 1) := by decide +kernel
theorem dX4_coarse_52 : decode cX4_coarse 52 = .ok (.invokestatic 198, 3) := by decide +kernel
theorem dX4_coarse_55 : decode cX4_coarse 55 = .ok (.invokevirtual 240, 3) := by decide +kernel
theorem dX4_coarse_58 : decode cX4_coarse 58 = .ok (.istore_n 3, 1) := by decide +kernel
theorem dX4_coarse_59 : decode cX4_coarse 59 = .ok (.aload_n 0, 1) := by decide +kernel
theorem dX4_coarse_60 : decode cX4_coarse 60 = .ok (.aload_n 0, 1) := by decide +kernel
theorem dX4_coarse_61 : decode cX4_coarse 61 = .ok (.getfield 40, 3) := by decide +kernel
theorem dX4_coarse_64 : decode cX4_coarse 64 = .ok (.iload_n 1, 1) := by decide +kernel
theorem dX4_coarse_65 : decode cX4_coarse 65 = .ok (.iaload, 1) := by decide +kernel
theorem dX4_coarse_66 : decode cX4_coarse 66 = .ok (.iload_n 3, 1) := by decide +kernel
theorem dX4_coarse_67 : decode cX4_coarse 67 = .ok (.isub, 1) := by decide +kernel
theorem dX4_coarse_68 : decode cX4_coarse 68 = .ok (.invokevirtual 195, 3) := by decide +kernel
theorem dX4_coarse_71 : decode cX4_coarse 71 = .ok (.ireturn, 1) := by decide +kernel
theorem dX4_push_0 : decode cX4_push 0 = .ok (.aload_n 0, 1) := by decide +kernel
theorem dX4_push_1 : decode cX4_push 1 = .ok (.iconst 0, 1) := by decide +kernel
theorem dX4_push_2 : decode cX4_push 2 = .ok (.putfield 61, 3) := by decide +kernel
theorem dX4_push_5 : decode cX4_push 5 = .ok (.aload_n 0, 1) := by decide +kernel
theorem dX4_push_6 : decode cX4_push 6 = .ok (.iload_n 1, 1) := by decide +kernel
theorem dX4_push_7 : decode cX4_push 7 = .ok (.invokevirtual 247, 3) := by decide +kernel
theorem dX4_push_10 : decode cX4_push 10 = .ok (.ifCond .ne 9, 3) := by decide +kernel
theorem dX4_push_13 : decode cX4_push 13 = .ok (.aload_n 0, 1) := by decide +kernel
theorem dX4_push_14 : decode cX4_push 14 = .ok (.iconst 1, 1) := by decide +kernel
theorem dX4_push_15 : decode cX4_push 15 = .ok (.invokevirtual 179, 3) := by decide +kernel
theorem dX4_push_18 : decode cX4_push 18 = .ok (.ireturn, 1) := by decide +kernel
theorem dX4_push_19 : decode cX4_push 19 = .ok (.iload_n 2, 1) := by decide +kernel
theorem dX4_push_20 : decode cX4_push 20 = .ok (.invokestatic 304, 3) := by decide +kernel
theorem dX4_push_23 : decode cX4_push 23 = .ok (.ifCond .ne 9, 3) := by decide +kernel
theorem dX4_push_26 : decode cX4_push 26 = .ok (.aload_n 0, 1) := by decide +kernel
theorem dX4_push_27 : decode cX4_push 27 = .ok (.iconst 2, 1) := by decide +kernel
theorem dX4_push_28 : decode cX4_push 28 = .ok (.invokevirtual 179, 3) := by decide +kernel
theorem dX4_push_31 : decode cX4_push 31 = .ok (.ireturn, 1) := by decide +kernel
theorem dX4_push_32 : decode cX4_push 32 = .ok (.aload_n 0, 1) := by decide +kernel
theorem dX4_push_33 : decode cX4_push 33 = .ok (.getfield 43, 3) := by decide +kernel
theorem dX4_push_36 : decode cX4_push 36 = .ok (.iload_n 1, 1) := by decide +kernel
theorem dX4_push_37 : decode cX4_push 37 = .ok (.iaload, 1) := by decide +kernel
theorem dX4_push_38 : decode cX4_push 38 = .ok (.sipush 1000, 3) := by decide +kernel
theorem dX4_push_41 : decode cX4_push 41 = .ok (.if_icmp .ne 9, 3) := by decide +kernel
theorem dX4_push_44 : decode cX4_push 44 = .ok (.aload_n 0, 1) := by decide +kernel
theorem dX4_push_45 : decode cX4_push 45 = .ok (.iconst 3, 1) := by decide +kernel
theorem dX4_push_46 : decode cX4_push 46 = .ok (.invokevirtual 179, 3) := by decide +kernel
theorem dX4_push_49 : decode cX4_push 49 = .ok (.ireturn, 1) := by decide +kernel
theorem dX4_push_50 : decode cX4_push 50 = .ok (.aload_n 0, 1) := by decide +kernel
theorem dX4_push_51 : decode cX4_push 51 = .ok (.iload_n 1, 1) := by decide +kernel
theorem dX4_push_52 : decode cX4_push 52 = .ok (.iload_n 2, 1) := by decide +kernel
theorem dX4_push_53 : decode cX4_push 53 = .ok (.invokevirtual 193, 3) := by decide +kernel
theorem dX4_push_56 : decode cX4_push 56 = .ok (.aload_n 0, 1) := by decide +kernel
theorem dX4_push_57 : decode cX4_push 57 = .ok (.aload_n 0, 1) := by decide +kernel
theorem dX4_push_58 : decode cX4_push 58 = .ok (.getfield 40, 3) := by decide +kernel
theorem dX4_push_61 : decode cX4_push 61 = .ok (.iload_n 1, 1) := by decide +kernel
theorem dX4_push_62 : decode cX4_push 62 = .ok (.iaload, 1) := by decide +kernel
theorem dX4_push_63 : decode cX4_push 63 = .ok (.invokevirtual 195, 3) := by decide +kernel
theorem dX4_push_66 : decode cX4_push 66 = .ok (.ireturn, 1) := by decide +kernel
theorem dX4_draw_0 : decode cX4_draw 0 = .ok (.aload_n 0, 1) := by decide +kernel
theorem dX4_draw_1 : decode cX4_draw 1 = .ok (.iconst 0, 1) := by decide +kernel
theorem dX4_draw_2 : decode cX4_draw 2 = .ok (.putfield 61, 3) := by decide +kernel
theorem dX4_draw_5 : decode cX4_draw 5 = .ok (.aload_n 0, 1) := by decide +kernel
theorem dX4_draw_6 : decode cX4_draw 6 = .ok (.iload_n 1, 1) := by decide +kernel
theorem dX4_draw_7 : decode cX4_draw 7 = .ok (.invokevirtual 247, 3) := by decide +kernel
theorem dX4_draw_10 : decode cX4_draw 10 = .ok (.ifCond .ne 9, 3) := by decide +kernel
theorem dX4_draw_13 : decode cX4_draw 13 = .ok (.aload_n 0, 1) := by decide +kernel
theorem dX4_draw_14 : decode cX4_draw 14 = .ok (.iconst 1, 1) := by decide +kernel
theorem dX4_draw_15 : decode cX4_draw 15 = .ok (.invokevirtual 179, 3) := by decide +kernel
theorem dX4_draw_18 : decode cX4_draw 18 = .ok (.ireturn, 1) := by decide +kernel
theorem dX4_draw_19 : decode cX4_draw 19 = .ok (.iload_n 2, 1) := by decide +kernel
theorem dX4_draw_20 : decode cX4_draw 20 = .ok (.iconst 1, 1) := by decide +kernel
theorem dX4_draw_21 : decode cX4_draw 21 = .ok (.sipush 200, 3) := by decide +kernel
theorem dX4_draw_24 : decode cX4_draw 24 = .ok (.invokestatic 86, 3) := by decide +kernel
theorem dX4_draw_27 : decode cX4_draw 27 = .ok (.ifCond .eq 14, 3) := by decide +kernel
theorem dX4_draw_30 : decode cX4_draw 30 = .ok (.iload_n 3, 1) := by decide +kernel
theorem dX4_draw_31 : decode cX4_draw 31 = .ok (.iconst 1, 1) := by decide +kernel
theorem dX4_draw_32 : decode cX4_draw 32 = .ok (.sipush 1000, 3) := by decide +kernel
theorem dX4_draw_35 : decode cX4_draw 35 = .ok (.invokestatic 86, 3) := by decide +kernel
theorem dX4_draw_38 : decode cX4_draw 38 = .ok (.ifCond .ne 9, 3) := by decide +kernel
theorem dX4_draw_41 : decode cX4_draw 41 = .ok (.aload_n 0, 1) := by decide +kernel
theorem dX4_draw_42 : decode cX4_draw 42 = .ok (.iconst 2, 1) := by decide +kernel
theorem dX4_draw_43 : decode cX4_draw 43 = .ok (.invokevirtual 179, 3) := by decide +kernel
theorem dX4_draw_46 : decode cX4_draw 46 = .ok (.ireturn, 1) := by decide +kernel
theorem dX4_draw_47 : decode cX4_draw 47 = .ok (.aload_n 0, 1) := by decide +kernel
theorem dX4_draw_48 : decode cX4_draw 48 = .ok (.getfield 43, 3) := by decide +kernel
theorem dX4_draw_51 : decode cX4_draw 51 = .ok (.iload_n 1, 1) := by decide +kernel
theorem dX4_draw_52 : decode cX4_draw 52 = .ok (.iaload, 1) := by decide +kernel
theorem dX4_draw_53 : decode cX4_draw 53 = .ok (.iload_n 2, 1) := by decide +kernel
theorem dX4_draw_54 : decode cX4_draw 54 = .ok (.iadd, 1) := by decide +kernel
theorem dX4_draw_55 : decode cX4_draw 55 = .ok (.sipush 1000, 3) := by decide +kernel
theorem dX4_draw_58 : decode cX4_draw 58 = .ok (.if_icmp .le 9, 3) := by decide +kernel
theorem dX4_draw_61 : decode cX4_draw 61 = .ok (.aload_n 0, 1) := by decide +kernel
theorem dX4_draw_62 : decode cX4_draw 62 = .ok (.iconst 3, 1) := by decide +kernel
theorem dX4_draw_63 : decode cX4_draw 63 = .ok (.invokevirtual 179, 3) := by decide +kernel
theorem dX4_draw_66 : decode cX4_draw 66 = .ok (.ireturn, 1) := by decide +kernel
theorem dX4_draw_67 : decode cX4_draw 67 = .ok (.iconst 0, 1) := by decide +kernel
theorem dX4_draw_68 : decode cX4_draw 68 = .ok (.istore 4, 2) := by decide +kernel
theorem dX4_draw_70 : decode cX4_draw 70 = .ok (.iload 4, 2) := by decide +kernel
theorem dX4_draw_72 : decode cX4_draw 72 = .ok (.iload_n 2, 1) := by decide +kernel
theorem dX4_draw_73 : decode cX4_draw 73 = .ok (.if_icmp .ge 38, 3) := by decide +kernel
theorem dX4_draw_76 : decode cX4_draw 76 = .ok (.aload_n 0, 1) := by decide +kernel
theorem dX4_draw_77 : decode cX4_draw 77 = .ok (.bipush 75, 2) := by decide +kernel
theorem dX4_draw_79 : decode cX4_draw 79 = .ok (.aload_n 0, 1) := by decide +kernel
theorem dX4_draw_80 : decode cX4_draw 80 = .ok (.getfield 58, 3) := by decide +kernel
theorem dX4_draw_83 : decode cX4_draw 83 = .ok (.imul, 1) := by decide +kernel
theorem dX4_draw_84 : decode cX4_draw 84 = .ok (.bipush 74, 2) := by decide +kernel
theorem dX4_draw_86 : decode cX4_draw 86 = .ok (.iadd, 1) := by decide +kernel
theorem dX4_draw_87 : decode cX4_draw 87 = .ok (.ldc_w 334, 3) := by decide +kernel
theorem dX4_draw_90 : decode cX4_draw 90 = .ok (.irem, 1) := by decide +kernel
theorem dX4_draw_91 : decode cX4_draw 91 = .ok (.putfield 58, 3) := by decide +kernel
theorem dX4_draw_94 : decode cX4_draw 94 = .ok (.aload_n 0, 1) := by decide +kernel
theorem dX4_draw_95 : decode cX4_draw 95 = .ok (.iload_n 1, 1) := by decide +kernel
theorem dX4_draw_96 : decode cX4_draw 96 = .ok (.aload_n 0, 1) := by decide +kernel
theorem dX4_draw_97 : decode cX4_draw 97 = .ok (.getfield 58, 3) := by decide +kernel
theorem dX4_draw_100 : decode cX4_draw 100 = .ok (.iload_n 3, 1) := by decide +kernel
theorem dX4_draw_101 : decode cX4_draw 101 = .ok (.irem, 1) := by decide +kernel
theorem dX4_draw_102 : decode cX4_draw 102 = .ok (.invokevirtual 193, 3) := by decide +kernel
theorem dX4_draw_105 : decode cX4_draw 105 = .ok (.iinc 4 1, 3) := by decide +kernel
theorem dX4_draw_108 : decode cX4_draw 108 = .ok (.goto (-38), 3) := by decide +kernel
theorem dX4_draw_111 : decode cX4_draw 111 = .ok (.aload_n 0, 1) := by decide +kernel
theorem dX4_draw_112 : decode cX4_draw 112 = .ok (.aload_n 0, 1) := by decide +kernel
theorem dX4_draw_113 : decode cX4_draw 113 = .ok (.getfield 40, 3) := by decide +kernel
theorem dX4_draw_116 : decode cX4_draw 116 = .ok (.iload_n 1, 1) := by decide +kernel
theorem dX4_draw_117 : decode cX4_draw 117 = .ok (.iaload, 1) := by decide +kernel
theorem dX4_draw_118 : decode cX4_draw 118 = .ok (.invokevirtual 195, 3) := by decide +kernel
theorem dX4_draw_121 : decode cX4_draw 121 = .ok (.ireturn, 1) := by decide +kernel
theorem dX4_seed_0 : decode cX4_seed 0 = .ok (.aload_n 0, 1) := by decide +kernel
theorem dX4_seed_1 : decode cX4_seed 1 = .ok (.iconst 0, 1) := by decide +kernel
theorem dX4_seed_2 : decode cX4_seed 2 = .ok (.putfield 61, 3) := by decide +kernel
theorem dX4_seed_5 : decode cX4_seed 5 = .ok (.iload_n 1, 1) := by decide +kernel
theorem dX4_seed_6 : decode cX4_seed 6 = .ok (.iconst 0, 1) := by decide +kernel
theorem dX4_seed_7 : decode cX4_seed 7 = .ok (.ldc_w 335, 3) := by decide +kernel
theorem dX4_seed_10 : decode cX4_seed 10 = .ok (.invokestatic 86, 3) := by decide +kernel
theorem dX4_seed_13 : decode cX4_seed 13 = .ok (.istore_n 2, 1) := by decide +kernel
theorem dX4_seed_14 : decode cX4_seed 14 = .ok (.iload_n 2, 1) := by decide +kernel
theorem dX4_seed_15 : decode cX4_seed 15 = .ok (.ifCond .eq 8, 3) := by decide +kernel
theorem dX4_seed_18 : decode cX4_seed 18 = .ok (.aload_n 0, 1) := by decide +kernel
theorem dX4_seed_19 : decode cX4_seed 19 = .ok (.iload_n 1, 1) := by decide +kernel
theorem dX4_seed_20 : decode cX4_seed 20 = .ok (.putfield 58, 3) := by decide +kernel
theorem dX4_seed_23 : decode cX4_seed 23 = .ok (.iload_n 2, 1) := by decide +kernel
theorem dX4_seed_24 : decode cX4_seed 24 = .ok (.ifCond .eq 11, 3) := by decide +kernel
theorem dX4_seed_27 : decode cX4_seed 27 = .ok (.aload_n 0, 1) := by decide +kernel
theorem dX4_seed_28 : decode cX4_seed 28 = .ok (.iconst 0, 1) := by decide +kernel
theorem dX4_seed_29 : decode cX4_seed 29 = .ok (.invokevirtual 195, 3) := by decide +kernel
theorem dX4_seed_32 : decode cX4_seed 32 = .ok (.goto 8, 3) := by decide +kernel
theorem dX4_seed_35 : decode cX4_seed 35 = .ok (.aload_n 0, 1) := by decide +kernel
theorem dX4_seed_36 : decode cX4_seed 36 = .ok (.iconst 2, 1) := by decide +kernel
theorem dX4_seed_37 : decode cX4_seed 37 = .ok (.invokevirtual 179, 3) := by decide +kernel
theorem dX4_seed_40 : decode cX4_seed 40 = .ok (.istore_n 3, 1) := by decide +kernel
theorem dX4_seed_41 : decode cX4_seed 41 = .ok (.iload_n 2, 1) := by decide +kernel
theorem dX4_seed_42 : decode cX4_seed 42 = .ok (.ireturn, 1) := by decide +kernel
theorem dX4_compress_0 : decode cX4_compress 0 = .ok (.aload_n 0, 1) := by decide +kernel
theorem dX4_compress_1 : decode cX4_compress 1 = .ok (.iconst 0, 1) := by decide +kernel
theorem dX4_compress_2 : decode cX4_compress 2 = .ok (.putfield 61, 3) := by decide +kernel
theorem dX4_compress_5 : decode cX4_compress 5 = .ok (.aload_n 0, 1) := by decide +kernel
theorem dX4_compress_6 : decode cX4_compress 6 = .ok (.iload_n 1, 1) := by decide +kernel
theorem dX4_compress_7 : decode cX4_compress 7 = .ok (.invokevirtual 247, 3) := by decide +kernel
theorem dX4_compress_10 : decode cX4_compress 10 = .ok (.ifCond .eq 15, 3) := by decide +kernel
theorem dX4_compress_13 : decode cX4_compress 13 = .ok (.aload_n 0, 1) := by decide +kernel
theorem dX4_compress_14 : decode cX4_compress 14 = .ok (.aload_n 0, 1) := by decide +kernel
theorem dX4_compress_15 : decode cX4_compress 15 = .ok (.iload_n 1, 1) := by decide +kernel
theorem dX4_compress_16 : decode cX4_compress 16 = .ok (.invokevirtual 218, 3) := by decide +kernel
theorem dX4_compress_19 : decode cX4_compress 19 = .ok (.invokevirtual 195, 3) := by decide +kernel
theorem dX4_compress_22 : decode cX4_compress 22 = .ok (.goto 8, 3) := by decide +kernel
theorem dX4_compress_25 : decode cX4_compress 25 = .ok (.aload_n 0, 1) := by decide +kernel
theorem dX4_compress_26 : decode cX4_compress 26 = .ok (.iconst 1, 1) := by decide +kernel
theorem dX4_compress_27 : decode cX4_compress 27 = .ok (.invokevirtual 179, 3) := by decide +kernel
theorem dX4_compress_30 : decode cX4_compress 30 = .ok (.ireturn, 1) := by decide +kernel
theorem dX4_merge_0 : decode cX4_merge 0 = .ok (.aload_n 0, 1) := by decide +kernel
theorem dX4_merge_1 : decode cX4_merge 1 = .ok (.iconst 0, 1) := by decide +kernel
theorem dX4_merge_2 : decode cX4_merge 2 = .ok (.putfield 61, 3) := by decide +kernel
theorem dX4_merge_5 : decode cX4_merge 5 = .ok (.aload_n 0, 1) := by decide +kernel
theorem dX4_merge_6 : decode cX4_merge 6 = .ok (.iload_n 1, 1) := by decide +kernel
theorem dX4_merge_7 : decode cX4_merge 7 = .ok (.iload_n 2, 1) := by decide +kernel
theorem dX4_merge_8 : decode cX4_merge 8 = .ok (.invokevirtual 295, 3) := by decide +kernel
theorem dX4_merge_11 : decode cX4_merge 11 = .ok (.ifCond .ne 9, 3) := by decide +kernel
theorem dX4_merge_14 : decode cX4_merge 14 = .ok (.aload_n 0, 1) := by decide +kernel
theorem dX4_merge_15 : decode cX4_merge 15 = .ok (.iconst 1, 1) := by decide +kernel
theorem dX4_merge_16 : decode cX4_merge 16 = .ok (.invokevirtual 179, 3) := by decide +kernel
theorem dX4_merge_19 : decode cX4_merge 19 = .ok (.ireturn, 1) := by decide +kernel
theorem dX4_merge_20 : decode cX4_merge 20 = .ok (.aload_n 0, 1) := by decide +kernel
theorem dX4_merge_21 : decode cX4_merge 21 = .ok (.getfield 43, 3) := by decide +kernel
theorem dX4_merge_24 : decode cX4_merge 24 = .ok (.iload_n 1, 1) := by decide +kernel
theorem dX4_merge_25 : decode cX4_merge 25 = .ok (.iaload, 1) := by decide +kernel
theorem dX4_merge_26 : decode cX4_merge 26 = .ok (.aload_n 0, 1) := by decide +kernel
theorem dX4_merge_27 : decode cX4_merge 27 = .ok (.getfield 43, 3) := by decide +kernel
theorem dX4_merge_30 : decode cX4_merge 30 = .ok (.iload_n 2, 1) := by decide +kernel
theorem dX4_merge_31 : decode cX4_merge 31 = .ok (.iaload, 1) := by decide +kernel
theorem dX4_merge_32 : decode cX4_merge 32 = .ok (.iadd, 1) := by decide +kernel
theorem dX4_merge_33 : decode cX4_merge 33 = .ok (.sipush 1000, 3) := by decide +kernel
theorem dX4_merge_36 : decode cX4_merge 36 = .ok (.if_icmp .le 9, 3) := by decide +kernel
theorem dX4_merge_39 : decode cX4_merge 39 = .ok (.aload_n 0, 1) := by decide +kernel
theorem dX4_merge_40 : decode cX4_merge 40 = .ok (.iconst 3, 1) := by decide +kernel
theorem dX4_merge_41 : decode cX4_merge 41 = .ok (.invokevirtual 179, 3) := by decide +kernel
theorem dX4_merge_44 : decode cX4_merge 44 = .ok (.ireturn, 1) := by decide +kernel
theorem dX4_merge_45 : decode cX4_merge 45 = .ok (.aload_n 0, 1) := by decide +kernel
theorem dX4_merge_46 : decode cX4_merge 46 = .ok (.iload_n 1, 1) := by decide +kernel
theorem dX4_merge_47 : decode cX4_merge 47 = .ok (.iload_n 2, 1) := by decide +kernel
theorem dX4_merge_48 : decode cX4_merge 48 = .ok (.iconst 4, 1) := by decide +kernel
theorem dX4_merge_49 : decode cX4_merge 49 = .ok (.invokevirtual 325, 3) := by decide +kernel
theorem dX4_merge_52 : decode cX4_merge 52 = .ok (.iconst 0, 1) := by decide +kernel
theorem dX4_merge_53 : decode cX4_merge 53 = .ok (.istore_n 3, 1) := by decide +kernel
theorem dX4_merge_54 : decode cX4_merge 54 = .ok (.iload_n 3, 1) := by decide +kernel
theorem dX4_merge_55 : decode cX4_merge 55 = .ok (.sipush 1000, 3) := by decide +kernel
theorem dX4_merge_58 : decode cX4_merge 58 = .ok (.if_icmp .ge 36, 3) := by decide +kernel
theorem dX4_merge_61 : decode cX4_merge 61 = .ok (.aload_n 0, 1) := by decide +kernel
theorem dX4_merge_62 : decode cX4_merge 62 = .ok (.getfield 55, 3) := by decide +kernel
theorem dX4_merge_65 : decode cX4_merge 65 = .ok (.sipush 1000, 3) := by decide +kernel
theorem dX4_merge_68 : decode cX4_merge 68 = .ok (.iload_n 1, 1) := by decide +kernel
theorem dX4_merge_69 : decode cX4_merge 69 = .ok (.imul, 1) := by decide +kernel
theorem dX4_merge_70 : decode cX4_merge 70 = .ok (.iload_n 3, 1) := by decide +kernel
theorem dX4_merge_71 : decode cX4_merge 71 = .ok (.iadd, 1) := by decide +kernel
theorem dX4_merge_72 : decode cX4_merge 72 = .ok (.dup2, 1) := by decide +kernel
theorem dX4_merge_73 : decode cX4_merge 73 = .ok (.iaload, 1) := by decide +kernel
theorem dX4_merge_74 : decode cX4_merge 74 = .ok (.aload_n 0, 1) := by decide +kernel
theorem dX4_merge_75 : decode cX4_merge 75 = .ok (.getfield 55, 3) := by decide +kernel
theorem dX4_merge_78 : decode cX4_merge 78 = .ok (.sipush 1000, 3) := by decide +kernel
theorem dX4_merge_81 : decode cX4_merge 81 = .ok (.iload_n 2, 1) := by decide +kernel
theorem dX4_merge_82 : decode cX4_merge 82 = .ok (.imul, 1) := by decide +kernel
theorem dX4_merge_83 : decode cX4_merge 83 = .ok (.iload_n 3, 1) := by decide +kernel
theorem dX4_merge_84 : decode cX4_merge 84 = .ok (.iadd, 1) := by decide +kernel
theorem dX4_merge_85 : decode cX4_merge 85 = .ok (.iaload, 1) := by decide +kernel
theorem dX4_merge_86 : decode cX4_merge 86 = .ok (.iadd, 1) := by decide +kernel
theorem dX4_merge_87 : decode cX4_merge 87 = .ok (.iastore, 1) := by decide +kernel
theorem dX4_merge_88 : decode cX4_merge 88 = .ok (.iinc 3 1, 3) := by decide +kernel
theorem dX4_merge_91 : decode cX4_merge 91 = .ok (.goto (-37), 3) := by decide +kernel
theorem dX4_merge_94 : decode cX4_merge 94 = .ok (.aload_n 0, 1) := by decide +kernel
theorem dX4_merge_95 : decode cX4_merge 95 = .ok (.iconst 4, 1) := by decide +kernel
theorem dX4_merge_96 : decode cX4_merge 96 = .ok (.iload_n 1, 1) := by decide +kernel
theorem dX4_merge_97 : decode cX4_merge 97 = .ok (.invokevirtual 328, 3) := by decide +kernel
theorem dX4_merge_100 : decode cX4_merge 100 = .ok (.aload_n 0, 1) := by decide +kernel
theorem dX4_merge_101 : decode cX4_merge 101 = .ok (.iload_n 2, 1) := by decide +kernel
theorem dX4_merge_102 : decode cX4_merge 102 = .ok (.invokevirtual 190, 3) := by decide +kernel
theorem dX4_merge_105 : decode cX4_merge 105 = .ok (.aload_n 0, 1) := by decide +kernel
theorem dX4_merge_106 : decode cX4_merge 106 = .ok (.getfield 49, 3) := by decide +kernel
theorem dX4_merge_109 : decode cX4_merge 109 = .ok (.iload_n 1, 1) := by decide +kernel
theorem dX4_merge_110 : decode cX4_merge 110 = .ok (.iconst 0, 1) := by decide +kernel
theorem dX4_merge_111 : decode cX4_merge 111 = .ok (.iastore, 1) := by decide +kernel
theorem dX4_merge_112 : decode cX4_merge 112 = .ok (.aload_n 0, 1) := by decide +kernel
theorem dX4_merge_113 : decode cX4_merge 113 = .ok (.getfield 52, 3) := by decide +kernel
theorem dX4_merge_116 : decode cX4_merge 116 = .ok (.iload_n 1, 1) := by decide +kernel
theorem dX4_merge_117 : decode cX4_merge 117 = .ok (.dup2, 1) := by decide +kernel
theorem dX4_merge_118 : decode cX4_merge 118 = .ok (.iaload, 1) := by decide +kernel
theorem dX4_merge_119 : decode cX4_merge 119 = .ok (.iconst 1, 1) := by decide +kernel
theorem dX4_merge_120 : decode cX4_merge 120 = .ok (.iadd, 1) := by decide +kernel
theorem dX4_merge_121 : decode cX4_merge 121 = .ok (.iastore, 1) := by decide +kernel
theorem dX4_merge_122 : decode cX4_merge 122 = .ok (.aload_n 0, 1) := by decide +kernel
theorem dX4_merge_123 : decode cX4_merge 123 = .ok (.aload_n 0, 1) := by decide +kernel
theorem dX4_merge_124 : decode cX4_merge 124 = .ok (.getfield 40, 3) := by decide +kernel
theorem dX4_merge_127 : decode cX4_merge 127 = .ok (.iload_n 1, 1) := by decide +kernel
theorem dX4_merge_128 : decode cX4_merge 128 = .ok (.iaload, 1) := by decide +kernel
theorem dX4_merge_129 : decode cX4_merge 129 = .ok (.invokevirtual 195, 3) := by decide +kernel
theorem dX4_merge_132 : decode cX4_merge 132 = .ok (.ireturn, 1) := by decide +kernel
theorem dX4_clear_0 : decode cX4_clear 0 = .ok (.aload_n 0, 1) := by decide +kernel
theorem dX4_clear_1 : decode cX4_clear 1 = .ok (.iconst 0, 1) := by decide +kernel
theorem dX4_clear_2 : decode cX4_clear 2 = .ok (.putfield 61, 3) := by decide +kernel
theorem dX4_clear_5 : decode cX4_clear 5 = .ok (.aload_n 0, 1) := by decide +kernel
theorem dX4_clear_6 : decode cX4_clear 6 = .ok (.iload_n 1, 1) := by decide +kernel
theorem dX4_clear_7 : decode cX4_clear 7 = .ok (.invokevirtual 247, 3) := by decide +kernel
theorem dX4_clear_10 : decode cX4_clear 10 = .ok (.ifCond .ne 9, 3) := by decide +kernel
theorem dX4_clear_13 : decode cX4_clear 13 = .ok (.aload_n 0, 1) := by decide +kernel
theorem dX4_clear_14 : decode cX4_clear 14 = .ok (.iconst 1, 1) := by decide +kernel
theorem dX4_clear_15 : decode cX4_clear 15 = .ok (.invokevirtual 179, 3) := by decide +kernel
theorem dX4_clear_18 : decode cX4_clear 18 = .ok (.ireturn, 1) := by decide +kernel
theorem dX4_clear_19 : decode cX4_clear 19 = .ok (.aload_n 0, 1) := by decide +kernel
theorem dX4_clear_20 : decode cX4_clear 20 = .ok (.getfield 43, 3) := by decide +kernel
theorem dX4_clear_23 : decode cX4_clear 23 = .ok (.iload_n 1, 1) := by decide +kernel
theorem dX4_clear_24 : decode cX4_clear 24 = .ok (.iaload, 1) := by decide +kernel
theorem dX4_clear_25 : decode cX4_clear 25 = .ok (.istore_n 2, 1) := by decide +kernel
theorem dX4_clear_26 : decode cX4_clear 26 = .ok (.aload_n 0, 1) := by decide +kernel
theorem dX4_clear_27 : decode cX4_clear 27 = .ok (.iload_n 1, 1) := by decide +kernel
theorem dX4_clear_28 : decode cX4_clear 28 = .ok (.invokevirtual 190, 3) := by decide +kernel
theorem dX4_clear_31 : decode cX4_clear 31 = .ok (.aload_n 0, 1) := by decide +kernel
theorem dX4_clear_32 : decode cX4_clear 32 = .ok (.iload_n 2, 1) := by decide +kernel
theorem dX4_clear_33 : decode cX4_clear 33 = .ok (.invokevirtual 195, 3) := by decide +kernel
theorem dX4_clear_36 : decode cX4_clear 36 = .ok (.ireturn, 1) := by decide +kernel
theorem dX4_every_0 : decode cX4_every 0 = .ok (.aload_n 0, 1) := by decide +kernel
theorem dX4_every_1 : decode cX4_every 1 = .ok (.iconst 0, 1) := by decide +kernel
theorem dX4_every_2 : decode cX4_every 2 = .ok (.putfield 61, 3) := by decide +kernel
theorem dX4_every_5 : decode cX4_every 5 = .ok (.aload_n 0, 1) := by decide +kernel
theorem dX4_every_6 : decode cX4_every 6 = .ok (.iload_n 1, 1) := by decide +kernel
theorem dX4_every_7 : decode cX4_every 7 = .ok (.invokevirtual 247, 3) := by decide +kernel
theorem dX4_every_10 : decode cX4_every 10 = .ok (.ifCond .ne 9, 3) := by decide +kernel
theorem dX4_every_13 : decode cX4_every 13 = .ok (.aload_n 0, 1) := by decide +kernel
theorem dX4_every_14 : decode cX4_every 14 = .ok (.iconst 1, 1) := by decide +kernel
theorem dX4_every_15 : decode cX4_every 15 = .ok (.invokevirtual 179, 3) := by decide +kernel
theorem dX4_every_18 : decode cX4_every 18 = .ok (.ireturn, 1) := by decide +kernel
theorem dX4_every_19 : decode cX4_every 19 = .ok (.iload_n 2, 1) := by decide +kernel
theorem dX4_every_20 : decode cX4_every 20 = .ok (.iconst 1, 1) := by decide +kernel
theorem dX4_every_21 : decode cX4_every 21 = .ok (.bipush 60, 2) := by decide +kernel
theorem dX4_every_23 : decode cX4_every 23 = .ok (.invokestatic 86, 3) := by decide +kernel
theorem dX4_every_26 : decode cX4_every 26 = .ok (.ifCond .ne 9, 3) := by decide +kernel
theorem dX4_every_29 : decode cX4_every 29 = .ok (.aload_n 0, 1) := by decide +kernel
theorem dX4_every_30 : decode cX4_every 30 = .ok (.iconst 2, 1) := by decide +kernel
theorem dX4_every_31 : decode cX4_every 31 = .ok (.invokevirtual 179, 3) := by decide +kernel
theorem dX4_every_34 : decode cX4_every 34 = .ok (.ireturn, 1) := by decide +kernel
theorem dX4_every_35 : decode cX4_every 35 = .ok (.aload_n 0, 1) := by decide +kernel
theorem dX4_every_36 : decode cX4_every 36 = .ok (.getfield 46, 3) := by decide +kernel
theorem dX4_every_39 : decode cX4_every 39 = .ok (.iload_n 1, 1) := by decide +kernel
theorem dX4_every_40 : decode cX4_every 40 = .ok (.iload_n 2, 1) := by decide +kernel
theorem dX4_every_41 : decode cX4_every 41 = .ok (.iastore, 1) := by decide +kernel
theorem dX4_every_42 : decode cX4_every 42 = .ok (.aload_n 0, 1) := by decide +kernel
theorem dX4_every_43 : decode cX4_every 43 = .ok (.getfield 49, 3) := by decide +kernel
theorem dX4_every_46 : decode cX4_every 46 = .ok (.iload_n 1, 1) := by decide +kernel
theorem dX4_every_47 : decode cX4_every 47 = .ok (.iaload, 1) := by decide +kernel
theorem dX4_every_48 : decode cX4_every 48 = .ok (.iload_n 2, 1) := by decide +kernel
theorem dX4_every_49 : decode cX4_every 49 = .ok (.if_icmp .lt 9, 3) := by decide +kernel
theorem dX4_every_52 : decode cX4_every 52 = .ok (.aload_n 0, 1) := by decide +kernel
theorem dX4_every_53 : decode cX4_every 53 = .ok (.iload_n 1, 1) := by decide +kernel
theorem dX4_every_54 : decode cX4_every 54 = .ok (.invokevirtual 218, 3) := by decide +kernel
theorem dX4_every_57 : decode cX4_every 57 = .ok (.istore_n 3, 1) := by decide +kernel
theorem dX4_every_58 : decode cX4_every 58 = .ok (.aload_n 0, 1) := by decide +kernel
theorem dX4_every_59 : decode cX4_every 59 = .ok (.aload_n 0, 1) := by decide +kernel
theorem dX4_every_60 : decode cX4_every 60 = .ok (.getfield 40, 3) := by decide +kernel
theorem dX4_every_63 : decode cX4_every 63 = .ok (.iload_n 1, 1) := by decide +kernel
theorem dX4_every_64 : decode cX4_every 64 = .ok (.iaload, 1) := by decide +kernel
theorem dX4_every_65 : decode cX4_every 65 = .ok (.invokevirtual 195, 3) := by decide +kernel
theorem dX4_every_68 : decode cX4_every 68 = .ok (.ireturn, 1) := by decide +kernel
theorem dX4_error_0 : decode cX4_error 0 = .ok (.aload_n 0, 1) := by decide +kernel
theorem dX4_error_1 : decode cX4_error 1 = .ok (.iconst 0, 1) := by decide +kernel
theorem dX4_error_2 : decode cX4_error 2 = .ok (.putfield 61, 3) := by decide +kernel
theorem dX4_error_5 : decode cX4_error 5 = .ok (.aload_n 0, 1) := by decide +kernel
theorem dX4_error_6 : decode cX4_error 6 = .ok (.getfield 185, 3) := by decide +kernel
theorem dX4_error_9 : decode cX4_error 9 = .ok (.ifCond .ne 9, 3) := by decide +kernel
theorem dX4_error_12 : decode cX4_error 12 = .ok (.aload_n 0, 1) := by decide +kernel
theorem dX4_error_13 : decode cX4_error 13 = .ok (.iconst 1, 1) := by decide +kernel
theorem dX4_error_14 : decode cX4_error 14 = .ok (.invokevirtual 179, 3) := by decide +kernel
theorem dX4_error_17 : decode cX4_error 17 = .ok (.ireturn, 1) := by decide +kernel
theorem dX4_error_18 : decode cX4_error 18 = .ok (.iload_n 1, 1) := by decide +kernel
theorem dX4_error_19 : decode cX4_error 19 = .ok (.iconst 2, 1) := by decide +kernel
theorem dX4_error_20 : decode cX4_error 20 = .ok (.bipush 40, 2) := by decide +kernel
theorem dX4_error_22 : decode cX4_error 22 = .ok (.invokestatic 86, 3) := by decide +kernel
theorem dX4_error_25 : decode cX4_error 25 = .ok (.ifCond .ne 9, 3) := by decide +kernel
theorem dX4_error_28 : decode cX4_error 28 = .ok (.aload_n 0, 1) := by decide +kernel
theorem dX4_error_29 : decode cX4_error 29 = .ok (.iconst 2, 1) := by decide +kernel
theorem dX4_error_30 : decode cX4_error 30 = .ok (.invokevirtual 179, 3) := by decide +kernel
theorem dX4_error_33 : decode cX4_error 33 = .ok (.ireturn, 1) := by decide +kernel
theorem dX4_error_34 : decode cX4_error 34 = .ok (.iconst 0, 1) := by decide +kernel
theorem dX4_error_35 : decode cX4_error 35 = .ok (.istore_n 2, 1) := by decide +kernel
theorem dX4_error_36 : decode cX4_error 36 = .ok (.iload_n 2, 1) := by decide +kernel
theorem dX4_error_37 : decode cX4_error 37 = .ok (.aload_n 0, 1) := by decide +kernel
theorem dX4_error_38 : decode cX4_error 38 = .ok (.getfield 187, 3) := by decide +kernel
theorem dX4_error_41 : decode cX4_error 41 = .ok (.if_icmp .ge 33, 3) := by decide +kernel
theorem dX4_error_44 : decode cX4_error 44 = .ok (.aload_n 0, 1) := by decide +kernel
theorem dX4_error_45 : decode cX4_error 45 = .ok (.iload_n 2, 1) := by decide +kernel
theorem dX4_error_46 : decode cX4_error 46 = .ok (.invokevirtual 251, 3) := by decide +kernel
theorem dX4_error_49 : decode cX4_error 49 = .ok (.aload_n 0, 1) := by decide +kernel
theorem dX4_error_50 : decode cX4_error 50 = .ok (.getfield 43, 3) := by decide +kernel
theorem dX4_error_53 : decode cX4_error 53 = .ok (.iload_n 2, 1) := by decide +kernel
theorem dX4_error_54 : decode cX4_error 54 = .ok (.iaload, 1) := by decide +kernel
theorem dX4_error_55 : decode cX4_error 55 = .ok (.iload_n 1, 1) := by decide +kernel
theorem dX4_error_56 : decode cX4_error 56 = .ok (.invokestatic 198, 3) := by decide +kernel
theorem dX4_error_59 : decode cX4_error 59 = .ok (.if_icmp .le 9, 3) := by decide +kernel
theorem dX4_error_62 : decode cX4_error 62 = .ok (.aload_n 0, 1) := by decide +kernel
theorem dX4_error_63 : decode cX4_error 63 = .ok (.iconst 5, 1) := by decide +kernel
theorem dX4_error_64 : decode cX4_error 64 = .ok (.invokevirtual 179, 3) := by decide +kernel
theorem dX4_error_67 : decode cX4_error 67 = .ok (.ireturn, 1) := by decide +kernel
theorem dX4_error_68 : decode cX4_error 68 = .ok (.iinc 2 1, 3) := by decide +kernel
theorem dX4_error_71 : decode cX4_error 71 = .ok (.goto (-35), 3) := by decide +kernel
theorem dX4_error_74 : decode cX4_error 74 = .ok (.aload_n 0, 1) := by decide +kernel
theorem dX4_error_75 : decode cX4_error 75 = .ok (.getfield 185, 3) := by decide +kernel
theorem dX4_error_78 : decode cX4_error 78 = .ok (.istore_n 2, 1) := by decide +kernel
theorem dX4_error_79 : decode cX4_error 79 = .ok (.aload_n 0, 1) := by decide +kernel
theorem dX4_error_80 : decode cX4_error 80 = .ok (.iload_n 1, 1) := by decide +kernel
theorem dX4_error_81 : decode cX4_error 81 = .ok (.putfield 185, 3) := by decide +kernel
theorem dX4_error_84 : decode cX4_error 84 = .ok (.aload_n 0, 1) := by decide +kernel
theorem dX4_error_85 : decode cX4_error 85 = .ok (.iload_n 2, 1) := by decide +kernel
theorem dX4_error_86 : decode cX4_error 86 = .ok (.invokevirtual 195, 3) := by decide +kernel
theorem dX4_error_89 : decode cX4_error 89 = .ok (.ireturn, 1) := by decide +kernel
theorem dX4_idle_0 : decode cX4_idle 0 = .ok (.aload_n 0, 1) := by decide +kernel
theorem dX4_idle_1 : decode cX4_idle 1 = .ok (.iconst 0, 1) := by decide +kernel
theorem dX4_idle_2 : decode cX4_idle 2 = .ok (.putfield 61, 3) := by decide +kernel
theorem dX4_idle_5 : decode cX4_idle 5 = .ok (.iconst 0, 1) := by decide +kernel
theorem dX4_idle_6 : decode cX4_idle 6 = .ok (.istore_n 2, 1) := by decide +kernel
theorem dX4_idle_7 : decode cX4_idle 7 = .ok (.iconst 0, 1) := by decide +kernel
theorem dX4_idle_8 : decode cX4_idle 8 = .ok (.istore_n 3, 1) := by decide +kernel
theorem dX4_idle_9 : decode cX4_idle 9 = .ok (.iload_n 3, 1) := by decide +kernel
theorem dX4_idle_10 : decode cX4_idle 10 = .ok (.aload_n 0, 1) := by decide +kernel
theorem dX4_idle_11 : decode cX4_idle 11 = .ok (.getfield 187, 3) := by decide +kernel
theorem dX4_idle_14 : decode cX4_idle 14 = .ok (.if_icmp .ge 31, 3) := by decide +kernel
theorem dX4_idle_17 : decode cX4_idle 17 = .ok (.aload_n 0, 1) := by decide +kernel
theorem dX4_idle_18 : decode cX4_idle 18 = .ok (.getfield 43, 3) := by decide +kernel
theorem dX4_idle_21 : decode cX4_idle 21 = .ok (.iload_n 3, 1) := by decide +kernel
theorem dX4_idle_22 : decode cX4_idle 22 = .ok (.iaload, 1) := by decide +kernel
theorem dX4_idle_23 : decode cX4_idle 23 = .ok (.ifCond .le 6, 3) := by decide +kernel
theorem dX4_idle_26 : decode cX4_idle 26 = .ok (.goto 13, 3) := by decide +kernel
theorem dX4_idle_29 : decode cX4_idle 29 = .ok (.iload_n 2, 1) := by decide +kernel
theorem dX4_idle_30 : decode cX4_idle 30 = .ok (.iload_n 1, 1) := by decide +kernel
theorem dX4_idle_31 : decode cX4_idle 31 = .ok (.if_icmp .ne 5, 3) := by decide +kernel
theorem dX4_idle_34 : decode cX4_idle 34 = .ok (.iload_n 3, 1) := by decide +kernel
theorem dX4_idle_35 : decode cX4_idle 35 = .ok (.ireturn, 1) := by decide +kernel
theorem dX4_idle_36 : decode cX4_idle 36 = .ok (.iinc 2 1, 3) := by decide +kernel
theorem dX4_idle_39 : decode cX4_idle 39 = .ok (.iinc 3 1, 3) := by decide +kernel
theorem dX4_idle_42 : decode cX4_idle 42 = .ok (.goto (-33), 3) := by decide +kernel
theorem dX4_idle_45 : decode cX4_idle 45 = .ok (.aload_n 0, 1) := by decide +kernel
theorem dX4_idle_46 : decode cX4_idle 46 = .ok (.iconst 1, 1) := by decide +kernel
theorem dX4_idle_47 : decode cX4_idle 47 = .ok (.putfield 61, 3) := by decide +kernel
theorem dX4_idle_50 : decode cX4_idle 50 = .ok (.iconst 0, 1) := by decide +kernel
theorem dX4_idle_51 : decode cX4_idle 51 = .ok (.ireturn, 1) := by decide +kernel
theorem dX4_size_0 : decode cX4_size 0 = .ok (.aload_n 0, 1) := by decide +kernel
theorem dX4_size_1 : decode cX4_size 1 = .ok (.iconst 0, 1) := by decide +kernel
theorem dX4_size_2 : decode cX4_size 2 = .ok (.putfield 61, 3) := by decide +kernel
theorem dX4_size_5 : decode cX4_size 5 = .ok (.aload_n 0, 1) := by decide +kernel
theorem dX4_size_6 : decode cX4_size 6 = .ok (.getfield 132, 3) := by decide +kernel
theorem dX4_size_9 : decode cX4_size 9 = .ok (.ireturn, 1) := by decide +kernel
theorem dX4_trouble_0 : decode cX4_trouble 0 = .ok (.aload_n 0, 1) := by decide +kernel
theorem dX4_trouble_1 : decode cX4_trouble 1 = .ok (.iconst 0, 1) := by decide +kernel
theorem dX4_trouble_2 : decode cX4_trouble 2 = .ok (.putfield 61, 3) := by decide +kernel
theorem dX4_trouble_5 : decode cX4_trouble 5 = .ok (.aload_n 0, 1) := by decide +kernel
theorem dX4_trouble_6 : decode cX4_trouble 6 = .ok (.getfield 64, 3) := by decide +kernel
theorem dX4_trouble_9 : decode cX4_trouble 9 = .ok (.ireturn, 1) := by decide +kernel
theorem dJ9_max_7cf53_0 : decode cJ9_max_7cf53 0 = .ok (.iload_n 0, 1) := by decide +kernel
theorem dJ9_max_7cf53_1 : decode cJ9_max_7cf53 1 = .ok (.iload_n 1, 1) := by decide +kernel
theorem dJ9_max_7cf53_2 : decode cJ9_max_7cf53 2 = .ok (.if_icmp .lt 7, 3) := by decide +kernel
theorem dJ9_max_7cf53_5 : decode cJ9_max_7cf53 5 = .ok (.iload_n 0, 1) := by decide +kernel
theorem dJ9_max_7cf53_6 : decode cJ9_max_7cf53 6 = .ok (.goto 4, 3) := by decide +kernel
theorem dJ9_max_7cf53_9 : decode cJ9_max_7cf53 9 = .ok (.iload_n 1, 1) := by decide +kernel
theorem dJ9_max_7cf53_10 : decode cJ9_max_7cf53 10 = .ok (.ireturn, 1) := by decide +kernel
theorem dJ9_min_7cf53_0 : decode cJ9_min_7cf53 0 = .ok (.iload_n 0, 1) := by decide +kernel
theorem dJ9_min_7cf53_1 : decode cJ9_min_7cf53 1 = .ok (.iload_n 1, 1) := by decide +kernel
theorem dJ9_min_7cf53_2 : decode cJ9_min_7cf53 2 = .ok (.if_icmp .gt 7, 3) := by decide +kernel
theorem dJ9_min_7cf53_5 : decode cJ9_min_7cf53 5 = .ok (.iload_n 0, 1) := by decide +kernel
theorem dJ9_min_7cf53_6 : decode cJ9_min_7cf53 6 = .ok (.goto 4, 3) := by decide +kernel
theorem dJ9_min_7cf53_9 : decode cJ9_min_7cf53 9 = .ok (.iload_n 1, 1) := by decide +kernel
theorem dJ9_min_7cf53_10 : decode cJ9_min_7cf53 10 = .ok (.ireturn, 1) := by decide +kernel
theorem dJ0_length_8abf5_0 : decode cJ0_length_8abf5 0 = .ok (.aload_n 0, 1) := by decide +kernel
theorem dJ0_length_8abf5_1 : decode cJ0_length_8abf5 1 = .ok (.getfield 9, 3) := by decide +kernel
theorem dJ0_length_8abf5_4 : decode cJ0_length_8abf5 4 = .ok (.arraylength, 1) := by decide +kernel
theorem dJ0_length_8abf5_5 : decode cJ0_length_8abf5 5 = .ok (.aload_n 0, 1) := by decide +kernel
theorem dJ0_length_8abf5_6 : decode cJ0_length_8abf5 6 = .ok (.invokevirtual 335, 3) := by decide +kernel
theorem dJ0_length_8abf5_9 : decode cJ0_length_8abf5 9 = .ok (.ishr, 1) := by decide +kernel
theorem dJ0_length_8abf5_10 : decode cJ0_length_8abf5 10 = .ok (.ireturn, 1) := by decide +kernel
theorem dJ0_charAt_5068e_0 : decode cJ0_charAt_5068e 0 = .ok (.aload_n 0, 1) := by decide +kernel
theorem dJ0_charAt_5068e_1 : decode cJ0_charAt_5068e 1 = .ok (.invokevirtual 492, 3) := by decide +kernel
theorem dJ0_charAt_5068e_4 : decode cJ0_charAt_5068e 4 = .ok (.ifCond .eq 12, 3) := by decide +kernel
theorem dJ0_charAt_5068e_7 : decode cJ0_charAt_5068e 7 = .ok (.aload_n 0, 1) := by decide +kernel
theorem dJ0_charAt_5068e_8 : decode cJ0_charAt_5068e 8 = .ok (.getfield 9, 3) := by decide +kernel
theorem dJ0_charAt_5068e_11 : decode cJ0_charAt_5068e 11 = .ok (.iload_n 1, 1) := by decide +kernel
theorem dJ0_charAt_5068e_12 : decode cJ0_charAt_5068e 12 = .ok (.invokestatic 495, 3) := by decide +kernel
theorem dJ0_charAt_5068e_15 : decode cJ0_charAt_5068e 15 = .ok (.ireturn, 1) := by decide +kernel
theorem dJ0_charAt_5068e_16 : decode cJ0_charAt_5068e 16 = .ok (.aload_n 0, 1) := by decide +kernel
theorem dJ0_charAt_5068e_17 : decode cJ0_charAt_5068e 17 = .ok (.getfield 9, 3) := by decide +kernel
theorem dJ0_charAt_5068e_20 : decode cJ0_charAt_5068e 20 = .ok (.iload_n 1, 1) := by decide +kernel
theorem dJ0_charAt_5068e_21 : decode cJ0_charAt_5068e 21 = .ok (.invokestatic 498, 3) := by decide +kernel
theorem dJ0_charAt_5068e_24 : decode cJ0_charAt_5068e 24 = .ok (.ireturn, 1) := by decide +kernel
theorem dJ0_coder_7d493_0 : decode cJ0_coder_7d493 0 = .ok (.getstatic 38, 3) := by decide +kernel
theorem dJ0_coder_7d493_3 : decode cJ0_coder_7d493 3 = .ok (.ifCond .eq 10, 3) := by decide +kernel
theorem dJ0_coder_7d493_6 : decode cJ0_coder_7d493 6 = .ok (.aload_n 0, 1) := by decide +kernel
theorem dJ0_coder_7d493_7 : decode cJ0_coder_7d493 7 = .ok (.getfield 15, 3) := by decide +kernel
theorem dJ0_coder_7d493_10 : decode cJ0_coder_7d493 10 = .ok (.goto 4, 3) := by decide +kernel
theorem dJ0_coder_7d493_13 : decode cJ0_coder_7d493 13 = .ok (.iconst 1, 1) := by decide +kernel
theorem dJ0_coder_7d493_14 : decode cJ0_coder_7d493 14 = .ok (.ireturn, 1) := by decide +kernel
theorem dJ0_isLatin1_aae02_0 : decode cJ0_isLatin1_aae02 0 = .ok (.getstatic 38, 3) := by decide +kernel
theorem dJ0_isLatin1_aae02_3 : decode cJ0_isLatin1_aae02 3 = .ok (.ifCond .eq 14, 3) := by decide +kernel
theorem dJ0_isLatin1_aae02_6 : decode cJ0_isLatin1_aae02 6 = .ok (.aload_n 0, 1) := by decide +kernel
theorem dJ0_isLatin1_aae02_7 : decode cJ0_isLatin1_aae02 7 = .ok (.getfield 15, 3) := by decide +kernel
theorem dJ0_isLatin1_aae02_10 : decode cJ0_isLatin1_aae02 10 = .ok (.ifCond .ne 7, 3) := by decide +kernel
theorem dJ0_isLatin1_aae02_13 : decode cJ0_isLatin1_aae02 13 = .ok (.iconst 1, 1) := by decide +kernel
theorem dJ0_isLatin1_aae02_14 : decode cJ0_isLatin1_aae02 14 = .ok (.goto 4, 3) := by decide +kernel
theorem dJ0_isLatin1_aae02_17 : decode cJ0_isLatin1_aae02 17 = .ok (.iconst 0, 1) := by decide +kernel
theorem dJ0_isLatin1_aae02_18 : decode cJ0_isLatin1_aae02 18 = .ok (.ireturn, 1) := by decide +kernel
theorem dJ0_checkIndex_df160_0 : decode cJ0_checkIndex_df160 0 = .ok (.iload_n 0, 1) := by decide +kernel
theorem dJ0_checkIndex_df160_1 : decode cJ0_checkIndex_df160 1 = .ok (.iload_n 1, 1) := by decide +kernel
theorem dJ0_checkIndex_df160_2 : decode cJ0_checkIndex_df160 2 = .ok (.getstatic 1053, 3) := by decide +kernel
theorem dJ0_checkIndex_df160_5 : decode cJ0_checkIndex_df160 5 = .ok (.invokestatic 1059, 3) := by decide +kernel
theorem dJ0_checkIndex_df160_8 : decode cJ0_checkIndex_df160 8 = .ok (.pop, 1) := by decide +kernel
theorem dJ0_checkIndex_df160_9 : decode cJ0_checkIndex_df160 9 = .ok (.return_, 1) := by decide +kernel
theorem dJ1_charAt_3b067_0 : decode cJ1_charAt_3b067 0 = .ok (.iload_n 1, 1) := by decide +kernel
theorem dJ1_charAt_3b067_1 : decode cJ1_charAt_3b067 1 = .ok (.aload_n 0, 1) := by decide +kernel
theorem dJ1_charAt_3b067_2 : decode cJ1_charAt_3b067 2 = .ok (.arraylength, 1) := by decide +kernel
theorem dJ1_charAt_3b067_3 : decode cJ1_charAt_3b067 3 = .ok (.invokestatic 9, 3) := by decide +kernel
theorem dJ1_charAt_3b067_6 : decode cJ1_charAt_3b067 6 = .ok (.aload_n 0, 1) := by decide +kernel
theorem dJ1_charAt_3b067_7 : decode cJ1_charAt_3b067 7 = .ok (.iload_n 1, 1) := by decide +kernel
theorem dJ1_charAt_3b067_8 : decode cJ1_charAt_3b067 8 = .ok (.baload, 1) := by decide +kernel
theorem dJ1_charAt_3b067_9 : decode cJ1_charAt_3b067 9 = .ok (.sipush 255, 3) := by decide +kernel
theorem dJ1_charAt_3b067_12 : decode cJ1_charAt_3b067 12 = .ok (.iand, 1) := by decide +kernel
theorem dJ1_charAt_3b067_13 : decode cJ1_charAt_3b067 13 = .ok (.i2c, 1) := by decide +kernel
theorem dJ1_charAt_3b067_14 : decode cJ1_charAt_3b067 14 = .ok (.ireturn, 1) := by decide +kernel
theorem dJ2_getChar_3b067_0 : decode cJ2_getChar_3b067 0 = .ok (.getstatic 44, 3) := by decide +kernel
theorem dJ2_getChar_3b067_3 : decode cJ2_getChar_3b067 3 = .ok (.ifCond .ne 25, 3) := by decide +kernel
theorem dJ2_getChar_3b067_6 : decode cJ2_getChar_3b067 6 = .ok (.iload_n 1, 1) := by decide +kernel
theorem dJ2_getChar_3b067_7 : decode cJ2_getChar_3b067 7 = .ok (.ifCond .lt 11, 3) := by decide +kernel
theorem dJ2_getChar_3b067_10 : decode cJ2_getChar_3b067 10 = .ok (.iload_n 1, 1) := by decide +kernel
theorem dJ2_getChar_3b067_11 : decode cJ2_getChar_3b067 11 = .ok (.aload_n 0, 1) := by decide +kernel
theorem dJ2_getChar_3b067_12 : decode cJ2_getChar_3b067 12 = .ok (.invokestatic 48, 3) := by decide +kernel
theorem dJ2_getChar_3b067_15 : decode cJ2_getChar_3b067 15 = .ok (.if_icmp .lt 13, 3) := by decide +kernel
theorem dJ2_getChar_3b067_18 : decode cJ2_getChar_3b067 18 = .ok (.new 52, 3) := by decide +kernel
theorem dJ2_getChar_3b067_21 : decode cJ2_getChar_3b067 21 = .ok (.dup, 1) := by decide +kernel
theorem dJ2_getChar_3b067_22 : decode cJ2_getChar_3b067 22 = .ok (.ldc 54, 2) := by decide +kernel
theorem dJ2_getChar_3b067_24 : decode cJ2_getChar_3b067 24 = .ok (.invokespecial 56, 3) := by decide +kernel
theorem dJ2_getChar_3b067_27 : decode cJ2_getChar_3b067 27 = .ok (.athrow, 1) := by decide +kernel
theorem dJ2_getChar_3b067_28 : decode cJ2_getChar_3b067 28 = .ok (.iload_n 1, 1) := by decide +kernel
theorem dJ2_getChar_3b067_29 : decode cJ2_getChar_3b067 29 = .ok (.iconst 1, 1) := by decide +kernel
theorem dJ2_getChar_3b067_30 : decode cJ2_getChar_3b067 30 = .ok (.ishl, 1) := by decide +kernel
theorem dJ2_getChar_3b067_31 : decode cJ2_getChar_3b067 31 = .ok (.istore_n 1, 1) := by decide +kernel
theorem dJ2_getChar_3b067_32 : decode cJ2_getChar_3b067 32 = .ok (.aload_n 0, 1) := by decide +kernel
theorem dJ2_getChar_3b067_33 : decode cJ2_getChar_3b067 33 = .ok (.iload_n 1, 1) := by decide +kernel
theorem dJ2_getChar_3b067_34 : decode cJ2_getChar_3b067 34 = .ok (.iinc 1 1, 3) := by decide +kernel
theorem dJ2_getChar_3b067_37 : decode cJ2_getChar_3b067 37 = .ok (.baload, 1) := by decide +kernel
theorem dJ2_getChar_3b067_38 : decode cJ2_getChar_3b067 38 = .ok (.sipush 255, 3) := by decide +kernel
theorem dJ2_getChar_3b067_41 : decode cJ2_getChar_3b067 41 = .ok (.iand, 1) := by decide +kernel
theorem dJ2_getChar_3b067_42 : decode cJ2_getChar_3b067 42 = .ok (.getstatic 59, 3) := by decide +kernel
theorem dJ2_getChar_3b067_45 : decode cJ2_getChar_3b067 45 = .ok (.ishl, 1) := by decide +kernel
theorem dJ2_getChar_3b067_46 : decode cJ2_getChar_3b067 46 = .ok (.aload_n 0, 1) := by decide +kernel
theorem dJ2_getChar_3b067_47 : decode cJ2_getChar_3b067 47 = .ok (.iload_n 1, 1) := by decide +kernel
theorem dJ2_getChar_3b067_48 : decode cJ2_getChar_3b067 48 = .ok (.baload, 1) := by decide +kernel
theorem dJ2_getChar_3b067_49 : decode cJ2_getChar_3b067 49 = .ok (.sipush 255, 3) := by decide +kernel
theorem dJ2_getChar_3b067_52 : decode cJ2_getChar_3b067 52 = .ok (.iand, 1) := by decide +kernel
theorem dJ2_getChar_3b067_53 : decode cJ2_getChar_3b067 53 = .ok (.getstatic 63, 3) := by decide +kernel
theorem dJ2_getChar_3b067_56 : decode cJ2_getChar_3b067 56 = .ok (.ishl, 1) := by decide +kernel
theorem dJ2_getChar_3b067_57 : decode cJ2_getChar_3b067 57 = .ok (.ior, 1) := by decide +kernel
theorem dJ2_getChar_3b067_58 : decode cJ2_getChar_3b067 58 = .ok (.i2c, 1) := by decide +kernel
theorem dJ2_getChar_3b067_59 : decode cJ2_getChar_3b067 59 = .ok (.ireturn, 1) := by decide +kernel
theorem dJ2_length_9d52b_0 : decode cJ2_length_9d52b 0 = .ok (.aload_n 0, 1) := by decide +kernel
theorem dJ2_length_9d52b_1 : decode cJ2_length_9d52b 1 = .ok (.arraylength, 1) := by decide +kernel
theorem dJ2_length_9d52b_2 : decode cJ2_length_9d52b 2 = .ok (.iconst 1, 1) := by decide +kernel
theorem dJ2_length_9d52b_3 : decode cJ2_length_9d52b 3 = .ok (.ishr, 1) := by decide +kernel
theorem dJ2_length_9d52b_4 : decode cJ2_length_9d52b 4 = .ok (.ireturn, 1) := by decide +kernel
theorem dJ2_charAt_3b067_0 : decode cJ2_charAt_3b067 0 = .ok (.iload_n 1, 1) := by decide +kernel
theorem dJ2_charAt_3b067_1 : decode cJ2_charAt_3b067 1 = .ok (.aload_n 0, 1) := by decide +kernel
theorem dJ2_charAt_3b067_2 : decode cJ2_charAt_3b067 2 = .ok (.invokestatic 67, 3) := by decide +kernel
theorem dJ2_charAt_3b067_5 : decode cJ2_charAt_3b067 5 = .ok (.aload_n 0, 1) := by decide +kernel
theorem dJ2_charAt_3b067_6 : decode cJ2_charAt_3b067 6 = .ok (.iload_n 1, 1) := by decide +kernel
theorem dJ2_charAt_3b067_7 : decode cJ2_charAt_3b067 7 = .ok (.invokestatic 71, 3) := by decide +kernel
theorem dJ2_charAt_3b067_10 : decode cJ2_charAt_3b067 10 = .ok (.ireturn, 1) := by decide +kernel
theorem dJ2_checkIndex_2214a_0 : decode cJ2_checkIndex_2214a 0 = .ok (.iload_n 0, 1) := by decide +kernel
theorem dJ2_checkIndex_2214a_1 : decode cJ2_checkIndex_2214a 1 = .ok (.aload_n 1, 1) := by decide +kernel
theorem dJ2_checkIndex_2214a_2 : decode cJ2_checkIndex_2214a 2 = .ok (.invokestatic 48, 3) := by decide +kernel
theorem dJ2_checkIndex_2214a_5 : decode cJ2_checkIndex_2214a 5 = .ok (.invokestatic 414, 3) := by decide +kernel
theorem dJ2_checkIndex_2214a_8 : decode cJ2_checkIndex_2214a 8 = .ok (.return_, 1) := by decide +kernel
theorem dJ7_fill_53178_0 : decode cJ7_fill_53178 0 = .ok (.iconst 0, 1) := by decide +kernel
theorem dJ7_fill_53178_1 : decode cJ7_fill_53178 1 = .ok (.istore_n 2, 1) := by decide +kernel
theorem dJ7_fill_53178_2 : decode cJ7_fill_53178 2 = .ok (.aload_n 0, 1) := by decide +kernel
theorem dJ7_fill_53178_3 : decode cJ7_fill_53178 3 = .ok (.arraylength, 1) := by decide +kernel
theorem dJ7_fill_53178_4 : decode cJ7_fill_53178 4 = .ok (.istore_n 3, 1) := by decide +kernel
theorem dJ7_fill_53178_5 : decode cJ7_fill_53178 5 = .ok (.iload_n 2, 1) := by decide +kernel
theorem dJ7_fill_53178_6 : decode cJ7_fill_53178 6 = .ok (.iload_n 3, 1) := by decide +kernel
theorem dJ7_fill_53178_7 : decode cJ7_fill_53178 7 = .ok (.if_icmp .ge 13, 3) := by decide +kernel
theorem dJ7_fill_53178_10 : decode cJ7_fill_53178 10 = .ok (.aload_n 0, 1) := by decide +kernel
theorem dJ7_fill_53178_11 : decode cJ7_fill_53178 11 = .ok (.iload_n 2, 1) := by decide +kernel
theorem dJ7_fill_53178_12 : decode cJ7_fill_53178 12 = .ok (.iload_n 1, 1) := by decide +kernel
theorem dJ7_fill_53178_13 : decode cJ7_fill_53178 13 = .ok (.iastore, 1) := by decide +kernel
theorem dJ7_fill_53178_14 : decode cJ7_fill_53178 14 = .ok (.iinc 2 1, 3) := by decide +kernel
theorem dJ7_fill_53178_17 : decode cJ7_fill_53178 17 = .ok (.goto (-12), 3) := by decide +kernel
theorem dJ7_fill_53178_20 : decode cJ7_fill_53178 20 = .ok (.return_, 1) := by decide +kernel
theorem dJ3_checkIndex_8e157_0 : decode cJ3_checkIndex_8e157 0 = .ok (.iload_n 0, 1) := by decide +kernel
theorem dJ3_checkIndex_8e157_1 : decode cJ3_checkIndex_8e157 1 = .ok (.ifCond .lt 8, 3) := by decide +kernel
theorem dJ3_checkIndex_8e157_4 : decode cJ3_checkIndex_8e157 4 = .ok (.iload_n 0, 1) := by decide +kernel
theorem dJ3_checkIndex_8e157_5 : decode cJ3_checkIndex_8e157 5 = .ok (.iload_n 1, 1) := by decide +kernel
theorem dJ3_checkIndex_8e157_6 : decode cJ3_checkIndex_8e157 6 = .ok (.if_icmp .lt 10, 3) := by decide +kernel
theorem dJ3_checkIndex_8e157_9 : decode cJ3_checkIndex_8e157 9 = .ok (.aload_n 2, 1) := by decide +kernel
theorem dJ3_checkIndex_8e157_10 : decode cJ3_checkIndex_8e157 10 = .ok (.iload_n 0, 1) := by decide +kernel
theorem dJ3_checkIndex_8e157_11 : decode cJ3_checkIndex_8e157 11 = .ok (.iload_n 1, 1) := by decide +kernel
theorem dJ3_checkIndex_8e157_12 : decode cJ3_checkIndex_8e157 12 = .ok (.invokestatic 95, 3) := by decide +kernel
theorem dJ3_checkIndex_8e157_15 : decode cJ3_checkIndex_8e157 15 = .ok (.athrow, 1) := by decide +kernel
theorem dJ3_checkIndex_8e157_16 : decode cJ3_checkIndex_8e157 16 = .ok (.iload_n 0, 1) := by decide +kernel
theorem dJ3_checkIndex_8e157_17 : decode cJ3_checkIndex_8e157 17 = .ok (.ireturn, 1) := by decide +kernel
theorem dL_idle_0 : decode cL_idle 0 = .ok (.aload_n 2, 1) := by decide +kernel
theorem dL_idle_1 : decode cL_idle 1 = .ok (.iconst 0, 1) := by decide +kernel
theorem dL_idle_2 : decode cL_idle 2 = .ok (.aload_n 0, 1) := by decide +kernel
theorem dL_idle_3 : decode cL_idle 3 = .ok (.iload_n 1, 1) := by decide +kernel
theorem dL_idle_4 : decode cL_idle 4 = .ok (.invokevirtual 7, 3) := by decide +kernel
theorem dL_idle_7 : decode cL_idle 7 = .ok (.i2l, 1) := by decide +kernel
theorem dL_idle_8 : decode cL_idle 8 = .ok (.lastore, 1) := by decide +kernel
theorem dL_idle_9 : decode cL_idle 9 = .ok (.goto 6, 3) := by decide +kernel
theorem dL_idle_12 : decode cL_idle 12 = .ok (.astore_n 3, 1) := by decide +kernel
theorem dL_idle_13 : decode cL_idle 13 = .ok (.iconst 1, 1) := by decide +kernel
theorem dL_idle_14 : decode cL_idle 14 = .ok (.ireturn, 1) := by decide +kernel
theorem dL_idle_15 : decode cL_idle 15 = .ok (.iconst 0, 1) := by decide +kernel
theorem dL_idle_16 : decode cL_idle 16 = .ok (.ireturn, 1) := by decide +kernel
theorem dL_law_0 : decode cL_law 0 = .ok (.new 8, 3) := by decide +kernel
theorem dL_law_3 : decode cL_law 3 = .ok (.dup, 1) := by decide +kernel
theorem dL_law_4 : decode cL_law 4 = .ok (.invokespecial 15, 3) := by decide +kernel
theorem dL_law_7 : decode cL_law 7 = .ok (.astore_n 1, 1) := by decide +kernel
theorem dL_law_8 : decode cL_law 8 = .ok (.new 16, 3) := by decide +kernel
theorem dL_law_11 : decode cL_law 11 = .ok (.dup, 1) := by decide +kernel
theorem dL_law_12 : decode cL_law 12 = .ok (.invokespecial 18, 3) := by decide +kernel
theorem dL_law_15 : decode cL_law 15 = .ok (.astore_n 2, 1) := by decide +kernel
theorem dL_law_16 : decode cL_law 16 = .ok (.iconst 1, 1) := by decide +kernel
theorem dL_law_17 : decode cL_law 17 = .ok (.newarray .long, 2) := by decide +kernel
theorem dL_law_19 : decode cL_law 19 = .ok (.astore_n 3, 1) := by decide +kernel
theorem dL_law_20 : decode cL_law 20 = .ok (.iconst 0, 1) := by decide +kernel
theorem dL_law_21 : decode cL_law 21 = .ok (.istore 4, 2) := by decide +kernel
theorem dL_law_23 : decode cL_law 23 = .ok (.iload 4, 2) := by decide +kernel
theorem dL_law_25 : decode cL_law 25 = .ok (.aload_n 0, 1) := by decide +kernel
theorem dL_law_26 : decode cL_law 26 = .ok (.arraylength, 1) := by decide +kernel
theorem dL_law_27 : decode cL_law 27 = .ok (.bipush 6, 2) := by decide +kernel
theorem dL_law_29 : decode cL_law 29 = .ok (.isub, 1) := by decide +kernel
theorem dL_law_30 : decode cL_law 30 = .ok (.if_icmp .gt 2092, 3) := by decide +kernel
theorem dL_law_33 : decode cL_law 33 = .ok (.aload_n 0, 1) := by decide +kernel
theorem dL_law_34 : decode cL_law 34 = .ok (.iload 4, 2) := by decide +kernel
theorem dL_law_36 : decode cL_law 36 = .ok (.iaload, 1) := by decide +kernel
theorem dL_law_37 : decode cL_law 37 = .ok (.bipush 63, 2) := by decide +kernel
theorem dL_law_39 : decode cL_law 39 = .ok (.iand, 1) := by decide +kernel
theorem dL_law_40 : decode cL_law 40 = .ok (.tableswitch 2076 0 48 #[212, 285, 310, 323, 336, 361, 398, 447, 484, 521, 546, 595, 656, 721, 798, 823, 848, 897, 934, 987, 1024, 1101, 1138, 1199, 1224, 1261, 1298, 1335, 1360, 1409, 1446, 1483, 1548, 1573, 1610, 1635, 1672, 1709, 1734, 1771, 1820, 1845, 1870, 1907, 1932, 1969, 1994, 2050, 2063], 212) := by decide +kernel
theorem dL_law_252 : decode cL_law 252 = .ok (.aload_n 1, 1) := by decide +kernel
theorem dL_law_253 : decode cL_law 253 = .ok (.aload_n 0, 1) := by decide +kernel
theorem dL_law_254 : decode cL_law 254 = .ok (.iload 4, 2) := by decide +kernel
theorem dL_law_256 : decode cL_law 256 = .ok (.iconst 1, 1) := by decide +kernel
theorem dL_law_257 : decode cL_law 257 = .ok (.iadd, 1) := by decide +kernel
theorem dL_law_258 : decode cL_law 258 = .ok (.iaload, 1) := by decide +kernel
theorem dL_law_259 : decode cL_law 259 = .ok (.aload_n 0, 1) := by decide +kernel
theorem dL_law_260 : decode cL_law 260 = .ok (.iload 4, 2) := by decide +kernel
theorem dL_law_262 : decode cL_law 262 = .ok (.iconst 2, 1) := by decide +kernel
theorem dL_law_263 : decode cL_law 263 = .ok (.iadd, 1) := by decide +kernel
theorem dL_law_264 : decode cL_law 264 = .ok (.iaload, 1) := by decide +kernel
theorem dL_law_265 : decode cL_law 265 = .ok (.aload_n 0, 1) := by decide +kernel
theorem dL_law_266 : decode cL_law 266 = .ok (.iload 4, 2) := by decide +kernel
theorem dL_law_268 : decode cL_law 268 = .ok (.iconst 3, 1) := by decide +kernel
theorem dL_law_269 : decode cL_law 269 = .ok (.iadd, 1) := by decide +kernel
theorem dL_law_270 : decode cL_law 270 = .ok (.iaload, 1) := by decide +kernel
theorem dL_law_271 : decode cL_law 271 = .ok (.aload_n 0, 1) := by decide +kernel
theorem dL_law_272 : decode cL_law 272 = .ok (.iload 4, 2) := by decide +kernel
theorem dL_law_274 : decode cL_law 274 = .ok (.iconst 4, 1) := by decide +kernel
theorem dL_law_275 : decode cL_law 275 = .ok (.iadd, 1) := by decide +kernel
theorem dL_law_276 : decode cL_law 276 = .ok (.iaload, 1) := by decide +kernel
theorem dL_law_277 : decode cL_law 277 = .ok (.aload_n 0, 1) := by decide +kernel
theorem dL_law_278 : decode cL_law 278 = .ok (.iload 4, 2) := by decide +kernel
theorem dL_law_280 : decode cL_law 280 = .ok (.iconst 5, 1) := by decide +kernel
theorem dL_law_281 : decode cL_law 281 = .ok (.iadd, 1) := by decide +kernel
theorem dL_law_282 : decode cL_law 282 = .ok (.iaload, 1) := by decide +kernel
theorem dL_law_283 : decode cL_law 283 = .ok (.invokevirtual 19, 3) := by decide +kernel
theorem dL_law_286 : decode cL_law 286 = .ok (.aload_n 2, 1) := by decide +kernel
theorem dL_law_287 : decode cL_law 287 = .ok (.aload_n 0, 1) := by decide +kernel
theorem dL_law_288 : decode cL_law 288 = .ok (.iload 4, 2) := by decide +kernel
theorem dL_law_290 : decode cL_law 290 = .ok (.iconst 1, 1) := by decide +kernel
theorem dL_law_291 : decode cL_law 291 = .ok (.iadd, 1) := by decide +kernel
theorem dL_law_292 : decode cL_law 292 = .ok (.iaload, 1) := by decide +kernel
theorem dL_law_293 : decode cL_law 293 = .ok (.aload_n 0, 1) := by decide +kernel
theorem dL_law_294 : decode cL_law 294 = .ok (.iload 4, 2) := by decide +kernel
theorem dL_law_296 : decode cL_law 296 = .ok (.iconst 2, 1) := by decide +kernel
theorem dL_law_297 : decode cL_law 297 = .ok (.iadd, 1) := by decide +kernel
theorem dL_law_298 : decode cL_law 298 = .ok (.iaload, 1) := by decide +kernel
theorem dL_law_299 : decode cL_law 299 = .ok (.aload_n 0, 1) := by decide +kernel
theorem dL_law_300 : decode cL_law 300 = .ok (.iload 4, 2) := by decide +kernel
theorem dL_law_302 : decode cL_law 302 = .ok (.iconst 3, 1) := by decide +kernel
theorem dL_law_303 : decode cL_law 303 = .ok (.iadd, 1) := by decide +kernel
theorem dL_law_304 : decode cL_law 304 = .ok (.iaload, 1) := by decide +kernel
theorem dL_law_305 : decode cL_law 305 = .ok (.aload_n 0, 1) := by decide +kernel
theorem dL_law_306 : decode cL_law 306 = .ok (.iload 4, 2) := by decide +kernel
theorem dL_law_308 : decode cL_law 308 = .ok (.iconst 4, 1) := by decide +kernel
theorem dL_law_309 : decode cL_law 309 = .ok (.iadd, 1) := by decide +kernel
theorem dL_law_310 : decode cL_law 310 = .ok (.iaload, 1) := by decide +kernel
theorem dL_law_311 : decode cL_law 311 = .ok (.aload_n 0, 1) := by decide +kernel
theorem dL_law_312 : decode cL_law 312 = .ok (.iload 4, 2) := by decide +kernel
theorem dL_law_314 : decode cL_law 314 = .ok (.iconst 5, 1) := by decide +kernel
theorem dL_law_315 : decode cL_law 315 = .ok (.iadd, 1) := by decide +kernel
theorem dL_law_316 : decode cL_law 316 = .ok (.iaload, 1) := by decide +kernel
theorem dL_law_317 : decode cL_law 317 = .ok (.invokevirtual 23, 3) := by decide +kernel
theorem dL_law_320 : decode cL_law 320 = .ok (.if_icmp .eq 1796, 3) := by decide +kernel
theorem dL_law_323 : decode cL_law 323 = .ok (.iconst 0, 1) := by decide +kernel
theorem dL_law_324 : decode cL_law 324 = .ok (.ireturn, 1) := by decide +kernel
theorem dL_law_325 : decode cL_law 325 = .ok (.aload_n 1, 1) := by decide +kernel
theorem dL_law_326 : decode cL_law 326 = .ok (.aload_n 0, 1) := by decide +kernel
theorem dL_law_327 : decode cL_law 327 = .ok (.iload 4, 2) := by decide +kernel
theorem dL_law_329 : decode cL_law 329 = .ok (.iconst 1, 1) := by decide +kernel
theorem dL_law_330 : decode cL_law 330 = .ok (.iadd, 1) := by decide +kernel
theorem dL_law_331 : decode cL_law 331 = .ok (.iaload, 1) := by decide +kernel
theorem dL_law_332 : decode cL_law 332 = .ok (.invokevirtual 24, 3) := by decide +kernel
theorem dL_law_335 : decode cL_law 335 = .ok (.aload_n 2, 1) := by decide +kernel
theorem dL_law_336 : decode cL_law 336 = .ok (.aload_n 0, 1) := by decide +kernel
theorem dL_law_337 : decode cL_law 337 = .ok (.iload 4, 2) := by decide +kernel
theorem dL_law_339 : decode cL_law 339 = .ok (.iconst 1, 1) := by decide +kernel
theorem dL_law_340 : decode cL_law 340 = .ok (.iadd, 1) := by decide +kernel
theorem dL_law_341 : decode cL_law 341 = .ok (.iaload, 1) := by decide +kernel
theorem dL_law_342 : decode cL_law 342 = .ok (.invokevirtual 27, 3) := by decide +kernel
theorem dL_law_345 : decode cL_law 345 = .ok (.if_icmp .eq 1771, 3) := by decide +kernel
theorem dL_law_348 : decode cL_law 348 = .ok (.iconst 0, 1) := by decide +kernel
theorem dL_law_349 : decode cL_law 349 = .ok (.ireturn, 1) := by decide +kernel
theorem dL_law_350 : decode cL_law 350 = .ok (.aload_n 1, 1) := by decide +kernel
theorem dL_law_351 : decode cL_law 351 = .ok (.invokevirtual 28, 3) := by decide +kernel
theorem dL_law_354 : decode cL_law 354 = .ok (.aload_n 2, 1) := by decide +kernel
theorem dL_law_355 : decode cL_law 355 = .ok (.invokevirtual 32, 3) := by decide +kernel
theorem dL_law_358 : decode cL_law 358 = .ok (.if_icmp .eq 1758, 3) := by decide +kernel
theorem dL_law_361 : decode cL_law 361 = .ok (.iconst 0, 1) := by decide +kernel
theorem dL_law_362 : decode cL_law 362 = .ok (.ireturn, 1) := by decide +kernel
theorem dL_law_363 : decode cL_law 363 = .ok (.aload_n 1, 1) := by decide +kernel
theorem dL_law_364 : decode cL_law 364 = .ok (.invokevirtual 33, 3) := by decide +kernel
theorem dL_law_367 : decode cL_law 367 = .ok (.aload_n 2, 1) := by decide +kernel
theorem dL_law_368 : decode cL_law 368 = .ok (.invokevirtual 36, 3) := by decide +kernel
theorem dL_law_371 : decode cL_law 371 = .ok (.if_icmp .eq 1745, 3) := by decide +kernel
theorem dL_law_374 : decode cL_law 374 = .ok (.iconst 0, 1) := by decide +kernel
theorem dL_law_375 : decode cL_law 375 = .ok (.ireturn, 1) := by decide +kernel
theorem dL_law_376 : decode cL_law 376 = .ok (.aload_n 1, 1) := by decide +kernel
theorem dL_law_377 : decode cL_law 377 = .ok (.aload_n 0, 1) := by decide +kernel
theorem dL_law_378 : decode cL_law 378 = .ok (.iload 4, 2) := by decide +kernel
theorem dL_law_380 : decode cL_law 380 = .ok (.iconst 1, 1) := by decide +kernel
theorem dL_law_381 : decode cL_law 381 = .ok (.iadd, 1) := by decide +kernel
theorem dL_law_382 : decode cL_law 382 = .ok (.iaload, 1) := by decide +kernel
theorem dL_law_383 : decode cL_law 383 = .ok (.invokevirtual 37, 3) := by decide +kernel
theorem dL_law_386 : decode cL_law 386 = .ok (.aload_n 2, 1) := by decide +kernel
theorem dL_law_387 : decode cL_law 387 = .ok (.aload_n 0, 1) := by decide +kernel
theorem dL_law_388 : decode cL_law 388 = .ok (.iload 4, 2) := by decide +kernel
theorem dL_law_390 : decode cL_law 390 = .ok (.iconst 1, 1) := by decide +kernel
theorem dL_law_391 : decode cL_law 391 = .ok (.iadd, 1) := by decide +kernel
theorem dL_law_392 : decode cL_law 392 = .ok (.iaload, 1) := by decide +kernel
theorem dL_law_393 : decode cL_law 393 = .ok (.invokevirtual 40, 3) := by decide +kernel
theorem dL_law_396 : decode cL_law 396 = .ok (.if_icmp .eq 1720, 3) := by decide +kernel
theorem dL_law_399 : decode cL_law 399 = .ok (.iconst 0, 1) := by decide +kernel
theorem dL_law_400 : decode cL_law 400 = .ok (.ireturn, 1) := by decide +kernel
theorem dL_law_401 : decode cL_law 401 = .ok (.aload_n 1, 1) := by decide +kernel
theorem dL_law_402 : decode cL_law 402 = .ok (.aload_n 0, 1) := by decide +kernel
theorem dL_law_403 : decode cL_law 403 = .ok (.iload 4, 2) := by decide +kernel
theorem dL_law_405 : decode cL_law 405 = .ok (.iconst 1, 1) := by decide +kernel
theorem dL_law_406 : decode cL_law 406 = .ok (.iadd, 1) := by decide +kernel
theorem dL_law_407 : decode cL_law 407 = .ok (.iaload, 1) := by decide +kernel
theorem dL_law_408 : decode cL_law 408 = .ok (.aload_n 0, 1) := by decide +kernel
theorem dL_law_409 : decode cL_law 409 = .ok (.iload 4, 2) := by decide +kernel
theorem dL_law_411 : decode cL_law 411 = .ok (.iconst 2, 1) := by decide +kernel
theorem dL_law_412 : decode cL_law 412 = .ok (.iadd, 1) := by decide +kernel
theorem dL_law_413 : decode cL_law 413 = .ok (.iaload, 1) := by decide +kernel
theorem dL_law_414 : decode cL_law 414 = .ok (.invokevirtual 41, 3) := by decide +kernel
theorem dL_law_417 : decode cL_law 417 = .ok (.aload_n 2, 1) := by decide +kernel
theorem dL_law_418 : decode cL_law 418 = .ok (.aload_n 0, 1) := by decide +kernel
theorem dL_law_419 : decode cL_law 419 = .ok (.iload 4, 2) := by decide +kernel
theorem dL_law_421 : decode cL_law 421 = .ok (.iconst 1, 1) := by decide +kernel
theorem dL_law_422 : decode cL_law 422 = .ok (.iadd, 1) := by decide +kernel
theorem dL_law_423 : decode cL_law 423 = .ok (.iaload, 1) := by decide +kernel
theorem dL_law_424 : decode cL_law 424 = .ok (.aload_n 0, 1) := by decide +kernel
theorem dL_law_425 : decode cL_law 425 = .ok (.iload 4, 2) := by decide +kernel
theorem dL_law_427 : decode cL_law 427 = .ok (.iconst 2, 1) := by decide +kernel
theorem dL_law_428 : decode cL_law 428 = .ok (.iadd, 1) := by decide +kernel
theorem dL_law_429 : decode cL_law 429 = .ok (.iaload, 1) := by decide +kernel
theorem dL_law_430 : decode cL_law 430 = .ok (.invokevirtual 45, 3) := by decide +kernel
theorem dL_law_433 : decode cL_law 433 = .ok (.if_icmp .eq 1683, 3) := by decide +kernel
theorem dL_law_436 : decode cL_law 436 = .ok (.iconst 0, 1) := by decide +kernel
theorem dL_law_437 : decode cL_law 437 = .ok (.ireturn, 1) := by decide +kernel
theorem dL_law_438 : decode cL_law 438 = .ok (.aload_n 1, 1) := by decide +kernel
theorem dL_law_439 : decode cL_law 439 = .ok (.aload_n 0, 1) := by decide +kernel
theorem dL_law_440 : decode cL_law 440 = .ok (.iload 4, 2) := by decide +kernel
theorem dL_law_442 : decode cL_law 442 = .ok (.iconst 1, 1) := by decide +kernel
theorem dL_law_443 : decode cL_law 443 = .ok (.iadd, 1) := by decide +kernel
theorem dL_law_444 : decode cL_law 444 = .ok (.iaload, 1) := by decide +kernel
theorem dL_law_445 : decode cL_law 445 = .ok (.aload_n 0, 1) := by decide +kernel
theorem dL_law_446 : decode cL_law 446 = .ok (.iload 4, 2) := by decide +kernel
theorem dL_law_448 : decode cL_law 448 = .ok (.iconst 2, 1) := by decide +kernel
theorem dL_law_449 : decode cL_law 449 = .ok (.iadd, 1) := by decide +kernel
theorem dL_law_450 : decode cL_law 450 = .ok (.iaload, 1) := by decide +kernel
theorem dL_law_451 : decode cL_law 451 = .ok (.aload_n 0, 1) := by decide +kernel
theorem dL_law_452 : decode cL_law 452 = .ok (.iload 4, 2) := by decide +kernel
theorem dL_law_454 : decode cL_law 454 = .ok (.iconst 3, 1) := by decide +kernel
theorem dL_law_455 : decode cL_law 455 = .ok (.iadd, 1) := by decide +kernel
theorem dL_law_456 : decode cL_law 456 = .ok (.iaload, 1) := by decide +kernel
theorem dL_law_457 : decode cL_law 457 = .ok (.invokevirtual 46, 3) := by decide +kernel
theorem dL_law_460 : decode cL_law 460 = .ok (.aload_n 2, 1) := by decide +kernel
theorem dL_law_461 : decode cL_law 461 = .ok (.aload_n 0, 1) := by decide +kernel
theorem dL_law_462 : decode cL_law 462 = .ok (.iload 4, 2) := by decide +kernel
theorem dL_law_464 : decode cL_law 464 = .ok (.iconst 1, 1) := by decide +kernel
theorem dL_law_465 : decode cL_law 465 = .ok (.iadd, 1) := by decide +kernel
theorem dL_law_466 : decode cL_law 466 = .ok (.iaload, 1) := by decide +kernel
theorem dL_law_467 : decode cL_law 467 = .ok (.aload_n 0, 1) := by decide +kernel
theorem dL_law_468 : decode cL_law 468 = .ok (.iload 4, 2) := by decide +kernel
theorem dL_law_470 : decode cL_law 470 = .ok (.iconst 2, 1) := by decide +kernel
theorem dL_law_471 : decode cL_law 471 = .ok (.iadd, 1) := by decide +kernel
theorem dL_law_472 : decode cL_law 472 = .ok (.iaload, 1) := by decide +kernel
theorem dL_law_473 : decode cL_law 473 = .ok (.aload_n 0, 1) := by decide +kernel
theorem dL_law_474 : decode cL_law 474 = .ok (.iload 4, 2) := by decide +kernel
theorem dL_law_476 : decode cL_law 476 = .ok (.iconst 3, 1) := by decide +kernel
theorem dL_law_477 : decode cL_law 477 = .ok (.iadd, 1) := by decide +kernel
theorem dL_law_478 : decode cL_law 478 = .ok (.iaload, 1) := by decide +kernel
theorem dL_law_479 : decode cL_law 479 = .ok (.invokevirtual 50, 3) := by decide +kernel
theorem dL_law_482 : decode cL_law 482 = .ok (.if_icmp .eq 1634, 3) := by decide +kernel
theorem dL_law_485 : decode cL_law 485 = .ok (.iconst 0, 1) := by decide +kernel
theorem dL_law_486 : decode cL_law 486 = .ok (.ireturn, 1) := by decide +kernel
theorem dL_law_487 : decode cL_law 487 = .ok (.aload_n 1, 1) := by decide +kernel
theorem dL_law_488 : decode cL_law 488 = .ok (.aload_n 0, 1) := by decide +kernel
theorem dL_law_489 : decode cL_law 489 = .ok (.iload 4, 2) := by decide +kernel
theorem dL_law_491 : decode cL_law 491 = .ok (.iconst 1, 1) := by decide +kernel
theorem dL_law_492 : decode cL_law 492 = .ok (.iadd, 1) := by decide +kernel
theorem dL_law_493 : decode cL_law 493 = .ok (.iaload, 1) := by decide +kernel
theorem dL_law_494 : decode cL_law 494 = .ok (.aload_n 0, 1) := by decide +kernel
theorem dL_law_495 : decode cL_law 495 = .ok (.iload 4, 2) := by decide +kernel
theorem dL_law_497 : decode cL_law 497 = .ok (.iconst 2, 1) := by decide +kernel
theorem dL_law_498 : decode cL_law 498 = .ok (.iadd, 1) := by decide +kernel
theorem dL_law_499 : decode cL_law 499 = .ok (.iaload, 1) := by decide +kernel
theorem dL_law_500 : decode cL_law 500 = .ok (.invokevirtual 51, 3) := by decide +kernel
theorem dL_law_503 : decode cL_law 503 = .ok (.aload_n 2, 1) := by decide +kernel
theorem dL_law_504 : decode cL_law 504 = .ok (.aload_n 0, 1) := by decide +kernel
theorem dL_law_505 : decode cL_law 505 = .ok (.iload 4, 2) := by decide +kernel
theorem dL_law_507 : decode cL_law 507 = .ok (.iconst 1, 1) := by decide +kernel
theorem dL_law_508 : decode cL_law 508 = .ok (.iadd, 1) := by decide +kernel
theorem dL_law_509 : decode cL_law 509 = .ok (.iaload, 1) := by decide +kernel
theorem dL_law_510 : decode cL_law 510 = .ok (.aload_n 0, 1) := by decide +kernel
theorem dL_law_511 : decode cL_law 511 = .ok (.iload 4, 2) := by decide +kernel
theorem dL_law_513 : decode cL_law 513 = .ok (.iconst 2, 1) := by decide +kernel
theorem dL_law_514 : decode cL_law 514 = .ok (.iadd, 1) := by decide +kernel
theorem dL_law_515 : decode cL_law 515 = .ok (.iaload, 1) := by decide +kernel
theorem dL_law_516 : decode cL_law 516 = .ok (.invokevirtual 54, 3) := by decide +kernel
theorem dL_law_519 : decode cL_law 519 = .ok (.if_icmp .eq 1597, 3) := by decide +kernel
theorem dL_law_522 : decode cL_law 522 = .ok (.iconst 0, 1) := by decide +kernel
theorem dL_law_523 : decode cL_law 523 = .ok (.ireturn, 1) := by decide +kernel
theorem dL_law_524 : decode cL_law 524 = .ok (.aload_n 1, 1) := by decide +kernel
theorem dL_law_525 : decode cL_law 525 = .ok (.aload_n 0, 1) := by decide +kernel
theorem dL_law_526 : decode cL_law 526 = .ok (.iload 4, 2) := by decide +kernel
theorem dL_law_528 : decode cL_law 528 = .ok (.iconst 1, 1) := by decide +kernel
theorem dL_law_529 : decode cL_law 529 = .ok (.iadd, 1) := by decide +kernel
theorem dL_law_530 : decode cL_law 530 = .ok (.iaload, 1) := by decide +kernel
theorem dL_law_531 : decode cL_law 531 = .ok (.aload_n 0, 1) := by decide +kernel
theorem dL_law_532 : decode cL_law 532 = .ok (.iload 4, 2) := by decide +kernel
theorem dL_law_534 : decode cL_law 534 = .ok (.iconst 2, 1) := by decide +kernel
theorem dL_law_535 : decode cL_law 535 = .ok (.iadd, 1) := by decide +kernel
theorem dL_law_536 : decode cL_law 536 = .ok (.iaload, 1) := by decide +kernel
theorem dL_law_537 : decode cL_law 537 = .ok (.invokevirtual 55, 3) := by decide +kernel
theorem dL_law_540 : decode cL_law 540 = .ok (.aload_n 2, 1) := by decide +kernel
theorem dL_law_541 : decode cL_law 541 = .ok (.aload_n 0, 1) := by decide +kernel
theorem dL_law_542 : decode cL_law 542 = .ok (.iload 4, 2) := by decide +kernel
theorem dL_law_544 : decode cL_law 544 = .ok (.iconst 1, 1) := by decide +kernel
theorem dL_law_545 : decode cL_law 545 = .ok (.iadd, 1) := by decide +kernel
theorem dL_law_546 : decode cL_law 546 = .ok (.iaload, 1) := by decide +kernel
theorem dL_law_547 : decode cL_law 547 = .ok (.aload_n 0, 1) := by decide +kernel
theorem dL_law_548 : decode cL_law 548 = .ok (.iload 4, 2) := by decide +kernel
theorem dL_law_550 : decode cL_law 550 = .ok (.iconst 2, 1) := by decide +kernel
theorem dL_law_551 : decode cL_law 551 = .ok (.iadd, 1) := by decide +kernel
theorem dL_law_552 : decode cL_law 552 = .ok (.iaload, 1) := by decide +kernel
theorem dL_law_553 : decode cL_law 553 = .ok (.invokevirtual 58, 3) := by decide +kernel
theorem dL_law_556 : decode cL_law 556 = .ok (.if_icmp .eq 1560, 3) := by decide +kernel
theorem dL_law_559 : decode cL_law 559 = .ok (.iconst 0, 1) := by decide +kernel
theorem dL_law_560 : decode cL_law 560 = .ok (.ireturn, 1) := by decide +kernel
theorem dL_law_561 : decode cL_law 561 = .ok (.aload_n 1, 1) := by decide +kernel
theorem dL_law_562 : decode cL_law 562 = .ok (.aload_n 0, 1) := by decide +kernel
theorem dL_law_563 : decode cL_law 563 = .ok (.iload 4, 2) := by decide +kernel
theorem dL_law_565 : decode cL_law 565 = .ok (.iconst 1, 1) := by decide +kernel
theorem dL_law_566 : decode cL_law 566 = .ok (.iadd, 1) := by decide +kernel
theorem dL_law_567 : decode cL_law 567 = .ok (.iaload, 1) := by decide +kernel
theorem dL_law_568 : decode cL_law 568 = .ok (.invokevirtual 59, 3) := by decide +kernel
theorem dL_law_571 : decode cL_law 571 = .ok (.aload_n 2, 1) := by decide +kernel
theorem dL_law_572 : decode cL_law 572 = .ok (.aload_n 0, 1) := by decide +kernel
theorem dL_law_573 : decode cL_law 573 = .ok (.iload 4, 2) := by decide +kernel
theorem dL_law_575 : decode cL_law 575 = .ok (.iconst 1, 1) := by decide +kernel
theorem dL_law_576 : decode cL_law 576 = .ok (.iadd, 1) := by decide +kernel
theorem dL_law_577 : decode cL_law 577 = .ok (.iaload, 1) := by decide +kernel
theorem dL_law_578 : decode cL_law 578 = .ok (.invokevirtual 62, 3) := by decide +kernel
theorem dL_law_581 : decode cL_law 581 = .ok (.if_icmp .eq 1535, 3) := by decide +kernel
theorem dL_law_584 : decode cL_law 584 = .ok (.iconst 0, 1) := by decide +kernel
theorem dL_law_585 : decode cL_law 585 = .ok (.ireturn, 1) := by decide +kernel
theorem dL_law_586 : decode cL_law 586 = .ok (.aload_n 1, 1) := by decide +kernel
theorem dL_law_587 : decode cL_law 587 = .ok (.aload_n 0, 1) := by decide +kernel
theorem dL_law_588 : decode cL_law 588 = .ok (.iload 4, 2) := by decide +kernel
theorem dL_law_590 : decode cL_law 590 = .ok (.iconst 1, 1) := by decide +kernel
theorem dL_law_591 : decode cL_law 591 = .ok (.iadd, 1) := by decide +kernel
theorem dL_law_592 : decode cL_law 592 = .ok (.iaload, 1) := by decide +kernel
theorem dL_law_593 : decode cL_law 593 = .ok (.aload_n 0, 1) := by decide +kernel
theorem dL_law_594 : decode cL_law 594 = .ok (.iload 4, 2) := by decide +kernel
theorem dL_law_596 : decode cL_law 596 = .ok (.iconst 2, 1) := by decide +kernel
theorem dL_law_597 : decode cL_law 597 = .ok (.iadd, 1) := by decide +kernel
theorem dL_law_598 : decode cL_law 598 = .ok (.iaload, 1) := by decide +kernel
theorem dL_law_599 : decode cL_law 599 = .ok (.aload_n 0, 1) := by decide +kernel
theorem dL_law_600 : decode cL_law 600 = .ok (.iload 4, 2) := by decide +kernel
theorem dL_law_602 : decode cL_law 602 = .ok (.iconst 3, 1) := by decide +kernel
theorem dL_law_603 : decode cL_law 603 = .ok (.iadd, 1) := by decide +kernel
theorem dL_law_604 : decode cL_law 604 = .ok (.iaload, 1) := by decide +kernel
theorem dL_law_605 : decode cL_law 605 = .ok (.invokevirtual 63, 3) := by decide +kernel
theorem dL_law_608 : decode cL_law 608 = .ok (.aload_n 2, 1) := by decide +kernel
theorem dL_law_609 : decode cL_law 609 = .ok (.aload_n 0, 1) := by decide +kernel
theorem dL_law_610 : decode cL_law 610 = .ok (.iload 4, 2) := by decide +kernel
theorem dL_law_612 : decode cL_law 612 = .ok (.iconst 1, 1) := by decide +kernel
theorem dL_law_613 : decode cL_law 613 = .ok (.iadd, 1) := by decide +kernel
theorem dL_law_614 : decode cL_law 614 = .ok (.iaload, 1) := by decide +kernel
theorem dL_law_615 : decode cL_law 615 = .ok (.aload_n 0, 1) := by decide +kernel
theorem dL_law_616 : decode cL_law 616 = .ok (.iload 4, 2) := by decide +kernel
theorem dL_law_618 : decode cL_law 618 = .ok (.iconst 2, 1) := by decide +kernel
theorem dL_law_619 : decode cL_law 619 = .ok (.iadd, 1) := by decide +kernel
theorem dL_law_620 : decode cL_law 620 = .ok (.iaload, 1) := by decide +kernel
theorem dL_law_621 : decode cL_law 621 = .ok (.aload_n 0, 1) := by decide +kernel
theorem dL_law_622 : decode cL_law 622 = .ok (.iload 4, 2) := by decide +kernel
theorem dL_law_624 : decode cL_law 624 = .ok (.iconst 3, 1) := by decide +kernel
theorem dL_law_625 : decode cL_law 625 = .ok (.iadd, 1) := by decide +kernel
theorem dL_law_626 : decode cL_law 626 = .ok (.iaload, 1) := by decide +kernel
theorem dL_law_627 : decode cL_law 627 = .ok (.invokevirtual 66, 3) := by decide +kernel
theorem dL_law_630 : decode cL_law 630 = .ok (.if_icmp .eq 1486, 3) := by decide +kernel
theorem dL_law_633 : decode cL_law 633 = .ok (.iconst 0, 1) := by decide +kernel
theorem dL_law_634 : decode cL_law 634 = .ok (.ireturn, 1) := by decide +kernel
theorem dL_law_635 : decode cL_law 635 = .ok (.aload_n 1, 1) := by decide +kernel
theorem dL_law_636 : decode cL_law 636 = .ok (.aload_n 0, 1) := by decide +kernel
theorem dL_law_637 : decode cL_law 637 = .ok (.iload 4, 2) := by decide +kernel
theorem dL_law_639 : decode cL_law 639 = .ok (.iconst 1, 1) := by decide +kernel
theorem dL_law_640 : decode cL_law 640 = .ok (.iadd, 1) := by decide +kernel
theorem dL_law_641 : decode cL_law 641 = .ok (.iaload, 1) := by decide +kernel
theorem dL_law_642 : decode cL_law 642 = .ok (.aload_n 0, 1) := by decide +kernel
theorem dL_law_643 : decode cL_law 643 = .ok (.iload 4, 2) := by decide +kernel
theorem dL_law_645 : decode cL_law 645 = .ok (.iconst 2, 1) := by decide +kernel
theorem dL_law_646 : decode cL_law 646 = .ok (.iadd, 1) := by decide +kernel
theorem dL_law_647 : decode cL_law 647 = .ok (.iaload, 1) := by decide +kernel
theorem dL_law_648 : decode cL_law 648 = .ok (.aload_n 0, 1) := by decide +kernel
theorem dL_law_649 : decode cL_law 649 = .ok (.iload 4, 2) := by decide +kernel
theorem dL_law_651 : decode cL_law 651 = .ok (.iconst 3, 1) := by decide +kernel
theorem dL_law_652 : decode cL_law 652 = .ok (.iadd, 1) := by decide +kernel
theorem dL_law_653 : decode cL_law 653 = .ok (.iaload, 1) := by decide +kernel
theorem dL_law_654 : decode cL_law 654 = .ok (.aload_n 0, 1) := by decide +kernel
theorem dL_law_655 : decode cL_law 655 = .ok (.iload 4, 2) := by decide +kernel
theorem dL_law_657 : decode cL_law 657 = .ok (.iconst 4, 1) := by decide +kernel
theorem dL_law_658 : decode cL_law 658 = .ok (.iadd, 1) := by decide +kernel
theorem dL_law_659 : decode cL_law 659 = .ok (.iaload, 1) := by decide +kernel
theorem dL_law_660 : decode cL_law 660 = .ok (.invokevirtual 67, 3) := by decide +kernel
theorem dL_law_663 : decode cL_law 663 = .ok (.aload_n 2, 1) := by decide +kernel
theorem dL_law_664 : decode cL_law 664 = .ok (.aload_n 0, 1) := by decide +kernel
theorem dL_law_665 : decode cL_law 665 = .ok (.iload 4, 2) := by decide +kernel
theorem dL_law_667 : decode cL_law 667 = .ok (.iconst 1, 1) := by decide +kernel
theorem dL_law_668 : decode cL_law 668 = .ok (.iadd, 1) := by decide +kernel
theorem dL_law_669 : decode cL_law 669 = .ok (.iaload, 1) := by decide +kernel
theorem dL_law_670 : decode cL_law 670 = .ok (.aload_n 0, 1) := by decide +kernel
theorem dL_law_671 : decode cL_law 671 = .ok (.iload 4, 2) := by decide +kernel
theorem dL_law_673 : decode cL_law 673 = .ok (.iconst 2, 1) := by decide +kernel
theorem dL_law_674 : decode cL_law 674 = .ok (.iadd, 1) := by decide +kernel
theorem dL_law_675 : decode cL_law 675 = .ok (.iaload, 1) := by decide +kernel
theorem dL_law_676 : decode cL_law 676 = .ok (.aload_n 0, 1) := by decide +kernel
theorem dL_law_677 : decode cL_law 677 = .ok (.iload 4, 2) := by decide +kernel
theorem dL_law_679 : decode cL_law 679 = .ok (.iconst 3, 1) := by decide +kernel
theorem dL_law_680 : decode cL_law 680 = .ok (.iadd, 1) := by decide +kernel
theorem dL_law_681 : decode cL_law 681 = .ok (.iaload, 1) := by decide +kernel
theorem dL_law_682 : decode cL_law 682 = .ok (.aload_n 0, 1) := by decide +kernel
theorem dL_law_683 : decode cL_law 683 = .ok (.iload 4, 2) := by decide +kernel
theorem dL_law_685 : decode cL_law 685 = .ok (.iconst 4, 1) := by decide +kernel
theorem dL_law_686 : decode cL_law 686 = .ok (.iadd, 1) := by decide +kernel
theorem dL_law_687 : decode cL_law 687 = .ok (.iaload, 1) := by decide +kernel
theorem dL_law_688 : decode cL_law 688 = .ok (.invokevirtual 71, 3) := by decide +kernel
theorem dL_law_691 : decode cL_law 691 = .ok (.if_icmp .eq 1425, 3) := by decide +kernel
theorem dL_law_694 : decode cL_law 694 = .ok (.iconst 0, 1) := by decide +kernel
theorem dL_law_695 : decode cL_law 695 = .ok (.ireturn, 1) := by decide +kernel
theorem dL_law_696 : decode cL_law 696 = .ok (.aload_n 1, 1) := by decide +kernel
theorem dL_law_697 : decode cL_law 697 = .ok (.aload_n 0, 1) := by decide +kernel
theorem dL_law_698 : decode cL_law 698 = .ok (.iload 4, 2) := by decide +kernel
theorem dL_law_700 : decode cL_law 700 = .ok (.iconst 1, 1) := by decide +kernel
theorem dL_law_701 : decode cL_law 701 = .ok (.iadd, 1) := by decide +kernel
theorem dL_law_702 : decode cL_law 702 = .ok (.iaload, 1) := by decide +kernel
theorem dL_law_703 : decode cL_law 703 = .ok (.aload_n 0, 1) := by decide +kernel
theorem dL_law_704 : decode cL_law 704 = .ok (.iload 4, 2) := by decide +kernel
theorem dL_law_706 : decode cL_law 706 = .ok (.iconst 2, 1) := by decide +kernel
theorem dL_law_707 : decode cL_law 707 = .ok (.iadd, 1) := by decide +kernel
theorem dL_law_708 : decode cL_law 708 = .ok (.iaload, 1) := by decide +kernel
theorem dL_law_709 : decode cL_law 709 = .ok (.aload_n 0, 1) := by decide +kernel
theorem dL_law_710 : decode cL_law 710 = .ok (.iload 4, 2) := by decide +kernel
theorem dL_law_712 : decode cL_law 712 = .ok (.iconst 3, 1) := by decide +kernel
theorem dL_law_713 : decode cL_law 713 = .ok (.iadd, 1) := by decide +kernel
theorem dL_law_714 : decode cL_law 714 = .ok (.iaload, 1) := by decide +kernel
theorem dL_law_715 : decode cL_law 715 = .ok (.ifCond .eq 7, 3) := by decide +kernel
theorem dL_law_718 : decode cL_law 718 = .ok (.iconst 1, 1) := by decide +kernel
theorem dL_law_719 : decode cL_law 719 = .ok (.goto 4, 3) := by decide +kernel
theorem dL_law_722 : decode cL_law 722 = .ok (.iconst 0, 1) := by decide +kernel
theorem dL_law_723 : decode cL_law 723 = .ok (.invokevirtual 72, 3) := by decide +kernel
theorem dL_law_726 : decode cL_law 726 = .ok (.aload_n 2, 1) := by decide +kernel
theorem dL_law_727 : decode cL_law 727 = .ok (.aload_n 0, 1) := by decide +kernel
theorem dL_law_728 : decode cL_law 728 = .ok (.iload 4, 2) := by decide +kernel
theorem dL_law_730 : decode cL_law 730 = .ok (.iconst 1, 1) := by decide +kernel
theorem dL_law_731 : decode cL_law 731 = .ok (.iadd, 1) := by decide +kernel
theorem dL_law_732 : decode cL_law 732 = .ok (.iaload, 1) := by decide +kernel
theorem dL_law_733 : decode cL_law 733 = .ok (.aload_n 0, 1) := by decide +kernel
theorem dL_law_734 : decode cL_law 734 = .ok (.iload 4, 2) := by decide +kernel
theorem dL_law_736 : decode cL_law 736 = .ok (.iconst 2, 1) := by decide +kernel
theorem dL_law_737 : decode cL_law 737 = .ok (.iadd, 1) := by decide +kernel
theorem dL_law_738 : decode cL_law 738 = .ok (.iaload, 1) := by decide +kernel
theorem dL_law_739 : decode cL_law 739 = .ok (.aload_n 0, 1) := by decide +kernel
theorem dL_law_740 : decode cL_law 740 = .ok (.iload 4, 2) := by decide +kernel
theorem dL_law_742 : decode cL_law 742 = .ok (.iconst 3, 1) := by decide +kernel
theorem dL_law_743 : decode cL_law 743 = .ok (.iadd, 1) := by decide +kernel
theorem dL_law_744 : decode cL_law 744 = .ok (.iaload, 1) := by decide +kernel
theorem dL_law_745 : decode cL_law 745 = .ok (.ifCond .eq 7, 3) := by decide +kernel
theorem dL_law_748 : decode cL_law 748 = .ok (.iconst 1, 1) := by decide +kernel
theorem dL_law_749 : decode cL_law 749 = .ok (.goto 4, 3) := by decide +kernel
theorem dL_law_752 : decode cL_law 752 = .ok (.iconst 0, 1) := by decide +kernel
theorem dL_law_753 : decode cL_law 753 = .ok (.invokevirtual 76, 3) := by decide +kernel
theorem dL_law_756 : decode cL_law 756 = .ok (.if_icmp .eq 1360, 3) := by decide +kernel
theorem dL_law_759 : decode cL_law 759 = .ok (.iconst 0, 1) := by decide +kernel
theorem dL_law_760 : decode cL_law 760 = .ok (.ireturn, 1) := by decide +kernel
theorem dL_law_761 : decode cL_law 761 = .ok (.aload_n 1, 1) := by decide +kernel
theorem dL_law_762 : decode cL_law 762 = .ok (.aload_n 0, 1) := by decide +kernel
theorem dL_law_763 : decode cL_law 763 = .ok (.iload 4, 2) := by decide +kernel
theorem dL_law_765 : decode cL_law 765 = .ok (.iconst 1, 1) := by decide +kernel
theorem dL_law_766 : decode cL_law 766 = .ok (.iadd, 1) := by decide +kernel
theorem dL_law_767 : decode cL_law 767 = .ok (.iaload, 1) := by decide +kernel
theorem dL_law_768 : decode cL_law 768 = .ok (.aload_n 0, 1) := by decide +kernel
theorem dL_law_769 : decode cL_law 769 = .ok (.iload 4, 2) := by decide +kernel
theorem dL_law_771 : decode cL_law 771 = .ok (.iconst 2, 1) := by decide +kernel
theorem dL_law_772 : decode cL_law 772 = .ok (.iadd, 1) := by decide +kernel
theorem dL_law_773 : decode cL_law 773 = .ok (.iaload, 1) := by decide +kernel
theorem dL_law_774 : decode cL_law 774 = .ok (.aload_n 0, 1) := by decide +kernel
theorem dL_law_775 : decode cL_law 775 = .ok (.iload 4, 2) := by decide +kernel
theorem dL_law_777 : decode cL_law 777 = .ok (.iconst 3, 1) := by decide +kernel
theorem dL_law_778 : decode cL_law 778 = .ok (.iadd, 1) := by decide +kernel
theorem dL_law_779 : decode cL_law 779 = .ok (.iaload, 1) := by decide +kernel
theorem dL_law_780 : decode cL_law 780 = .ok (.aload_n 0, 1) := by decide +kernel
theorem dL_law_781 : decode cL_law 781 = .ok (.iload 4, 2) := by decide +kernel
theorem dL_law_783 : decode cL_law 783 = .ok (.iconst 4, 1) := by decide +kernel
theorem dL_law_784 : decode cL_law 784 = .ok (.iadd, 1) := by decide +kernel
theorem dL_law_785 : decode cL_law 785 = .ok (.iaload, 1) := by decide +kernel
theorem dL_law_786 : decode cL_law 786 = .ok (.ifCond .eq 7, 3) := by decide +kernel
theorem dL_law_789 : decode cL_law 789 = .ok (.iconst 1, 1) := by decide +kernel
theorem dL_law_790 : decode cL_law 790 = .ok (.goto 4, 3) := by decide +kernel
theorem dL_law_793 : decode cL_law 793 = .ok (.iconst 0, 1) := by decide +kernel
theorem dL_law_794 : decode cL_law 794 = .ok (.invokevirtual 77, 3) := by decide +kernel
theorem dL_law_797 : decode cL_law 797 = .ok (.aload_n 2, 1) := by decide +kernel
theorem dL_law_798 : decode cL_law 798 = .ok (.aload_n 0, 1) := by decide +kernel
theorem dL_law_799 : decode cL_law 799 = .ok (.iload 4, 2) := by decide +kernel
theorem dL_law_801 : decode cL_law 801 = .ok (.iconst 1, 1) := by decide +kernel
theorem dL_law_802 : decode cL_law 802 = .ok (.iadd, 1) := by decide +kernel
theorem dL_law_803 : decode cL_law 803 = .ok (.iaload, 1) := by decide +kernel
theorem dL_law_804 : decode cL_law 804 = .ok (.aload_n 0, 1) := by decide +kernel
theorem dL_law_805 : decode cL_law 805 = .ok (.iload 4, 2) := by decide +kernel
theorem dL_law_807 : decode cL_law 807 = .ok (.iconst 2, 1) := by decide +kernel
theorem dL_law_808 : decode cL_law 808 = .ok (.iadd, 1) := by decide +kernel
theorem dL_law_809 : decode cL_law 809 = .ok (.iaload, 1) := by decide +kernel
theorem dL_law_810 : decode cL_law 810 = .ok (.aload_n 0, 1) := by decide +kernel
theorem dL_law_811 : decode cL_law 811 = .ok (.iload 4, 2) := by decide +kernel
theorem dL_law_813 : decode cL_law 813 = .ok (.iconst 3, 1) := by decide +kernel
theorem dL_law_814 : decode cL_law 814 = .ok (.iadd, 1) := by decide +kernel
theorem dL_law_815 : decode cL_law 815 = .ok (.iaload, 1) := by decide +kernel
theorem dL_law_816 : decode cL_law 816 = .ok (.aload_n 0, 1) := by decide +kernel
theorem dL_law_817 : decode cL_law 817 = .ok (.iload 4, 2) := by decide +kernel
theorem dL_law_819 : decode cL_law 819 = .ok (.iconst 4, 1) := by decide +kernel
theorem dL_law_820 : decode cL_law 820 = .ok (.iadd, 1) := by decide +kernel
theorem dL_law_821 : decode cL_law 821 = .ok (.iaload, 1) := by decide +kernel
theorem dL_law_822 : decode cL_law 822 = .ok (.ifCond .eq 7, 3) := by decide +kernel
theorem dL_law_825 : decode cL_law 825 = .ok (.iconst 1, 1) := by decide +kernel
theorem dL_law_826 : decode cL_law 826 = .ok (.goto 4, 3) := by decide +kernel
theorem dL_law_829 : decode cL_law 829 = .ok (.iconst 0, 1) := by decide +kernel
theorem dL_law_830 : decode cL_law 830 = .ok (.invokevirtual 81, 3) := by decide +kernel
theorem dL_law_833 : decode cL_law 833 = .ok (.if_icmp .eq 1283, 3) := by decide +kernel
theorem dL_law_836 : decode cL_law 836 = .ok (.iconst 0, 1) := by decide +kernel
theorem dL_law_837 : decode cL_law 837 = .ok (.ireturn, 1) := by decide +kernel
theorem dL_law_838 : decode cL_law 838 = .ok (.aload_n 1, 1) := by decide +kernel
theorem dL_law_839 : decode cL_law 839 = .ok (.aload_n 0, 1) := by decide +kernel
theorem dL_law_840 : decode cL_law 840 = .ok (.iload 4, 2) := by decide +kernel
theorem dL_law_842 : decode cL_law 842 = .ok (.iconst 1, 1) := by decide +kernel
theorem dL_law_843 : decode cL_law 843 = .ok (.iadd, 1) := by decide +kernel
theorem dL_law_844 : decode cL_law 844 = .ok (.iaload, 1) := by decide +kernel
theorem dL_law_845 : decode cL_law 845 = .ok (.invokevirtual 82, 3) := by decide +kernel
theorem dL_law_848 : decode cL_law 848 = .ok (.aload_n 2, 1) := by decide +kernel
theorem dL_law_849 : decode cL_law 849 = .ok (.aload_n 0, 1) := by decide +kernel
theorem dL_law_850 : decode cL_law 850 = .ok (.iload 4, 2) := by decide +kernel
theorem dL_law_852 : decode cL_law 852 = .ok (.iconst 1, 1) := by decide +kernel
theorem dL_law_853 : decode cL_law 853 = .ok (.iadd, 1) := by decide +kernel
theorem dL_law_854 : decode cL_law 854 = .ok (.iaload, 1) := by decide +kernel
theorem dL_law_855 : decode cL_law 855 = .ok (.invokevirtual 85, 3) := by decide +kernel
theorem dL_law_858 : decode cL_law 858 = .ok (.if_icmp .eq 1258, 3) := by decide +kernel
theorem dL_law_861 : decode cL_law 861 = .ok (.iconst 0, 1) := by decide +kernel
theorem dL_law_862 : decode cL_law 862 = .ok (.ireturn, 1) := by decide +kernel
theorem dL_law_863 : decode cL_law 863 = .ok (.aload_n 1, 1) := by decide +kernel
theorem dL_law_864 : decode cL_law 864 = .ok (.aload_n 0, 1) := by decide +kernel
theorem dL_law_865 : decode cL_law 865 = .ok (.iload 4, 2) := by decide +kernel
theorem dL_law_867 : decode cL_law 867 = .ok (.iconst 1, 1) := by decide +kernel
theorem dL_law_868 : decode cL_law 868 = .ok (.iadd, 1) := by decide +kernel
theorem dL_law_869 : decode cL_law 869 = .ok (.iaload, 1) := by decide +kernel
theorem dL_law_870 : decode cL_law 870 = .ok (.invokevirtual 86, 3) := by decide +kernel
theorem dL_law_873 : decode cL_law 873 = .ok (.aload_n 2, 1) := by decide +kernel
theorem dL_law_874 : decode cL_law 874 = .ok (.aload_n 0, 1) := by decide +kernel
theorem dL_law_875 : decode cL_law 875 = .ok (.iload 4, 2) := by decide +kernel
theorem dL_law_877 : decode cL_law 877 = .ok (.iconst 1, 1) := by decide +kernel
theorem dL_law_878 : decode cL_law 878 = .ok (.iadd, 1) := by decide +kernel
theorem dL_law_879 : decode cL_law 879 = .ok (.iaload, 1) := by decide +kernel
theorem dL_law_880 : decode cL_law 880 = .ok (.invokevirtual 89, 3) := by decide +kernel
theorem dL_law_883 : decode cL_law 883 = .ok (.if_icmp .eq 1233, 3) := by decide +kernel
theorem dL_law_886 : decode cL_law 886 = .ok (.iconst 0, 1) := by decide +kernel
theorem dL_law_887 : decode cL_law 887 = .ok (.ireturn, 1) := by decide +kernel
theorem dL_law_888 : decode cL_law 888 = .ok (.aload_n 1, 1) := by decide +kernel
theorem dL_law_889 : decode cL_law 889 = .ok (.aload_n 0, 1) := by decide +kernel
theorem dL_law_890 : decode cL_law 890 = .ok (.iload 4, 2) := by decide +kernel
theorem dL_law_892 : decode cL_law 892 = .ok (.iconst 1, 1) := by decide +kernel
theorem dL_law_893 : decode cL_law 893 = .ok (.iadd, 1) := by decide +kernel
theorem dL_law_894 : decode cL_law 894 = .ok (.iaload, 1) := by decide +kernel
theorem dL_law_895 : decode cL_law 895 = .ok (.aload_n 0, 1) := by decide +kernel
theorem dL_law_896 : decode cL_law 896 = .ok (.iload 4, 2) := by decide +kernel
theorem dL_law_898 : decode cL_law 898 = .ok (.iconst 2, 1) := by decide +kernel
theorem dL_law_899 : decode cL_law 899 = .ok (.iadd, 1) := by decide +kernel
theorem dL_law_900 : decode cL_law 900 = .ok (.iaload, 1) := by decide +kernel
theorem dL_law_901 : decode cL_law 901 = .ok (.aload_n 0, 1) := by decide +kernel
theorem dL_law_902 : decode cL_law 902 = .ok (.iload 4, 2) := by decide +kernel
theorem dL_law_904 : decode cL_law 904 = .ok (.iconst 3, 1) := by decide +kernel
theorem dL_law_905 : decode cL_law 905 = .ok (.iadd, 1) := by decide +kernel
theorem dL_law_906 : decode cL_law 906 = .ok (.iaload, 1) := by decide +kernel
theorem dL_law_907 : decode cL_law 907 = .ok (.invokevirtual 90, 3) := by decide +kernel
theorem dL_law_910 : decode cL_law 910 = .ok (.aload_n 2, 1) := by decide +kernel
theorem dL_law_911 : decode cL_law 911 = .ok (.aload_n 0, 1) := by decide +kernel
theorem dL_law_912 : decode cL_law 912 = .ok (.iload 4, 2) := by decide +kernel
theorem dL_law_914 : decode cL_law 914 = .ok (.iconst 1, 1) := by decide +kernel
theorem dL_law_915 : decode cL_law 915 = .ok (.iadd, 1) := by decide +kernel
theorem dL_law_916 : decode cL_law 916 = .ok (.iaload, 1) := by decide +kernel
theorem dL_law_917 : decode cL_law 917 = .ok (.aload_n 0, 1) := by decide +kernel
theorem dL_law_918 : decode cL_law 918 = .ok (.iload 4, 2) := by decide +kernel
theorem dL_law_920 : decode cL_law 920 = .ok (.iconst 2, 1) := by decide +kernel
theorem dL_law_921 : decode cL_law 921 = .ok (.iadd, 1) := by decide +kernel
theorem dL_law_922 : decode cL_law 922 = .ok (.iaload, 1) := by decide +kernel
theorem dL_law_923 : decode cL_law 923 = .ok (.aload_n 0, 1) := by decide +kernel
theorem dL_law_924 : decode cL_law 924 = .ok (.iload 4, 2) := by decide +kernel
theorem dL_law_926 : decode cL_law 926 = .ok (.iconst 3, 1) := by decide +kernel
theorem dL_law_927 : decode cL_law 927 = .ok (.iadd, 1) := by decide +kernel
theorem dL_law_928 : decode cL_law 928 = .ok (.iaload, 1) := by decide +kernel
theorem dL_law_929 : decode cL_law 929 = .ok (.invokevirtual 93, 3) := by decide +kernel
theorem dL_law_932 : decode cL_law 932 = .ok (.if_icmp .eq 1184, 3) := by decide +kernel
theorem dL_law_935 : decode cL_law 935 = .ok (.iconst 0, 1) := by decide +kernel
theorem dL_law_936 : decode cL_law 936 = .ok (.ireturn, 1) := by decide +kernel
theorem dL_law_937 : decode cL_law 937 = .ok (.aload_n 1, 1) := by decide +kernel
theorem dL_law_938 : decode cL_law 938 = .ok (.aload_n 0, 1) := by decide +kernel
theorem dL_law_939 : decode cL_law 939 = .ok (.iload 4, 2) := by decide +kernel
theorem dL_law_941 : decode cL_law 941 = .ok (.iconst 1, 1) := by decide +kernel
theorem dL_law_942 : decode cL_law 942 = .ok (.iadd, 1) := by decide +kernel
theorem dL_law_943 : decode cL_law 943 = .ok (.iaload, 1) := by decide +kernel
theorem dL_law_944 : decode cL_law 944 = .ok (.aload_n 0, 1) := by decide +kernel
theorem dL_law_945 : decode cL_law 945 = .ok (.iload 4, 2) := by decide +kernel
theorem dL_law_947 : decode cL_law 947 = .ok (.iconst 2, 1) := by decide +kernel
theorem dL_law_948 : decode cL_law 948 = .ok (.iadd, 1) := by decide +kernel
theorem dL_law_949 : decode cL_law 949 = .ok (.iaload, 1) := by decide +kernel
theorem dL_law_950 : decode cL_law 950 = .ok (.invokevirtual 94, 3) := by decide +kernel
theorem dL_law_953 : decode cL_law 953 = .ok (.aload_n 2, 1) := by decide +kernel
theorem dL_law_954 : decode cL_law 954 = .ok (.aload_n 0, 1) := by decide +kernel
theorem dL_law_955 : decode cL_law 955 = .ok (.iload 4, 2) := by decide +kernel
theorem dL_law_957 : decode cL_law 957 = .ok (.iconst 1, 1) := by decide +kernel
theorem dL_law_958 : decode cL_law 958 = .ok (.iadd, 1) := by decide +kernel
theorem dL_law_959 : decode cL_law 959 = .ok (.iaload, 1) := by decide +kernel
theorem dL_law_960 : decode cL_law 960 = .ok (.aload_n 0, 1) := by decide +kernel
theorem dL_law_961 : decode cL_law 961 = .ok (.iload 4, 2) := by decide +kernel
theorem dL_law_963 : decode cL_law 963 = .ok (.iconst 2, 1) := by decide +kernel
theorem dL_law_964 : decode cL_law 964 = .ok (.iadd, 1) := by decide +kernel
theorem dL_law_965 : decode cL_law 965 = .ok (.iaload, 1) := by decide +kernel
theorem dL_law_966 : decode cL_law 966 = .ok (.invokevirtual 97, 3) := by decide +kernel
theorem dL_law_969 : decode cL_law 969 = .ok (.if_icmp .eq 1147, 3) := by decide +kernel
theorem dL_law_972 : decode cL_law 972 = .ok (.iconst 0, 1) := by decide +kernel
theorem dL_law_973 : decode cL_law 973 = .ok (.ireturn, 1) := by decide +kernel
theorem dL_law_974 : decode cL_law 974 = .ok (.aload_n 1, 1) := by decide +kernel
theorem dL_law_975 : decode cL_law 975 = .ok (.aload_n 0, 1) := by decide +kernel
theorem dL_law_976 : decode cL_law 976 = .ok (.iload 4, 2) := by decide +kernel
theorem dL_law_978 : decode cL_law 978 = .ok (.iconst 1, 1) := by decide +kernel
theorem dL_law_979 : decode cL_law 979 = .ok (.iadd, 1) := by decide +kernel
theorem dL_law_980 : decode cL_law 980 = .ok (.iaload, 1) := by decide +kernel
theorem dL_law_981 : decode cL_law 981 = .ok (.aload_n 0, 1) := by decide +kernel
theorem dL_law_982 : decode cL_law 982 = .ok (.iload 4, 2) := by decide +kernel
theorem dL_law_984 : decode cL_law 984 = .ok (.iconst 2, 1) := by decide +kernel
theorem dL_law_985 : decode cL_law 985 = .ok (.iadd, 1) := by decide +kernel
theorem dL_law_986 : decode cL_law 986 = .ok (.iaload, 1) := by decide +kernel
theorem dL_law_987 : decode cL_law 987 = .ok (.ifCond .eq 7, 3) := by decide +kernel
theorem dL_law_990 : decode cL_law 990 = .ok (.iconst 1, 1) := by decide +kernel
theorem dL_law_991 : decode cL_law 991 = .ok (.goto 4, 3) := by decide +kernel
theorem dL_law_994 : decode cL_law 994 = .ok (.iconst 0, 1) := by decide +kernel
theorem dL_law_995 : decode cL_law 995 = .ok (.invokevirtual 98, 3) := by decide +kernel
theorem dL_law_998 : decode cL_law 998 = .ok (.aload_n 2, 1) := by decide +kernel
theorem dL_law_999 : decode cL_law 999 = .ok (.aload_n 0, 1) := by decide +kernel
theorem dL_law_1000 : decode cL_law 1000 = .ok (.iload 4, 2) := by decide +kernel
theorem dL_law_1002 : decode cL_law 1002 = .ok (.iconst 1, 1) := by decide +kernel
theorem dL_law_1003 : decode cL_law 1003 = .ok (.iadd, 1) := by decide +kernel
theorem dL_law_1004 : decode cL_law 1004 = .ok (.iaload, 1) := by decide +kernel
theorem dL_law_1005 : decode cL_law 1005 = .ok (.aload_n 0, 1) := by decide +kernel
theorem dL_law_1006 : decode cL_law 1006 = .ok (.iload 4, 2) := by decide +kernel
theorem dL_law_1008 : decode cL_law 1008 = .ok (.iconst 2, 1) := by decide +kernel
theorem dL_law_1009 : decode cL_law 1009 = .ok (.iadd, 1) := by decide +kernel
theorem dL_law_1010 : decode cL_law 1010 = .ok (.iaload, 1) := by decide +kernel
theorem dL_law_1011 : decode cL_law 1011 = .ok (.ifCond .eq 7, 3) := by decide +kernel
theorem dL_law_1014 : decode cL_law 1014 = .ok (.iconst 1, 1) := by decide +kernel
theorem dL_law_1015 : decode cL_law 1015 = .ok (.goto 4, 3) := by decide +kernel
theorem dL_law_1018 : decode cL_law 1018 = .ok (.iconst 0, 1) := by decide +kernel
theorem dL_law_1019 : decode cL_law 1019 = .ok (.invokevirtual 102, 3) := by decide +kernel
theorem dL_law_1022 : decode cL_law 1022 = .ok (.if_icmp .eq 1094, 3) := by decide +kernel
theorem dL_law_1025 : decode cL_law 1025 = .ok (.iconst 0, 1) := by decide +kernel
theorem dL_law_1026 : decode cL_law 1026 = .ok (.ireturn, 1) := by decide +kernel
theorem dL_law_1027 : decode cL_law 1027 = .ok (.aload_n 1, 1) := by decide +kernel
theorem dL_law_1028 : decode cL_law 1028 = .ok (.aload_n 0, 1) := by decide +kernel
theorem dL_law_1029 : decode cL_law 1029 = .ok (.iload 4, 2) := by decide +kernel
theorem dL_law_1031 : decode cL_law 1031 = .ok (.iconst 1, 1) := by decide +kernel
theorem dL_law_1032 : decode cL_law 1032 = .ok (.iadd, 1) := by decide +kernel
theorem dL_law_1033 : decode cL_law 1033 = .ok (.iaload, 1) := by decide +kernel
theorem dL_law_1034 : decode cL_law 1034 = .ok (.aload_n 0, 1) := by decide +kernel
theorem dL_law_1035 : decode cL_law 1035 = .ok (.iload 4, 2) := by decide +kernel
theorem dL_law_1037 : decode cL_law 1037 = .ok (.iconst 2, 1) := by decide +kernel
theorem dL_law_1038 : decode cL_law 1038 = .ok (.iadd, 1) := by decide +kernel
theorem dL_law_1039 : decode cL_law 1039 = .ok (.iaload, 1) := by decide +kernel
theorem dL_law_1040 : decode cL_law 1040 = .ok (.invokevirtual 103, 3) := by decide +kernel
theorem dL_law_1043 : decode cL_law 1043 = .ok (.aload_n 2, 1) := by decide +kernel
theorem dL_law_1044 : decode cL_law 1044 = .ok (.aload_n 0, 1) := by decide +kernel
theorem dL_law_1045 : decode cL_law 1045 = .ok (.iload 4, 2) := by decide +kernel
theorem dL_law_1047 : decode cL_law 1047 = .ok (.iconst 1, 1) := by decide +kernel
theorem dL_law_1048 : decode cL_law 1048 = .ok (.iadd, 1) := by decide +kernel
theorem dL_law_1049 : decode cL_law 1049 = .ok (.iaload, 1) := by decide +kernel
theorem dL_law_1050 : decode cL_law 1050 = .ok (.aload_n 0, 1) := by decide +kernel
theorem dL_law_1051 : decode cL_law 1051 = .ok (.iload 4, 2) := by decide +kernel
theorem dL_law_1053 : decode cL_law 1053 = .ok (.iconst 2, 1) := by decide +kernel
theorem dL_law_1054 : decode cL_law 1054 = .ok (.iadd, 1) := by decide +kernel
theorem dL_law_1055 : decode cL_law 1055 = .ok (.iaload, 1) := by decide +kernel
theorem dL_law_1056 : decode cL_law 1056 = .ok (.invokevirtual 106, 3) := by decide +kernel
theorem dL_law_1059 : decode cL_law 1059 = .ok (.if_icmp .eq 1057, 3) := by decide +kernel
theorem dL_law_1062 : decode cL_law 1062 = .ok (.iconst 0, 1) := by decide +kernel
theorem dL_law_1063 : decode cL_law 1063 = .ok (.ireturn, 1) := by decide +kernel
theorem dL_law_1064 : decode cL_law 1064 = .ok (.aload_n 1, 1) := by decide +kernel
theorem dL_law_1065 : decode cL_law 1065 = .ok (.aload_n 0, 1) := by decide +kernel
theorem dL_law_1066 : decode cL_law 1066 = .ok (.iload 4, 2) := by decide +kernel
theorem dL_law_1068 : decode cL_law 1068 = .ok (.iconst 1, 1) := by decide +kernel
theorem dL_law_1069 : decode cL_law 1069 = .ok (.iadd, 1) := by decide +kernel
theorem dL_law_1070 : decode cL_law 1070 = .ok (.iaload, 1) := by decide +kernel
theorem dL_law_1071 : decode cL_law 1071 = .ok (.aload_n 0, 1) := by decide +kernel
theorem dL_law_1072 : decode cL_law 1072 = .ok (.iload 4, 2) := by decide +kernel
theorem dL_law_1074 : decode cL_law 1074 = .ok (.iconst 2, 1) := by decide +kernel
theorem dL_law_1075 : decode cL_law 1075 = .ok (.iadd, 1) := by decide +kernel
theorem dL_law_1076 : decode cL_law 1076 = .ok (.iaload, 1) := by decide +kernel
theorem dL_law_1077 : decode cL_law 1077 = .ok (.aload_n 0, 1) := by decide +kernel
theorem dL_law_1078 : decode cL_law 1078 = .ok (.iload 4, 2) := by decide +kernel
theorem dL_law_1080 : decode cL_law 1080 = .ok (.iconst 3, 1) := by decide +kernel
theorem dL_law_1081 : decode cL_law 1081 = .ok (.iadd, 1) := by decide +kernel
theorem dL_law_1082 : decode cL_law 1082 = .ok (.iaload, 1) := by decide +kernel
theorem dL_law_1083 : decode cL_law 1083 = .ok (.aload_n 0, 1) := by decide +kernel
theorem dL_law_1084 : decode cL_law 1084 = .ok (.iload 4, 2) := by decide +kernel
theorem dL_law_1086 : decode cL_law 1086 = .ok (.iconst 4, 1) := by decide +kernel
theorem dL_law_1087 : decode cL_law 1087 = .ok (.iadd, 1) := by decide +kernel
theorem dL_law_1088 : decode cL_law 1088 = .ok (.iaload, 1) := by decide +kernel
theorem dL_law_1089 : decode cL_law 1089 = .ok (.ifCond .eq 7, 3) := by decide +kernel
theorem dL_law_1092 : decode cL_law 1092 = .ok (.iconst 1, 1) := by decide +kernel
theorem dL_law_1093 : decode cL_law 1093 = .ok (.goto 4, 3) := by decide +kernel
theorem dL_law_1096 : decode cL_law 1096 = .ok (.iconst 0, 1) := by decide +kernel
theorem dL_law_1097 : decode cL_law 1097 = .ok (.invokevirtual 107, 3) := by decide +kernel
theorem dL_law_1100 : decode cL_law 1100 = .ok (.aload_n 2, 1) := by decide +kernel
theorem dL_law_1101 : decode cL_law 1101 = .ok (.aload_n 0, 1) := by decide +kernel
theorem dL_law_1102 : decode cL_law 1102 = .ok (.iload 4, 2) := by decide +kernel
theorem dL_law_1104 : decode cL_law 1104 = .ok (.iconst 1, 1) := by decide +kernel
theorem dL_law_1105 : decode cL_law 1105 = .ok (.iadd, 1) := by decide +kernel
theorem dL_law_1106 : decode cL_law 1106 = .ok (.iaload, 1) := by decide +kernel
theorem dL_law_1107 : decode cL_law 1107 = .ok (.aload_n 0, 1) := by decide +kernel
theorem dL_law_1108 : decode cL_law 1108 = .ok (.iload 4, 2) := by decide +kernel
theorem dL_law_1110 : decode cL_law 1110 = .ok (.iconst 2, 1) := by decide +kernel
theorem dL_law_1111 : decode cL_law 1111 = .ok (.iadd, 1) := by decide +kernel
theorem dL_law_1112 : decode cL_law 1112 = .ok (.iaload, 1) := by decide +kernel
theorem dL_law_1113 : decode cL_law 1113 = .ok (.aload_n 0, 1) := by decide +kernel
theorem dL_law_1114 : decode cL_law 1114 = .ok (.iload 4, 2) := by decide +kernel
theorem dL_law_1116 : decode cL_law 1116 = .ok (.iconst 3, 1) := by decide +kernel
theorem dL_law_1117 : decode cL_law 1117 = .ok (.iadd, 1) := by decide +kernel
theorem dL_law_1118 : decode cL_law 1118 = .ok (.iaload, 1) := by decide +kernel
theorem dL_law_1119 : decode cL_law 1119 = .ok (.aload_n 0, 1) := by decide +kernel
theorem dL_law_1120 : decode cL_law 1120 = .ok (.iload 4, 2) := by decide +kernel
theorem dL_law_1122 : decode cL_law 1122 = .ok (.iconst 4, 1) := by decide +kernel
theorem dL_law_1123 : decode cL_law 1123 = .ok (.iadd, 1) := by decide +kernel
theorem dL_law_1124 : decode cL_law 1124 = .ok (.iaload, 1) := by decide +kernel
theorem dL_law_1125 : decode cL_law 1125 = .ok (.ifCond .eq 7, 3) := by decide +kernel
theorem dL_law_1128 : decode cL_law 1128 = .ok (.iconst 1, 1) := by decide +kernel
theorem dL_law_1129 : decode cL_law 1129 = .ok (.goto 4, 3) := by decide +kernel
theorem dL_law_1132 : decode cL_law 1132 = .ok (.iconst 0, 1) := by decide +kernel
theorem dL_law_1133 : decode cL_law 1133 = .ok (.invokevirtual 110, 3) := by decide +kernel
theorem dL_law_1136 : decode cL_law 1136 = .ok (.if_icmp .eq 980, 3) := by decide +kernel
theorem dL_law_1139 : decode cL_law 1139 = .ok (.iconst 0, 1) := by decide +kernel
theorem dL_law_1140 : decode cL_law 1140 = .ok (.ireturn, 1) := by decide +kernel
theorem dL_law_1141 : decode cL_law 1141 = .ok (.aload_n 1, 1) := by decide +kernel
theorem dL_law_1142 : decode cL_law 1142 = .ok (.aload_n 0, 1) := by decide +kernel
theorem dL_law_1143 : decode cL_law 1143 = .ok (.iload 4, 2) := by decide +kernel
theorem dL_law_1145 : decode cL_law 1145 = .ok (.iconst 1, 1) := by decide +kernel
theorem dL_law_1146 : decode cL_law 1146 = .ok (.iadd, 1) := by decide +kernel
theorem dL_law_1147 : decode cL_law 1147 = .ok (.iaload, 1) := by decide +kernel
theorem dL_law_1148 : decode cL_law 1148 = .ok (.aload_n 0, 1) := by decide +kernel
theorem dL_law_1149 : decode cL_law 1149 = .ok (.iload 4, 2) := by decide +kernel
theorem dL_law_1151 : decode cL_law 1151 = .ok (.iconst 2, 1) := by decide +kernel
theorem dL_law_1152 : decode cL_law 1152 = .ok (.iadd, 1) := by decide +kernel
theorem dL_law_1153 : decode cL_law 1153 = .ok (.iaload, 1) := by decide +kernel
theorem dL_law_1154 : decode cL_law 1154 = .ok (.invokevirtual 111, 3) := by decide +kernel
theorem dL_law_1157 : decode cL_law 1157 = .ok (.aload_n 2, 1) := by decide +kernel
theorem dL_law_1158 : decode cL_law 1158 = .ok (.aload_n 0, 1) := by decide +kernel
theorem dL_law_1159 : decode cL_law 1159 = .ok (.iload 4, 2) := by decide +kernel
theorem dL_law_1161 : decode cL_law 1161 = .ok (.iconst 1, 1) := by decide +kernel
theorem dL_law_1162 : decode cL_law 1162 = .ok (.iadd, 1) := by decide +kernel
theorem dL_law_1163 : decode cL_law 1163 = .ok (.iaload, 1) := by decide +kernel
theorem dL_law_1164 : decode cL_law 1164 = .ok (.aload_n 0, 1) := by decide +kernel
theorem dL_law_1165 : decode cL_law 1165 = .ok (.iload 4, 2) := by decide +kernel
theorem dL_law_1167 : decode cL_law 1167 = .ok (.iconst 2, 1) := by decide +kernel
theorem dL_law_1168 : decode cL_law 1168 = .ok (.iadd, 1) := by decide +kernel
theorem dL_law_1169 : decode cL_law 1169 = .ok (.iaload, 1) := by decide +kernel
theorem dL_law_1170 : decode cL_law 1170 = .ok (.invokevirtual 114, 3) := by decide +kernel
theorem dL_law_1173 : decode cL_law 1173 = .ok (.if_icmp .eq 943, 3) := by decide +kernel
theorem dL_law_1176 : decode cL_law 1176 = .ok (.iconst 0, 1) := by decide +kernel
theorem dL_law_1177 : decode cL_law 1177 = .ok (.ireturn, 1) := by decide +kernel
theorem dL_law_1178 : decode cL_law 1178 = .ok (.aload_n 1, 1) := by decide +kernel
theorem dL_law_1179 : decode cL_law 1179 = .ok (.aload_n 0, 1) := by decide +kernel
theorem dL_law_1180 : decode cL_law 1180 = .ok (.iload 4, 2) := by decide +kernel
theorem dL_law_1182 : decode cL_law 1182 = .ok (.iconst 1, 1) := by decide +kernel
theorem dL_law_1183 : decode cL_law 1183 = .ok (.iadd, 1) := by decide +kernel
theorem dL_law_1184 : decode cL_law 1184 = .ok (.iaload, 1) := by decide +kernel
theorem dL_law_1185 : decode cL_law 1185 = .ok (.aload_n 0, 1) := by decide +kernel
theorem dL_law_1186 : decode cL_law 1186 = .ok (.iload 4, 2) := by decide +kernel
theorem dL_law_1188 : decode cL_law 1188 = .ok (.iconst 2, 1) := by decide +kernel
theorem dL_law_1189 : decode cL_law 1189 = .ok (.iadd, 1) := by decide +kernel
theorem dL_law_1190 : decode cL_law 1190 = .ok (.iaload, 1) := by decide +kernel
theorem dL_law_1191 : decode cL_law 1191 = .ok (.aload_n 0, 1) := by decide +kernel
theorem dL_law_1192 : decode cL_law 1192 = .ok (.iload 4, 2) := by decide +kernel
theorem dL_law_1194 : decode cL_law 1194 = .ok (.iconst 3, 1) := by decide +kernel
theorem dL_law_1195 : decode cL_law 1195 = .ok (.iadd, 1) := by decide +kernel
theorem dL_law_1196 : decode cL_law 1196 = .ok (.iaload, 1) := by decide +kernel
theorem dL_law_1197 : decode cL_law 1197 = .ok (.aload_n 0, 1) := by decide +kernel
theorem dL_law_1198 : decode cL_law 1198 = .ok (.iload 4, 2) := by decide +kernel
theorem dL_law_1200 : decode cL_law 1200 = .ok (.iconst 4, 1) := by decide +kernel
theorem dL_law_1201 : decode cL_law 1201 = .ok (.iadd, 1) := by decide +kernel
theorem dL_law_1202 : decode cL_law 1202 = .ok (.iaload, 1) := by decide +kernel
theorem dL_law_1203 : decode cL_law 1203 = .ok (.invokevirtual 115, 3) := by decide +kernel
theorem dL_law_1206 : decode cL_law 1206 = .ok (.aload_n 2, 1) := by decide +kernel
theorem dL_law_1207 : decode cL_law 1207 = .ok (.aload_n 0, 1) := by decide +kernel
theorem dL_law_1208 : decode cL_law 1208 = .ok (.iload 4, 2) := by decide +kernel
theorem dL_law_1210 : decode cL_law 1210 = .ok (.iconst 1, 1) := by decide +kernel
theorem dL_law_1211 : decode cL_law 1211 = .ok (.iadd, 1) := by decide +kernel
theorem dL_law_1212 : decode cL_law 1212 = .ok (.iaload, 1) := by decide +kernel
theorem dL_law_1213 : decode cL_law 1213 = .ok (.aload_n 0, 1) := by decide +kernel
theorem dL_law_1214 : decode cL_law 1214 = .ok (.iload 4, 2) := by decide +kernel
theorem dL_law_1216 : decode cL_law 1216 = .ok (.iconst 2, 1) := by decide +kernel
theorem dL_law_1217 : decode cL_law 1217 = .ok (.iadd, 1) := by decide +kernel
theorem dL_law_1218 : decode cL_law 1218 = .ok (.iaload, 1) := by decide +kernel
theorem dL_law_1219 : decode cL_law 1219 = .ok (.aload_n 0, 1) := by decide +kernel
theorem dL_law_1220 : decode cL_law 1220 = .ok (.iload 4, 2) := by decide +kernel
theorem dL_law_1222 : decode cL_law 1222 = .ok (.iconst 3, 1) := by decide +kernel
theorem dL_law_1223 : decode cL_law 1223 = .ok (.iadd, 1) := by decide +kernel
theorem dL_law_1224 : decode cL_law 1224 = .ok (.iaload, 1) := by decide +kernel
theorem dL_law_1225 : decode cL_law 1225 = .ok (.aload_n 0, 1) := by decide +kernel
theorem dL_law_1226 : decode cL_law 1226 = .ok (.iload 4, 2) := by decide +kernel
theorem dL_law_1228 : decode cL_law 1228 = .ok (.iconst 4, 1) := by decide +kernel
theorem dL_law_1229 : decode cL_law 1229 = .ok (.iadd, 1) := by decide +kernel
theorem dL_law_1230 : decode cL_law 1230 = .ok (.iaload, 1) := by decide +kernel
theorem dL_law_1231 : decode cL_law 1231 = .ok (.invokevirtual 118, 3) := by decide +kernel
theorem dL_law_1234 : decode cL_law 1234 = .ok (.if_icmp .eq 882, 3) := by decide +kernel
theorem dL_law_1237 : decode cL_law 1237 = .ok (.iconst 0, 1) := by decide +kernel
theorem dL_law_1238 : decode cL_law 1238 = .ok (.ireturn, 1) := by decide +kernel
theorem dL_law_1239 : decode cL_law 1239 = .ok (.aload_n 1, 1) := by decide +kernel
theorem dL_law_1240 : decode cL_law 1240 = .ok (.aload_n 0, 1) := by decide +kernel
theorem dL_law_1241 : decode cL_law 1241 = .ok (.iload 4, 2) := by decide +kernel
theorem dL_law_1243 : decode cL_law 1243 = .ok (.iconst 1, 1) := by decide +kernel
theorem dL_law_1244 : decode cL_law 1244 = .ok (.iadd, 1) := by decide +kernel
theorem dL_law_1245 : decode cL_law 1245 = .ok (.iaload, 1) := by decide +kernel
theorem dL_law_1246 : decode cL_law 1246 = .ok (.invokevirtual 119, 3) := by decide +kernel
theorem dL_law_1249 : decode cL_law 1249 = .ok (.aload_n 2, 1) := by decide +kernel
theorem dL_law_1250 : decode cL_law 1250 = .ok (.aload_n 0, 1) := by decide +kernel
theorem dL_law_1251 : decode cL_law 1251 = .ok (.iload 4, 2) := by decide +kernel
theorem dL_law_1253 : decode cL_law 1253 = .ok (.iconst 1, 1) := by decide +kernel
theorem dL_law_1254 : decode cL_law 1254 = .ok (.iadd, 1) := by decide +kernel
theorem dL_law_1255 : decode cL_law 1255 = .ok (.iaload, 1) := by decide +kernel
theorem dL_law_1256 : decode cL_law 1256 = .ok (.invokevirtual 122, 3) := by decide +kernel
theorem dL_law_1259 : decode cL_law 1259 = .ok (.if_icmp .eq 857, 3) := by decide +kernel
theorem dL_law_1262 : decode cL_law 1262 = .ok (.iconst 0, 1) := by decide +kernel
theorem dL_law_1263 : decode cL_law 1263 = .ok (.ireturn, 1) := by decide +kernel
theorem dL_law_1264 : decode cL_law 1264 = .ok (.aload_n 1, 1) := by decide +kernel
theorem dL_law_1265 : decode cL_law 1265 = .ok (.aload_n 0, 1) := by decide +kernel
theorem dL_law_1266 : decode cL_law 1266 = .ok (.iload 4, 2) := by decide +kernel
theorem dL_law_1268 : decode cL_law 1268 = .ok (.iconst 1, 1) := by decide +kernel
theorem dL_law_1269 : decode cL_law 1269 = .ok (.iadd, 1) := by decide +kernel
theorem dL_law_1270 : decode cL_law 1270 = .ok (.iaload, 1) := by decide +kernel
theorem dL_law_1271 : decode cL_law 1271 = .ok (.aload_n 0, 1) := by decide +kernel
theorem dL_law_1272 : decode cL_law 1272 = .ok (.iload 4, 2) := by decide +kernel
theorem dL_law_1274 : decode cL_law 1274 = .ok (.iconst 2, 1) := by decide +kernel
theorem dL_law_1275 : decode cL_law 1275 = .ok (.iadd, 1) := by decide +kernel
theorem dL_law_1276 : decode cL_law 1276 = .ok (.iaload, 1) := by decide +kernel
theorem dL_law_1277 : decode cL_law 1277 = .ok (.invokevirtual 123, 3) := by decide +kernel
theorem dL_law_1280 : decode cL_law 1280 = .ok (.aload_n 2, 1) := by decide +kernel
theorem dL_law_1281 : decode cL_law 1281 = .ok (.aload_n 0, 1) := by decide +kernel
theorem dL_law_1282 : decode cL_law 1282 = .ok (.iload 4, 2) := by decide +kernel
theorem dL_law_1284 : decode cL_law 1284 = .ok (.iconst 1, 1) := by decide +kernel
theorem dL_law_1285 : decode cL_law 1285 = .ok (.iadd, 1) := by decide +kernel
theorem dL_law_1286 : decode cL_law 1286 = .ok (.iaload, 1) := by decide +kernel
theorem dL_law_1287 : decode cL_law 1287 = .ok (.aload_n 0, 1) := by decide +kernel
theorem dL_law_1288 : decode cL_law 1288 = .ok (.iload 4, 2) := by decide +kernel
theorem dL_law_1290 : decode cL_law 1290 = .ok (.iconst 2, 1) := by decide +kernel
theorem dL_law_1291 : decode cL_law 1291 = .ok (.iadd, 1) := by decide +kernel
theorem dL_law_1292 : decode cL_law 1292 = .ok (.iaload, 1) := by decide +kernel
theorem dL_law_1293 : decode cL_law 1293 = .ok (.invokevirtual 126, 3) := by decide +kernel
theorem dL_law_1296 : decode cL_law 1296 = .ok (.if_icmp .eq 820, 3) := by decide +kernel
theorem dL_law_1299 : decode cL_law 1299 = .ok (.iconst 0, 1) := by decide +kernel
theorem dL_law_1300 : decode cL_law 1300 = .ok (.ireturn, 1) := by decide +kernel
theorem dL_law_1301 : decode cL_law 1301 = .ok (.aload_n 1, 1) := by decide +kernel
theorem dL_law_1302 : decode cL_law 1302 = .ok (.aload_n 0, 1) := by decide +kernel
theorem dL_law_1303 : decode cL_law 1303 = .ok (.iload 4, 2) := by decide +kernel
theorem dL_law_1305 : decode cL_law 1305 = .ok (.iconst 1, 1) := by decide +kernel
theorem dL_law_1306 : decode cL_law 1306 = .ok (.iadd, 1) := by decide +kernel
theorem dL_law_1307 : decode cL_law 1307 = .ok (.iaload, 1) := by decide +kernel
theorem dL_law_1308 : decode cL_law 1308 = .ok (.aload_n 0, 1) := by decide +kernel
theorem dL_law_1309 : decode cL_law 1309 = .ok (.iload 4, 2) := by decide +kernel
theorem dL_law_1311 : decode cL_law 1311 = .ok (.iconst 2, 1) := by decide +kernel
theorem dL_law_1312 : decode cL_law 1312 = .ok (.iadd, 1) := by decide +kernel
theorem dL_law_1313 : decode cL_law 1313 = .ok (.iaload, 1) := by decide +kernel
theorem dL_law_1314 : decode cL_law 1314 = .ok (.invokevirtual 127, 3) := by decide +kernel
theorem dL_law_1317 : decode cL_law 1317 = .ok (.aload_n 2, 1) := by decide +kernel
theorem dL_law_1318 : decode cL_law 1318 = .ok (.aload_n 0, 1) := by decide +kernel
theorem dL_law_1319 : decode cL_law 1319 = .ok (.iload 4, 2) := by decide +kernel
theorem dL_law_1321 : decode cL_law 1321 = .ok (.iconst 1, 1) := by decide +kernel
theorem dL_law_1322 : decode cL_law 1322 = .ok (.iadd, 1) := by decide +kernel
theorem dL_law_1323 : decode cL_law 1323 = .ok (.iaload, 1) := by decide +kernel
theorem dL_law_1324 : decode cL_law 1324 = .ok (.aload_n 0, 1) := by decide +kernel
theorem dL_law_1325 : decode cL_law 1325 = .ok (.iload 4, 2) := by decide +kernel
theorem dL_law_1327 : decode cL_law 1327 = .ok (.iconst 2, 1) := by decide +kernel
theorem dL_law_1328 : decode cL_law 1328 = .ok (.iadd, 1) := by decide +kernel
theorem dL_law_1329 : decode cL_law 1329 = .ok (.iaload, 1) := by decide +kernel
theorem dL_law_1330 : decode cL_law 1330 = .ok (.invokevirtual 130, 3) := by decide +kernel
theorem dL_law_1333 : decode cL_law 1333 = .ok (.if_icmp .eq 783, 3) := by decide +kernel
theorem dL_law_1336 : decode cL_law 1336 = .ok (.iconst 0, 1) := by decide +kernel
theorem dL_law_1337 : decode cL_law 1337 = .ok (.ireturn, 1) := by decide +kernel
theorem dL_law_1338 : decode cL_law 1338 = .ok (.aload_n 1, 1) := by decide +kernel
theorem dL_law_1339 : decode cL_law 1339 = .ok (.aload_n 0, 1) := by decide +kernel
theorem dL_law_1340 : decode cL_law 1340 = .ok (.iload 4, 2) := by decide +kernel
theorem dL_law_1342 : decode cL_law 1342 = .ok (.iconst 1, 1) := by decide +kernel
theorem dL_law_1343 : decode cL_law 1343 = .ok (.iadd, 1) := by decide +kernel
theorem dL_law_1344 : decode cL_law 1344 = .ok (.iaload, 1) := by decide +kernel
theorem dL_law_1345 : decode cL_law 1345 = .ok (.aload_n 0, 1) := by decide +kernel
theorem dL_law_1346 : decode cL_law 1346 = .ok (.iload 4, 2) := by decide +kernel
theorem dL_law_1348 : decode cL_law 1348 = .ok (.iconst 2, 1) := by decide +kernel
theorem dL_law_1349 : decode cL_law 1349 = .ok (.iadd, 1) := by decide +kernel
theorem dL_law_1350 : decode cL_law 1350 = .ok (.iaload, 1) := by decide +kernel
theorem dL_law_1351 : decode cL_law 1351 = .ok (.invokevirtual 131, 3) := by decide +kernel
theorem dL_law_1354 : decode cL_law 1354 = .ok (.aload_n 2, 1) := by decide +kernel
theorem dL_law_1355 : decode cL_law 1355 = .ok (.aload_n 0, 1) := by decide +kernel
theorem dL_law_1356 : decode cL_law 1356 = .ok (.iload 4, 2) := by decide +kernel
theorem dL_law_1358 : decode cL_law 1358 = .ok (.iconst 1, 1) := by decide +kernel
theorem dL_law_1359 : decode cL_law 1359 = .ok (.iadd, 1) := by decide +kernel
theorem dL_law_1360 : decode cL_law 1360 = .ok (.iaload, 1) := by decide +kernel
theorem dL_law_1361 : decode cL_law 1361 = .ok (.aload_n 0, 1) := by decide +kernel
theorem dL_law_1362 : decode cL_law 1362 = .ok (.iload 4, 2) := by decide +kernel
theorem dL_law_1364 : decode cL_law 1364 = .ok (.iconst 2, 1) := by decide +kernel
theorem dL_law_1365 : decode cL_law 1365 = .ok (.iadd, 1) := by decide +kernel
theorem dL_law_1366 : decode cL_law 1366 = .ok (.iaload, 1) := by decide +kernel
theorem dL_law_1367 : decode cL_law 1367 = .ok (.invokevirtual 134, 3) := by decide +kernel
theorem dL_law_1370 : decode cL_law 1370 = .ok (.if_icmp .eq 746, 3) := by decide +kernel
theorem dL_law_1373 : decode cL_law 1373 = .ok (.iconst 0, 1) := by decide +kernel
theorem dL_law_1374 : decode cL_law 1374 = .ok (.ireturn, 1) := by decide +kernel
theorem dL_law_1375 : decode cL_law 1375 = .ok (.aload_n 1, 1) := by decide +kernel
theorem dL_law_1376 : decode cL_law 1376 = .ok (.aload_n 0, 1) := by decide +kernel
theorem dL_law_1377 : decode cL_law 1377 = .ok (.iload 4, 2) := by decide +kernel
theorem dL_law_1379 : decode cL_law 1379 = .ok (.iconst 1, 1) := by decide +kernel
theorem dL_law_1380 : decode cL_law 1380 = .ok (.iadd, 1) := by decide +kernel
theorem dL_law_1381 : decode cL_law 1381 = .ok (.iaload, 1) := by decide +kernel
theorem dL_law_1382 : decode cL_law 1382 = .ok (.invokevirtual 135, 3) := by decide +kernel
theorem dL_law_1385 : decode cL_law 1385 = .ok (.aload_n 2, 1) := by decide +kernel
theorem dL_law_1386 : decode cL_law 1386 = .ok (.aload_n 0, 1) := by decide +kernel
theorem dL_law_1387 : decode cL_law 1387 = .ok (.iload 4, 2) := by decide +kernel
theorem dL_law_1389 : decode cL_law 1389 = .ok (.iconst 1, 1) := by decide +kernel
theorem dL_law_1390 : decode cL_law 1390 = .ok (.iadd, 1) := by decide +kernel
theorem dL_law_1391 : decode cL_law 1391 = .ok (.iaload, 1) := by decide +kernel
theorem dL_law_1392 : decode cL_law 1392 = .ok (.invokevirtual 138, 3) := by decide +kernel
theorem dL_law_1395 : decode cL_law 1395 = .ok (.if_icmp .eq 721, 3) := by decide +kernel
theorem dL_law_1398 : decode cL_law 1398 = .ok (.iconst 0, 1) := by decide +kernel
theorem dL_law_1399 : decode cL_law 1399 = .ok (.ireturn, 1) := by decide +kernel
theorem dL_law_1400 : decode cL_law 1400 = .ok (.aload_n 1, 1) := by decide +kernel
theorem dL_law_1401 : decode cL_law 1401 = .ok (.aload_n 0, 1) := by decide +kernel
theorem dL_law_1402 : decode cL_law 1402 = .ok (.iload 4, 2) := by decide +kernel
theorem dL_law_1404 : decode cL_law 1404 = .ok (.iconst 1, 1) := by decide +kernel
theorem dL_law_1405 : decode cL_law 1405 = .ok (.iadd, 1) := by decide +kernel
theorem dL_law_1406 : decode cL_law 1406 = .ok (.iaload, 1) := by decide +kernel
theorem dL_law_1407 : decode cL_law 1407 = .ok (.aload_n 0, 1) := by decide +kernel
theorem dL_law_1408 : decode cL_law 1408 = .ok (.iload 4, 2) := by decide +kernel
theorem dL_law_1410 : decode cL_law 1410 = .ok (.iconst 2, 1) := by decide +kernel
theorem dL_law_1411 : decode cL_law 1411 = .ok (.iadd, 1) := by decide +kernel
theorem dL_law_1412 : decode cL_law 1412 = .ok (.iaload, 1) := by decide +kernel
theorem dL_law_1413 : decode cL_law 1413 = .ok (.aload_n 0, 1) := by decide +kernel
theorem dL_law_1414 : decode cL_law 1414 = .ok (.iload 4, 2) := by decide +kernel
theorem dL_law_1416 : decode cL_law 1416 = .ok (.iconst 3, 1) := by decide +kernel
theorem dL_law_1417 : decode cL_law 1417 = .ok (.iadd, 1) := by decide +kernel
theorem dL_law_1418 : decode cL_law 1418 = .ok (.iaload, 1) := by decide +kernel
theorem dL_law_1419 : decode cL_law 1419 = .ok (.invokevirtual 139, 3) := by decide +kernel
theorem dL_law_1422 : decode cL_law 1422 = .ok (.aload_n 2, 1) := by decide +kernel
theorem dL_law_1423 : decode cL_law 1423 = .ok (.aload_n 0, 1) := by decide +kernel
theorem dL_law_1424 : decode cL_law 1424 = .ok (.iload 4, 2) := by decide +kernel
theorem dL_law_1426 : decode cL_law 1426 = .ok (.iconst 1, 1) := by decide +kernel
theorem dL_law_1427 : decode cL_law 1427 = .ok (.iadd, 1) := by decide +kernel
theorem dL_law_1428 : decode cL_law 1428 = .ok (.iaload, 1) := by decide +kernel
theorem dL_law_1429 : decode cL_law 1429 = .ok (.aload_n 0, 1) := by decide +kernel
theorem dL_law_1430 : decode cL_law 1430 = .ok (.iload 4, 2) := by decide +kernel
theorem dL_law_1432 : decode cL_law 1432 = .ok (.iconst 2, 1) := by decide +kernel
theorem dL_law_1433 : decode cL_law 1433 = .ok (.iadd, 1) := by decide +kernel
theorem dL_law_1434 : decode cL_law 1434 = .ok (.iaload, 1) := by decide +kernel
theorem dL_law_1435 : decode cL_law 1435 = .ok (.aload_n 0, 1) := by decide +kernel
theorem dL_law_1436 : decode cL_law 1436 = .ok (.iload 4, 2) := by decide +kernel
theorem dL_law_1438 : decode cL_law 1438 = .ok (.iconst 3, 1) := by decide +kernel
theorem dL_law_1439 : decode cL_law 1439 = .ok (.iadd, 1) := by decide +kernel
theorem dL_law_1440 : decode cL_law 1440 = .ok (.iaload, 1) := by decide +kernel
theorem dL_law_1441 : decode cL_law 1441 = .ok (.invokevirtual 142, 3) := by decide +kernel
theorem dL_law_1444 : decode cL_law 1444 = .ok (.if_icmp .eq 672, 3) := by decide +kernel
theorem dL_law_1447 : decode cL_law 1447 = .ok (.iconst 0, 1) := by decide +kernel
theorem dL_law_1448 : decode cL_law 1448 = .ok (.ireturn, 1) := by decide +kernel
theorem dL_law_1449 : decode cL_law 1449 = .ok (.aload_n 1, 1) := by decide +kernel
theorem dL_law_1450 : decode cL_law 1450 = .ok (.aload_n 0, 1) := by decide +kernel
theorem dL_law_1451 : decode cL_law 1451 = .ok (.iload 4, 2) := by decide +kernel
theorem dL_law_1453 : decode cL_law 1453 = .ok (.iconst 1, 1) := by decide +kernel
theorem dL_law_1454 : decode cL_law 1454 = .ok (.iadd, 1) := by decide +kernel
theorem dL_law_1455 : decode cL_law 1455 = .ok (.iaload, 1) := by decide +kernel
theorem dL_law_1456 : decode cL_law 1456 = .ok (.aload_n 0, 1) := by decide +kernel
theorem dL_law_1457 : decode cL_law 1457 = .ok (.iload 4, 2) := by decide +kernel
theorem dL_law_1459 : decode cL_law 1459 = .ok (.iconst 2, 1) := by decide +kernel
theorem dL_law_1460 : decode cL_law 1460 = .ok (.iadd, 1) := by decide +kernel
theorem dL_law_1461 : decode cL_law 1461 = .ok (.iaload, 1) := by decide +kernel
theorem dL_law_1462 : decode cL_law 1462 = .ok (.invokevirtual 143, 3) := by decide +kernel
theorem dL_law_1465 : decode cL_law 1465 = .ok (.aload_n 2, 1) := by decide +kernel
theorem dL_law_1466 : decode cL_law 1466 = .ok (.aload_n 0, 1) := by decide +kernel
theorem dL_law_1467 : decode cL_law 1467 = .ok (.iload 4, 2) := by decide +kernel
theorem dL_law_1469 : decode cL_law 1469 = .ok (.iconst 1, 1) := by decide +kernel
theorem dL_law_1470 : decode cL_law 1470 = .ok (.iadd, 1) := by decide +kernel
theorem dL_law_1471 : decode cL_law 1471 = .ok (.iaload, 1) := by decide +kernel
theorem dL_law_1472 : decode cL_law 1472 = .ok (.aload_n 0, 1) := by decide +kernel
theorem dL_law_1473 : decode cL_law 1473 = .ok (.iload 4, 2) := by decide +kernel
theorem dL_law_1475 : decode cL_law 1475 = .ok (.iconst 2, 1) := by decide +kernel
theorem dL_law_1476 : decode cL_law 1476 = .ok (.iadd, 1) := by decide +kernel
theorem dL_law_1477 : decode cL_law 1477 = .ok (.iaload, 1) := by decide +kernel
theorem dL_law_1478 : decode cL_law 1478 = .ok (.invokevirtual 146, 3) := by decide +kernel
theorem dL_law_1481 : decode cL_law 1481 = .ok (.if_icmp .eq 635, 3) := by decide +kernel
theorem dL_law_1484 : decode cL_law 1484 = .ok (.iconst 0, 1) := by decide +kernel
theorem dL_law_1485 : decode cL_law 1485 = .ok (.ireturn, 1) := by decide +kernel
theorem dL_law_1486 : decode cL_law 1486 = .ok (.aload_n 1, 1) := by decide +kernel
theorem dL_law_1487 : decode cL_law 1487 = .ok (.aload_n 0, 1) := by decide +kernel
theorem dL_law_1488 : decode cL_law 1488 = .ok (.iload 4, 2) := by decide +kernel
theorem dL_law_1490 : decode cL_law 1490 = .ok (.iconst 1, 1) := by decide +kernel
theorem dL_law_1491 : decode cL_law 1491 = .ok (.iadd, 1) := by decide +kernel
theorem dL_law_1492 : decode cL_law 1492 = .ok (.iaload, 1) := by decide +kernel
theorem dL_law_1493 : decode cL_law 1493 = .ok (.aload_n 0, 1) := by decide +kernel
theorem dL_law_1494 : decode cL_law 1494 = .ok (.iload 4, 2) := by decide +kernel
theorem dL_law_1496 : decode cL_law 1496 = .ok (.iconst 2, 1) := by decide +kernel
theorem dL_law_1497 : decode cL_law 1497 = .ok (.iadd, 1) := by decide +kernel
theorem dL_law_1498 : decode cL_law 1498 = .ok (.iaload, 1) := by decide +kernel
theorem dL_law_1499 : decode cL_law 1499 = .ok (.invokevirtual 147, 3) := by decide +kernel
theorem dL_law_1502 : decode cL_law 1502 = .ok (.aload_n 2, 1) := by decide +kernel
theorem dL_law_1503 : decode cL_law 1503 = .ok (.aload_n 0, 1) := by decide +kernel
theorem dL_law_1504 : decode cL_law 1504 = .ok (.iload 4, 2) := by decide +kernel
theorem dL_law_1506 : decode cL_law 1506 = .ok (.iconst 1, 1) := by decide +kernel
theorem dL_law_1507 : decode cL_law 1507 = .ok (.iadd, 1) := by decide +kernel
theorem dL_law_1508 : decode cL_law 1508 = .ok (.iaload, 1) := by decide +kernel
theorem dL_law_1509 : decode cL_law 1509 = .ok (.aload_n 0, 1) := by decide +kernel
theorem dL_law_1510 : decode cL_law 1510 = .ok (.iload 4, 2) := by decide +kernel
theorem dL_law_1512 : decode cL_law 1512 = .ok (.iconst 2, 1) := by decide +kernel
theorem dL_law_1513 : decode cL_law 1513 = .ok (.iadd, 1) := by decide +kernel
theorem dL_law_1514 : decode cL_law 1514 = .ok (.iaload, 1) := by decide +kernel
theorem dL_law_1515 : decode cL_law 1515 = .ok (.invokevirtual 150, 3) := by decide +kernel
theorem dL_law_1518 : decode cL_law 1518 = .ok (.if_icmp .eq 598, 3) := by decide +kernel
theorem dL_law_1521 : decode cL_law 1521 = .ok (.iconst 0, 1) := by decide +kernel
theorem dL_law_1522 : decode cL_law 1522 = .ok (.ireturn, 1) := by decide +kernel
theorem dL_law_1523 : decode cL_law 1523 = .ok (.aload_n 1, 1) := by decide +kernel
theorem dL_law_1524 : decode cL_law 1524 = .ok (.aload_n 0, 1) := by decide +kernel
theorem dL_law_1525 : decode cL_law 1525 = .ok (.iload 4, 2) := by decide +kernel
theorem dL_law_1527 : decode cL_law 1527 = .ok (.iconst 1, 1) := by decide +kernel
theorem dL_law_1528 : decode cL_law 1528 = .ok (.iadd, 1) := by decide +kernel
theorem dL_law_1529 : decode cL_law 1529 = .ok (.iaload, 1) := by decide +kernel
theorem dL_law_1530 : decode cL_law 1530 = .ok (.aload_n 0, 1) := by decide +kernel
theorem dL_law_1531 : decode cL_law 1531 = .ok (.iload 4, 2) := by decide +kernel
theorem dL_law_1533 : decode cL_law 1533 = .ok (.iconst 2, 1) := by decide +kernel
theorem dL_law_1534 : decode cL_law 1534 = .ok (.iadd, 1) := by decide +kernel
theorem dL_law_1535 : decode cL_law 1535 = .ok (.iaload, 1) := by decide +kernel
theorem dL_law_1536 : decode cL_law 1536 = .ok (.aload_n 0, 1) := by decide +kernel
theorem dL_law_1537 : decode cL_law 1537 = .ok (.iload 4, 2) := by decide +kernel
theorem dL_law_1539 : decode cL_law 1539 = .ok (.iconst 3, 1) := by decide +kernel
theorem dL_law_1540 : decode cL_law 1540 = .ok (.iadd, 1) := by decide +kernel
theorem dL_law_1541 : decode cL_law 1541 = .ok (.iaload, 1) := by decide +kernel
theorem dL_law_1542 : decode cL_law 1542 = .ok (.ifCond .eq 7, 3) := by decide +kernel
theorem dL_law_1545 : decode cL_law 1545 = .ok (.iconst 1, 1) := by decide +kernel
theorem dL_law_1546 : decode cL_law 1546 = .ok (.goto 4, 3) := by decide +kernel
theorem dL_law_1549 : decode cL_law 1549 = .ok (.iconst 0, 1) := by decide +kernel
theorem dL_law_1550 : decode cL_law 1550 = .ok (.invokevirtual 151, 3) := by decide +kernel
theorem dL_law_1553 : decode cL_law 1553 = .ok (.aload_n 2, 1) := by decide +kernel
theorem dL_law_1554 : decode cL_law 1554 = .ok (.aload_n 0, 1) := by decide +kernel
theorem dL_law_1555 : decode cL_law 1555 = .ok (.iload 4, 2) := by decide +kernel
theorem dL_law_1557 : decode cL_law 1557 = .ok (.iconst 1, 1) := by decide +kernel
theorem dL_law_1558 : decode cL_law 1558 = .ok (.iadd, 1) := by decide +kernel
theorem dL_law_1559 : decode cL_law 1559 = .ok (.iaload, 1) := by decide +kernel
theorem dL_law_1560 : decode cL_law 1560 = .ok (.aload_n 0, 1) := by decide +kernel
theorem dL_law_1561 : decode cL_law 1561 = .ok (.iload 4, 2) := by decide +kernel
theorem dL_law_1563 : decode cL_law 1563 = .ok (.iconst 2, 1) := by decide +kernel
theorem dL_law_1564 : decode cL_law 1564 = .ok (.iadd, 1) := by decide +kernel
theorem dL_law_1565 : decode cL_law 1565 = .ok (.iaload, 1) := by decide +kernel
theorem dL_law_1566 : decode cL_law 1566 = .ok (.aload_n 0, 1) := by decide +kernel
theorem dL_law_1567 : decode cL_law 1567 = .ok (.iload 4, 2) := by decide +kernel
theorem dL_law_1569 : decode cL_law 1569 = .ok (.iconst 3, 1) := by decide +kernel
theorem dL_law_1570 : decode cL_law 1570 = .ok (.iadd, 1) := by decide +kernel
theorem dL_law_1571 : decode cL_law 1571 = .ok (.iaload, 1) := by decide +kernel
theorem dL_law_1572 : decode cL_law 1572 = .ok (.ifCond .eq 7, 3) := by decide +kernel
theorem dL_law_1575 : decode cL_law 1575 = .ok (.iconst 1, 1) := by decide +kernel
theorem dL_law_1576 : decode cL_law 1576 = .ok (.goto 4, 3) := by decide +kernel
theorem dL_law_1579 : decode cL_law 1579 = .ok (.iconst 0, 1) := by decide +kernel
theorem dL_law_1580 : decode cL_law 1580 = .ok (.invokevirtual 154, 3) := by decide +kernel
theorem dL_law_1583 : decode cL_law 1583 = .ok (.if_icmp .eq 533, 3) := by decide +kernel
theorem dL_law_1586 : decode cL_law 1586 = .ok (.iconst 0, 1) := by decide +kernel
theorem dL_law_1587 : decode cL_law 1587 = .ok (.ireturn, 1) := by decide +kernel
theorem dL_law_1588 : decode cL_law 1588 = .ok (.aload_n 1, 1) := by decide +kernel
theorem dL_law_1589 : decode cL_law 1589 = .ok (.aload_n 0, 1) := by decide +kernel
theorem dL_law_1590 : decode cL_law 1590 = .ok (.iload 4, 2) := by decide +kernel
theorem dL_law_1592 : decode cL_law 1592 = .ok (.iconst 1, 1) := by decide +kernel
theorem dL_law_1593 : decode cL_law 1593 = .ok (.iadd, 1) := by decide +kernel
theorem dL_law_1594 : decode cL_law 1594 = .ok (.iaload, 1) := by decide +kernel
theorem dL_law_1595 : decode cL_law 1595 = .ok (.invokevirtual 155, 3) := by decide +kernel
theorem dL_law_1598 : decode cL_law 1598 = .ok (.aload_n 2, 1) := by decide +kernel
theorem dL_law_1599 : decode cL_law 1599 = .ok (.aload_n 0, 1) := by decide +kernel
theorem dL_law_1600 : decode cL_law 1600 = .ok (.iload 4, 2) := by decide +kernel
theorem dL_law_1602 : decode cL_law 1602 = .ok (.iconst 1, 1) := by decide +kernel
theorem dL_law_1603 : decode cL_law 1603 = .ok (.iadd, 1) := by decide +kernel
theorem dL_law_1604 : decode cL_law 1604 = .ok (.iaload, 1) := by decide +kernel
theorem dL_law_1605 : decode cL_law 1605 = .ok (.invokevirtual 158, 3) := by decide +kernel
theorem dL_law_1608 : decode cL_law 1608 = .ok (.if_icmp .eq 508, 3) := by decide +kernel
theorem dL_law_1611 : decode cL_law 1611 = .ok (.iconst 0, 1) := by decide +kernel
theorem dL_law_1612 : decode cL_law 1612 = .ok (.ireturn, 1) := by decide +kernel
theorem dL_law_1613 : decode cL_law 1613 = .ok (.aload_n 1, 1) := by decide +kernel
theorem dL_law_1614 : decode cL_law 1614 = .ok (.aload_n 0, 1) := by decide +kernel
theorem dL_law_1615 : decode cL_law 1615 = .ok (.iload 4, 2) := by decide +kernel
theorem dL_law_1617 : decode cL_law 1617 = .ok (.iconst 1, 1) := by decide +kernel
theorem dL_law_1618 : decode cL_law 1618 = .ok (.iadd, 1) := by decide +kernel
theorem dL_law_1619 : decode cL_law 1619 = .ok (.iaload, 1) := by decide +kernel
theorem dL_law_1620 : decode cL_law 1620 = .ok (.aload_n 0, 1) := by decide +kernel
theorem dL_law_1621 : decode cL_law 1621 = .ok (.iload 4, 2) := by decide +kernel
theorem dL_law_1623 : decode cL_law 1623 = .ok (.iconst 2, 1) := by decide +kernel
theorem dL_law_1624 : decode cL_law 1624 = .ok (.iadd, 1) := by decide +kernel
theorem dL_law_1625 : decode cL_law 1625 = .ok (.iaload, 1) := by decide +kernel
theorem dL_law_1626 : decode cL_law 1626 = .ok (.invokevirtual 159, 3) := by decide +kernel
theorem dL_law_1629 : decode cL_law 1629 = .ok (.aload_n 2, 1) := by decide +kernel
theorem dL_law_1630 : decode cL_law 1630 = .ok (.aload_n 0, 1) := by decide +kernel
theorem dL_law_1631 : decode cL_law 1631 = .ok (.iload 4, 2) := by decide +kernel
theorem dL_law_1633 : decode cL_law 1633 = .ok (.iconst 1, 1) := by decide +kernel
theorem dL_law_1634 : decode cL_law 1634 = .ok (.iadd, 1) := by decide +kernel
theorem dL_law_1635 : decode cL_law 1635 = .ok (.iaload, 1) := by decide +kernel
theorem dL_law_1636 : decode cL_law 1636 = .ok (.aload_n 0, 1) := by decide +kernel
theorem dL_law_1637 : decode cL_law 1637 = .ok (.iload 4, 2) := by decide +kernel
theorem dL_law_1639 : decode cL_law 1639 = .ok (.iconst 2, 1) := by decide +kernel
theorem dL_law_1640 : decode cL_law 1640 = .ok (.iadd, 1) := by decide +kernel
theorem dL_law_1641 : decode cL_law 1641 = .ok (.iaload, 1) := by decide +kernel
theorem dL_law_1642 : decode cL_law 1642 = .ok (.invokevirtual 162, 3) := by decide +kernel
theorem dL_law_1645 : decode cL_law 1645 = .ok (.if_icmp .eq 471, 3) := by decide +kernel
theorem dL_law_1648 : decode cL_law 1648 = .ok (.iconst 0, 1) := by decide +kernel
theorem dL_law_1649 : decode cL_law 1649 = .ok (.ireturn, 1) := by decide +kernel
theorem dL_law_1650 : decode cL_law 1650 = .ok (.aload_n 1, 1) := by decide +kernel
theorem dL_law_1651 : decode cL_law 1651 = .ok (.aload_n 0, 1) := by decide +kernel
theorem dL_law_1652 : decode cL_law 1652 = .ok (.iload 4, 2) := by decide +kernel
theorem dL_law_1654 : decode cL_law 1654 = .ok (.iconst 1, 1) := by decide +kernel
theorem dL_law_1655 : decode cL_law 1655 = .ok (.iadd, 1) := by decide +kernel
theorem dL_law_1656 : decode cL_law 1656 = .ok (.iaload, 1) := by decide +kernel
theorem dL_law_1657 : decode cL_law 1657 = .ok (.invokevirtual 163, 3) := by decide +kernel
theorem dL_law_1660 : decode cL_law 1660 = .ok (.aload_n 2, 1) := by decide +kernel
theorem dL_law_1661 : decode cL_law 1661 = .ok (.aload_n 0, 1) := by decide +kernel
theorem dL_law_1662 : decode cL_law 1662 = .ok (.iload 4, 2) := by decide +kernel
theorem dL_law_1664 : decode cL_law 1664 = .ok (.iconst 1, 1) := by decide +kernel
theorem dL_law_1665 : decode cL_law 1665 = .ok (.iadd, 1) := by decide +kernel
theorem dL_law_1666 : decode cL_law 1666 = .ok (.iaload, 1) := by decide +kernel
theorem dL_law_1667 : decode cL_law 1667 = .ok (.invokevirtual 166, 3) := by decide +kernel
theorem dL_law_1670 : decode cL_law 1670 = .ok (.if_icmp .eq 446, 3) := by decide +kernel
theorem dL_law_1673 : decode cL_law 1673 = .ok (.iconst 0, 1) := by decide +kernel
theorem dL_law_1674 : decode cL_law 1674 = .ok (.ireturn, 1) := by decide +kernel
theorem dL_law_1675 : decode cL_law 1675 = .ok (.aload_n 1, 1) := by decide +kernel
theorem dL_law_1676 : decode cL_law 1676 = .ok (.aload_n 0, 1) := by decide +kernel
theorem dL_law_1677 : decode cL_law 1677 = .ok (.iload 4, 2) := by decide +kernel
theorem dL_law_1679 : decode cL_law 1679 = .ok (.iconst 1, 1) := by decide +kernel
theorem dL_law_1680 : decode cL_law 1680 = .ok (.iadd, 1) := by decide +kernel
theorem dL_law_1681 : decode cL_law 1681 = .ok (.iaload, 1) := by decide +kernel
theorem dL_law_1682 : decode cL_law 1682 = .ok (.aload_n 0, 1) := by decide +kernel
theorem dL_law_1683 : decode cL_law 1683 = .ok (.iload 4, 2) := by decide +kernel
theorem dL_law_1685 : decode cL_law 1685 = .ok (.iconst 2, 1) := by decide +kernel
theorem dL_law_1686 : decode cL_law 1686 = .ok (.iadd, 1) := by decide +kernel
theorem dL_law_1687 : decode cL_law 1687 = .ok (.iaload, 1) := by decide +kernel
theorem dL_law_1688 : decode cL_law 1688 = .ok (.invokevirtual 167, 3) := by decide +kernel
theorem dL_law_1691 : decode cL_law 1691 = .ok (.aload_n 2, 1) := by decide +kernel
theorem dL_law_1692 : decode cL_law 1692 = .ok (.aload_n 0, 1) := by decide +kernel
theorem dL_law_1693 : decode cL_law 1693 = .ok (.iload 4, 2) := by decide +kernel
theorem dL_law_1695 : decode cL_law 1695 = .ok (.iconst 1, 1) := by decide +kernel
theorem dL_law_1696 : decode cL_law 1696 = .ok (.iadd, 1) := by decide +kernel
theorem dL_law_1697 : decode cL_law 1697 = .ok (.iaload, 1) := by decide +kernel
theorem dL_law_1698 : decode cL_law 1698 = .ok (.aload_n 0, 1) := by decide +kernel
theorem dL_law_1699 : decode cL_law 1699 = .ok (.iload 4, 2) := by decide +kernel
theorem dL_law_1701 : decode cL_law 1701 = .ok (.iconst 2, 1) := by decide +kernel
theorem dL_law_1702 : decode cL_law 1702 = .ok (.iadd, 1) := by decide +kernel
theorem dL_law_1703 : decode cL_law 1703 = .ok (.iaload, 1) := by decide +kernel
theorem dL_law_1704 : decode cL_law 1704 = .ok (.invokevirtual 170, 3) := by decide +kernel
theorem dL_law_1707 : decode cL_law 1707 = .ok (.if_icmp .eq 409, 3) := by decide +kernel
theorem dL_law_1710 : decode cL_law 1710 = .ok (.iconst 0, 1) := by decide +kernel
theorem dL_law_1711 : decode cL_law 1711 = .ok (.ireturn, 1) := by decide +kernel
theorem dL_law_1712 : decode cL_law 1712 = .ok (.aload_n 1, 1) := by decide +kernel
theorem dL_law_1713 : decode cL_law 1713 = .ok (.aload_n 0, 1) := by decide +kernel
theorem dL_law_1714 : decode cL_law 1714 = .ok (.iload 4, 2) := by decide +kernel
theorem dL_law_1716 : decode cL_law 1716 = .ok (.iconst 1, 1) := by decide +kernel
theorem dL_law_1717 : decode cL_law 1717 = .ok (.iadd, 1) := by decide +kernel
theorem dL_law_1718 : decode cL_law 1718 = .ok (.iaload, 1) := by decide +kernel
theorem dL_law_1719 : decode cL_law 1719 = .ok (.aload_n 0, 1) := by decide +kernel
theorem dL_law_1720 : decode cL_law 1720 = .ok (.iload 4, 2) := by decide +kernel
theorem dL_law_1722 : decode cL_law 1722 = .ok (.iconst 2, 1) := by decide +kernel
theorem dL_law_1723 : decode cL_law 1723 = .ok (.iadd, 1) := by decide +kernel
theorem dL_law_1724 : decode cL_law 1724 = .ok (.iaload, 1) := by decide +kernel
theorem dL_law_1725 : decode cL_law 1725 = .ok (.invokevirtual 171, 3) := by decide +kernel
theorem dL_law_1728 : decode cL_law 1728 = .ok (.aload_n 2, 1) := by decide +kernel
theorem dL_law_1729 : decode cL_law 1729 = .ok (.aload_n 0, 1) := by decide +kernel
theorem dL_law_1730 : decode cL_law 1730 = .ok (.iload 4, 2) := by decide +kernel
theorem dL_law_1732 : decode cL_law 1732 = .ok (.iconst 1, 1) := by decide +kernel
theorem dL_law_1733 : decode cL_law 1733 = .ok (.iadd, 1) := by decide +kernel
theorem dL_law_1734 : decode cL_law 1734 = .ok (.iaload, 1) := by decide +kernel
theorem dL_law_1735 : decode cL_law 1735 = .ok (.aload_n 0, 1) := by decide +kernel
theorem dL_law_1736 : decode cL_law 1736 = .ok (.iload 4, 2) := by decide +kernel
theorem dL_law_1738 : decode cL_law 1738 = .ok (.iconst 2, 1) := by decide +kernel
theorem dL_law_1739 : decode cL_law 1739 = .ok (.iadd, 1) := by decide +kernel
theorem dL_law_1740 : decode cL_law 1740 = .ok (.iaload, 1) := by decide +kernel
theorem dL_law_1741 : decode cL_law 1741 = .ok (.invokevirtual 174, 3) := by decide +kernel
theorem dL_law_1744 : decode cL_law 1744 = .ok (.if_icmp .eq 372, 3) := by decide +kernel
theorem dL_law_1747 : decode cL_law 1747 = .ok (.iconst 0, 1) := by decide +kernel
theorem dL_law_1748 : decode cL_law 1748 = .ok (.ireturn, 1) := by decide +kernel
theorem dL_law_1749 : decode cL_law 1749 = .ok (.aload_n 1, 1) := by decide +kernel
theorem dL_law_1750 : decode cL_law 1750 = .ok (.aload_n 0, 1) := by decide +kernel
theorem dL_law_1751 : decode cL_law 1751 = .ok (.iload 4, 2) := by decide +kernel
theorem dL_law_1753 : decode cL_law 1753 = .ok (.iconst 1, 1) := by decide +kernel
theorem dL_law_1754 : decode cL_law 1754 = .ok (.iadd, 1) := by decide +kernel
theorem dL_law_1755 : decode cL_law 1755 = .ok (.iaload, 1) := by decide +kernel
theorem dL_law_1756 : decode cL_law 1756 = .ok (.invokevirtual 175, 3) := by decide +kernel
theorem dL_law_1759 : decode cL_law 1759 = .ok (.aload_n 2, 1) := by decide +kernel
theorem dL_law_1760 : decode cL_law 1760 = .ok (.aload_n 0, 1) := by decide +kernel
theorem dL_law_1761 : decode cL_law 1761 = .ok (.iload 4, 2) := by decide +kernel
theorem dL_law_1763 : decode cL_law 1763 = .ok (.iconst 1, 1) := by decide +kernel
theorem dL_law_1764 : decode cL_law 1764 = .ok (.iadd, 1) := by decide +kernel
theorem dL_law_1765 : decode cL_law 1765 = .ok (.iaload, 1) := by decide +kernel
theorem dL_law_1766 : decode cL_law 1766 = .ok (.invokevirtual 178, 3) := by decide +kernel
theorem dL_law_1769 : decode cL_law 1769 = .ok (.if_icmp .eq 347, 3) := by decide +kernel
theorem dL_law_1772 : decode cL_law 1772 = .ok (.iconst 0, 1) := by decide +kernel
theorem dL_law_1773 : decode cL_law 1773 = .ok (.ireturn, 1) := by decide +kernel
theorem dL_law_1774 : decode cL_law 1774 = .ok (.aload_n 1, 1) := by decide +kernel
theorem dL_law_1775 : decode cL_law 1775 = .ok (.aload_n 0, 1) := by decide +kernel
theorem dL_law_1776 : decode cL_law 1776 = .ok (.iload 4, 2) := by decide +kernel
theorem dL_law_1778 : decode cL_law 1778 = .ok (.iconst 1, 1) := by decide +kernel
theorem dL_law_1779 : decode cL_law 1779 = .ok (.iadd, 1) := by decide +kernel
theorem dL_law_1780 : decode cL_law 1780 = .ok (.iaload, 1) := by decide +kernel
theorem dL_law_1781 : decode cL_law 1781 = .ok (.aload_n 0, 1) := by decide +kernel
theorem dL_law_1782 : decode cL_law 1782 = .ok (.iload 4, 2) := by decide +kernel
theorem dL_law_1784 : decode cL_law 1784 = .ok (.iconst 2, 1) := by decide +kernel
theorem dL_law_1785 : decode cL_law 1785 = .ok (.iadd, 1) := by decide +kernel
theorem dL_law_1786 : decode cL_law 1786 = .ok (.iaload, 1) := by decide +kernel
theorem dL_law_1787 : decode cL_law 1787 = .ok (.invokevirtual 179, 3) := by decide +kernel
theorem dL_law_1790 : decode cL_law 1790 = .ok (.aload_n 2, 1) := by decide +kernel
theorem dL_law_1791 : decode cL_law 1791 = .ok (.aload_n 0, 1) := by decide +kernel
theorem dL_law_1792 : decode cL_law 1792 = .ok (.iload 4, 2) := by decide +kernel
theorem dL_law_1794 : decode cL_law 1794 = .ok (.iconst 1, 1) := by decide +kernel
theorem dL_law_1795 : decode cL_law 1795 = .ok (.iadd, 1) := by decide +kernel
theorem dL_law_1796 : decode cL_law 1796 = .ok (.iaload, 1) := by decide +kernel
theorem dL_law_1797 : decode cL_law 1797 = .ok (.aload_n 0, 1) := by decide +kernel
theorem dL_law_1798 : decode cL_law 1798 = .ok (.iload 4, 2) := by decide +kernel
theorem dL_law_1800 : decode cL_law 1800 = .ok (.iconst 2, 1) := by decide +kernel
theorem dL_law_1801 : decode cL_law 1801 = .ok (.iadd, 1) := by decide +kernel
theorem dL_law_1802 : decode cL_law 1802 = .ok (.iaload, 1) := by decide +kernel
theorem dL_law_1803 : decode cL_law 1803 = .ok (.invokevirtual 182, 3) := by decide +kernel
theorem dL_law_1806 : decode cL_law 1806 = .ok (.if_icmp .eq 310, 3) := by decide +kernel
theorem dL_law_1809 : decode cL_law 1809 = .ok (.iconst 0, 1) := by decide +kernel
theorem dL_law_1810 : decode cL_law 1810 = .ok (.ireturn, 1) := by decide +kernel
theorem dL_law_1811 : decode cL_law 1811 = .ok (.aload_n 1, 1) := by decide +kernel
theorem dL_law_1812 : decode cL_law 1812 = .ok (.aload_n 0, 1) := by decide +kernel
theorem dL_law_1813 : decode cL_law 1813 = .ok (.iload 4, 2) := by decide +kernel
theorem dL_law_1815 : decode cL_law 1815 = .ok (.iconst 1, 1) := by decide +kernel
theorem dL_law_1816 : decode cL_law 1816 = .ok (.iadd, 1) := by decide +kernel
theorem dL_law_1817 : decode cL_law 1817 = .ok (.iaload, 1) := by decide +kernel
theorem dL_law_1818 : decode cL_law 1818 = .ok (.aload_n 0, 1) := by decide +kernel
theorem dL_law_1819 : decode cL_law 1819 = .ok (.iload 4, 2) := by decide +kernel
theorem dL_law_1821 : decode cL_law 1821 = .ok (.iconst 2, 1) := by decide +kernel
theorem dL_law_1822 : decode cL_law 1822 = .ok (.iadd, 1) := by decide +kernel
theorem dL_law_1823 : decode cL_law 1823 = .ok (.iaload, 1) := by decide +kernel
theorem dL_law_1824 : decode cL_law 1824 = .ok (.aload_n 0, 1) := by decide +kernel
theorem dL_law_1825 : decode cL_law 1825 = .ok (.iload 4, 2) := by decide +kernel
theorem dL_law_1827 : decode cL_law 1827 = .ok (.iconst 3, 1) := by decide +kernel
theorem dL_law_1828 : decode cL_law 1828 = .ok (.iadd, 1) := by decide +kernel
theorem dL_law_1829 : decode cL_law 1829 = .ok (.iaload, 1) := by decide +kernel
theorem dL_law_1830 : decode cL_law 1830 = .ok (.invokevirtual 183, 3) := by decide +kernel
theorem dL_law_1833 : decode cL_law 1833 = .ok (.aload_n 2, 1) := by decide +kernel
theorem dL_law_1834 : decode cL_law 1834 = .ok (.aload_n 0, 1) := by decide +kernel
theorem dL_law_1835 : decode cL_law 1835 = .ok (.iload 4, 2) := by decide +kernel
theorem dL_law_1837 : decode cL_law 1837 = .ok (.iconst 1, 1) := by decide +kernel
theorem dL_law_1838 : decode cL_law 1838 = .ok (.iadd, 1) := by decide +kernel
theorem dL_law_1839 : decode cL_law 1839 = .ok (.iaload, 1) := by decide +kernel
theorem dL_law_1840 : decode cL_law 1840 = .ok (.aload_n 0, 1) := by decide +kernel
theorem dL_law_1841 : decode cL_law 1841 = .ok (.iload 4, 2) := by decide +kernel
theorem dL_law_1843 : decode cL_law 1843 = .ok (.iconst 2, 1) := by decide +kernel
theorem dL_law_1844 : decode cL_law 1844 = .ok (.iadd, 1) := by decide +kernel
theorem dL_law_1845 : decode cL_law 1845 = .ok (.iaload, 1) := by decide +kernel
theorem dL_law_1846 : decode cL_law 1846 = .ok (.aload_n 0, 1) := by decide +kernel
theorem dL_law_1847 : decode cL_law 1847 = .ok (.iload 4, 2) := by decide +kernel
theorem dL_law_1849 : decode cL_law 1849 = .ok (.iconst 3, 1) := by decide +kernel
theorem dL_law_1850 : decode cL_law 1850 = .ok (.iadd, 1) := by decide +kernel
theorem dL_law_1851 : decode cL_law 1851 = .ok (.iaload, 1) := by decide +kernel
theorem dL_law_1852 : decode cL_law 1852 = .ok (.invokevirtual 186, 3) := by decide +kernel
theorem dL_law_1855 : decode cL_law 1855 = .ok (.if_icmp .eq 261, 3) := by decide +kernel
theorem dL_law_1858 : decode cL_law 1858 = .ok (.iconst 0, 1) := by decide +kernel
theorem dL_law_1859 : decode cL_law 1859 = .ok (.ireturn, 1) := by decide +kernel
theorem dL_law_1860 : decode cL_law 1860 = .ok (.aload_n 1, 1) := by decide +kernel
theorem dL_law_1861 : decode cL_law 1861 = .ok (.aload_n 0, 1) := by decide +kernel
theorem dL_law_1862 : decode cL_law 1862 = .ok (.iload 4, 2) := by decide +kernel
theorem dL_law_1864 : decode cL_law 1864 = .ok (.iconst 1, 1) := by decide +kernel
theorem dL_law_1865 : decode cL_law 1865 = .ok (.iadd, 1) := by decide +kernel
theorem dL_law_1866 : decode cL_law 1866 = .ok (.iaload, 1) := by decide +kernel
theorem dL_law_1867 : decode cL_law 1867 = .ok (.invokevirtual 187, 3) := by decide +kernel
theorem dL_law_1870 : decode cL_law 1870 = .ok (.aload_n 2, 1) := by decide +kernel
theorem dL_law_1871 : decode cL_law 1871 = .ok (.aload_n 0, 1) := by decide +kernel
theorem dL_law_1872 : decode cL_law 1872 = .ok (.iload 4, 2) := by decide +kernel
theorem dL_law_1874 : decode cL_law 1874 = .ok (.iconst 1, 1) := by decide +kernel
theorem dL_law_1875 : decode cL_law 1875 = .ok (.iadd, 1) := by decide +kernel
theorem dL_law_1876 : decode cL_law 1876 = .ok (.iaload, 1) := by decide +kernel
theorem dL_law_1877 : decode cL_law 1877 = .ok (.invokevirtual 191, 3) := by decide +kernel
theorem dL_law_1880 : decode cL_law 1880 = .ok (.if_icmp .eq 236, 3) := by decide +kernel
theorem dL_law_1883 : decode cL_law 1883 = .ok (.iconst 0, 1) := by decide +kernel
theorem dL_law_1884 : decode cL_law 1884 = .ok (.ireturn, 1) := by decide +kernel
theorem dL_law_1885 : decode cL_law 1885 = .ok (.aload_n 1, 1) := by decide +kernel
theorem dL_law_1886 : decode cL_law 1886 = .ok (.aload_n 0, 1) := by decide +kernel
theorem dL_law_1887 : decode cL_law 1887 = .ok (.iload 4, 2) := by decide +kernel
theorem dL_law_1889 : decode cL_law 1889 = .ok (.iconst 1, 1) := by decide +kernel
theorem dL_law_1890 : decode cL_law 1890 = .ok (.iadd, 1) := by decide +kernel
theorem dL_law_1891 : decode cL_law 1891 = .ok (.iaload, 1) := by decide +kernel
theorem dL_law_1892 : decode cL_law 1892 = .ok (.invokevirtual 192, 3) := by decide +kernel
theorem dL_law_1895 : decode cL_law 1895 = .ok (.aload_n 2, 1) := by decide +kernel
theorem dL_law_1896 : decode cL_law 1896 = .ok (.aload_n 0, 1) := by decide +kernel
theorem dL_law_1897 : decode cL_law 1897 = .ok (.iload 4, 2) := by decide +kernel
theorem dL_law_1899 : decode cL_law 1899 = .ok (.iconst 1, 1) := by decide +kernel
theorem dL_law_1900 : decode cL_law 1900 = .ok (.iadd, 1) := by decide +kernel
theorem dL_law_1901 : decode cL_law 1901 = .ok (.iaload, 1) := by decide +kernel
theorem dL_law_1902 : decode cL_law 1902 = .ok (.invokevirtual 195, 3) := by decide +kernel
theorem dL_law_1905 : decode cL_law 1905 = .ok (.if_icmp .eq 211, 3) := by decide +kernel
theorem dL_law_1908 : decode cL_law 1908 = .ok (.iconst 0, 1) := by decide +kernel
theorem dL_law_1909 : decode cL_law 1909 = .ok (.ireturn, 1) := by decide +kernel
theorem dL_law_1910 : decode cL_law 1910 = .ok (.aload_n 1, 1) := by decide +kernel
theorem dL_law_1911 : decode cL_law 1911 = .ok (.aload_n 0, 1) := by decide +kernel
theorem dL_law_1912 : decode cL_law 1912 = .ok (.iload 4, 2) := by decide +kernel
theorem dL_law_1914 : decode cL_law 1914 = .ok (.iconst 1, 1) := by decide +kernel
theorem dL_law_1915 : decode cL_law 1915 = .ok (.iadd, 1) := by decide +kernel
theorem dL_law_1916 : decode cL_law 1916 = .ok (.iaload, 1) := by decide +kernel
theorem dL_law_1917 : decode cL_law 1917 = .ok (.aload_n 0, 1) := by decide +kernel
theorem dL_law_1918 : decode cL_law 1918 = .ok (.iload 4, 2) := by decide +kernel
theorem dL_law_1920 : decode cL_law 1920 = .ok (.iconst 2, 1) := by decide +kernel
theorem dL_law_1921 : decode cL_law 1921 = .ok (.iadd, 1) := by decide +kernel
theorem dL_law_1922 : decode cL_law 1922 = .ok (.iaload, 1) := by decide +kernel
theorem dL_law_1923 : decode cL_law 1923 = .ok (.invokevirtual 196, 3) := by decide +kernel
theorem dL_law_1926 : decode cL_law 1926 = .ok (.aload_n 2, 1) := by decide +kernel
theorem dL_law_1927 : decode cL_law 1927 = .ok (.aload_n 0, 1) := by decide +kernel
theorem dL_law_1928 : decode cL_law 1928 = .ok (.iload 4, 2) := by decide +kernel
theorem dL_law_1930 : decode cL_law 1930 = .ok (.iconst 1, 1) := by decide +kernel
theorem dL_law_1931 : decode cL_law 1931 = .ok (.iadd, 1) := by decide +kernel
theorem dL_law_1932 : decode cL_law 1932 = .ok (.iaload, 1) := by decide +kernel
theorem dL_law_1933 : decode cL_law 1933 = .ok (.aload_n 0, 1) := by decide +kernel
theorem dL_law_1934 : decode cL_law 1934 = .ok (.iload 4, 2) := by decide +kernel
theorem dL_law_1936 : decode cL_law 1936 = .ok (.iconst 2, 1) := by decide +kernel
theorem dL_law_1937 : decode cL_law 1937 = .ok (.iadd, 1) := by decide +kernel
theorem dL_law_1938 : decode cL_law 1938 = .ok (.iaload, 1) := by decide +kernel
theorem dL_law_1939 : decode cL_law 1939 = .ok (.invokevirtual 199, 3) := by decide +kernel
theorem dL_law_1942 : decode cL_law 1942 = .ok (.if_icmp .eq 174, 3) := by decide +kernel
theorem dL_law_1945 : decode cL_law 1945 = .ok (.iconst 0, 1) := by decide +kernel
theorem dL_law_1946 : decode cL_law 1946 = .ok (.ireturn, 1) := by decide +kernel
theorem dL_law_1947 : decode cL_law 1947 = .ok (.aload_n 1, 1) := by decide +kernel
theorem dL_law_1948 : decode cL_law 1948 = .ok (.aload_n 0, 1) := by decide +kernel
theorem dL_law_1949 : decode cL_law 1949 = .ok (.iload 4, 2) := by decide +kernel
theorem dL_law_1951 : decode cL_law 1951 = .ok (.iconst 1, 1) := by decide +kernel
theorem dL_law_1952 : decode cL_law 1952 = .ok (.iadd, 1) := by decide +kernel
theorem dL_law_1953 : decode cL_law 1953 = .ok (.iaload, 1) := by decide +kernel
theorem dL_law_1954 : decode cL_law 1954 = .ok (.invokevirtual 200, 3) := by decide +kernel
theorem dL_law_1957 : decode cL_law 1957 = .ok (.aload_n 2, 1) := by decide +kernel
theorem dL_law_1958 : decode cL_law 1958 = .ok (.aload_n 0, 1) := by decide +kernel
theorem dL_law_1959 : decode cL_law 1959 = .ok (.iload 4, 2) := by decide +kernel
theorem dL_law_1961 : decode cL_law 1961 = .ok (.iconst 1, 1) := by decide +kernel
theorem dL_law_1962 : decode cL_law 1962 = .ok (.iadd, 1) := by decide +kernel
theorem dL_law_1963 : decode cL_law 1963 = .ok (.iaload, 1) := by decide +kernel
theorem dL_law_1964 : decode cL_law 1964 = .ok (.invokevirtual 203, 3) := by decide +kernel
theorem dL_law_1967 : decode cL_law 1967 = .ok (.if_icmp .eq 149, 3) := by decide +kernel
theorem dL_law_1970 : decode cL_law 1970 = .ok (.iconst 0, 1) := by decide +kernel
theorem dL_law_1971 : decode cL_law 1971 = .ok (.ireturn, 1) := by decide +kernel
theorem dL_law_1972 : decode cL_law 1972 = .ok (.aload_n 1, 1) := by decide +kernel
theorem dL_law_1973 : decode cL_law 1973 = .ok (.aload_n 0, 1) := by decide +kernel
theorem dL_law_1974 : decode cL_law 1974 = .ok (.iload 4, 2) := by decide +kernel
theorem dL_law_1976 : decode cL_law 1976 = .ok (.iconst 1, 1) := by decide +kernel
theorem dL_law_1977 : decode cL_law 1977 = .ok (.iadd, 1) := by decide +kernel
theorem dL_law_1978 : decode cL_law 1978 = .ok (.iaload, 1) := by decide +kernel
theorem dL_law_1979 : decode cL_law 1979 = .ok (.aload_n 0, 1) := by decide +kernel
theorem dL_law_1980 : decode cL_law 1980 = .ok (.iload 4, 2) := by decide +kernel
theorem dL_law_1982 : decode cL_law 1982 = .ok (.iconst 2, 1) := by decide +kernel
theorem dL_law_1983 : decode cL_law 1983 = .ok (.iadd, 1) := by decide +kernel
theorem dL_law_1984 : decode cL_law 1984 = .ok (.iaload, 1) := by decide +kernel
theorem dL_law_1985 : decode cL_law 1985 = .ok (.invokevirtual 204, 3) := by decide +kernel
theorem dL_law_1988 : decode cL_law 1988 = .ok (.aload_n 2, 1) := by decide +kernel
theorem dL_law_1989 : decode cL_law 1989 = .ok (.aload_n 0, 1) := by decide +kernel
theorem dL_law_1990 : decode cL_law 1990 = .ok (.iload 4, 2) := by decide +kernel
theorem dL_law_1992 : decode cL_law 1992 = .ok (.iconst 1, 1) := by decide +kernel
theorem dL_law_1993 : decode cL_law 1993 = .ok (.iadd, 1) := by decide +kernel
theorem dL_law_1994 : decode cL_law 1994 = .ok (.iaload, 1) := by decide +kernel
theorem dL_law_1995 : decode cL_law 1995 = .ok (.aload_n 0, 1) := by decide +kernel
theorem dL_law_1996 : decode cL_law 1996 = .ok (.iload 4, 2) := by decide +kernel
theorem dL_law_1998 : decode cL_law 1998 = .ok (.iconst 2, 1) := by decide +kernel
theorem dL_law_1999 : decode cL_law 1999 = .ok (.iadd, 1) := by decide +kernel
theorem dL_law_2000 : decode cL_law 2000 = .ok (.iaload, 1) := by decide +kernel
theorem dL_law_2001 : decode cL_law 2001 = .ok (.invokevirtual 207, 3) := by decide +kernel
theorem dL_law_2004 : decode cL_law 2004 = .ok (.if_icmp .eq 112, 3) := by decide +kernel
theorem dL_law_2007 : decode cL_law 2007 = .ok (.iconst 0, 1) := by decide +kernel
theorem dL_law_2008 : decode cL_law 2008 = .ok (.ireturn, 1) := by decide +kernel
theorem dL_law_2009 : decode cL_law 2009 = .ok (.aload_n 1, 1) := by decide +kernel
theorem dL_law_2010 : decode cL_law 2010 = .ok (.aload_n 0, 1) := by decide +kernel
theorem dL_law_2011 : decode cL_law 2011 = .ok (.iload 4, 2) := by decide +kernel
theorem dL_law_2013 : decode cL_law 2013 = .ok (.iconst 1, 1) := by decide +kernel
theorem dL_law_2014 : decode cL_law 2014 = .ok (.iadd, 1) := by decide +kernel
theorem dL_law_2015 : decode cL_law 2015 = .ok (.iaload, 1) := by decide +kernel
theorem dL_law_2016 : decode cL_law 2016 = .ok (.invokevirtual 208, 3) := by decide +kernel
theorem dL_law_2019 : decode cL_law 2019 = .ok (.aload_n 2, 1) := by decide +kernel
theorem dL_law_2020 : decode cL_law 2020 = .ok (.aload_n 0, 1) := by decide +kernel
theorem dL_law_2021 : decode cL_law 2021 = .ok (.iload 4, 2) := by decide +kernel
theorem dL_law_2023 : decode cL_law 2023 = .ok (.iconst 1, 1) := by decide +kernel
theorem dL_law_2024 : decode cL_law 2024 = .ok (.iadd, 1) := by decide +kernel
theorem dL_law_2025 : decode cL_law 2025 = .ok (.iaload, 1) := by decide +kernel
theorem dL_law_2026 : decode cL_law 2026 = .ok (.invokevirtual 211, 3) := by decide +kernel
theorem dL_law_2029 : decode cL_law 2029 = .ok (.if_icmp .eq 87, 3) := by decide +kernel
theorem dL_law_2032 : decode cL_law 2032 = .ok (.iconst 0, 1) := by decide +kernel
theorem dL_law_2033 : decode cL_law 2033 = .ok (.ireturn, 1) := by decide +kernel
theorem dL_law_2034 : decode cL_law 2034 = .ok (.aload_n 1, 1) := by decide +kernel
theorem dL_law_2035 : decode cL_law 2035 = .ok (.aload_n 0, 1) := by decide +kernel
theorem dL_law_2036 : decode cL_law 2036 = .ok (.iload 4, 2) := by decide +kernel
theorem dL_law_2038 : decode cL_law 2038 = .ok (.iconst 1, 1) := by decide +kernel
theorem dL_law_2039 : decode cL_law 2039 = .ok (.iadd, 1) := by decide +kernel
theorem dL_law_2040 : decode cL_law 2040 = .ok (.iaload, 1) := by decide +kernel
theorem dL_law_2041 : decode cL_law 2041 = .ok (.aload_n 3, 1) := by decide +kernel
theorem dL_law_2042 : decode cL_law 2042 = .ok (.invokestatic 212, 3) := by decide +kernel
theorem dL_law_2045 : decode cL_law 2045 = .ok (.istore 5, 2) := by decide +kernel
theorem dL_law_2047 : decode cL_law 2047 = .ok (.aload_n 2, 1) := by decide +kernel
theorem dL_law_2048 : decode cL_law 2048 = .ok (.aload_n 0, 1) := by decide +kernel
theorem dL_law_2049 : decode cL_law 2049 = .ok (.iload 4, 2) := by decide +kernel
theorem dL_law_2051 : decode cL_law 2051 = .ok (.iconst 1, 1) := by decide +kernel
theorem dL_law_2052 : decode cL_law 2052 = .ok (.iadd, 1) := by decide +kernel
theorem dL_law_2053 : decode cL_law 2053 = .ok (.iaload, 1) := by decide +kernel
theorem dL_law_2054 : decode cL_law 2054 = .ok (.invokevirtual 217, 3) := by decide +kernel
theorem dL_law_2057 : decode cL_law 2057 = .ok (.istore 6, 2) := by decide +kernel
theorem dL_law_2059 : decode cL_law 2059 = .ok (.aload_n 2, 1) := by decide +kernel
theorem dL_law_2060 : decode cL_law 2060 = .ok (.invokevirtual 218, 3) := by decide +kernel
theorem dL_law_2063 : decode cL_law 2063 = .ok (.iload 5, 2) := by decide +kernel
theorem dL_law_2065 : decode cL_law 2065 = .ok (.if_icmp .eq 5, 3) := by decide +kernel
theorem dL_law_2068 : decode cL_law 2068 = .ok (.iconst 0, 1) := by decide +kernel
theorem dL_law_2069 : decode cL_law 2069 = .ok (.ireturn, 1) := by decide +kernel
theorem dL_law_2070 : decode cL_law 2070 = .ok (.iload 5, 2) := by decide +kernel
theorem dL_law_2072 : decode cL_law 2072 = .ok (.ifCond .ne 15, 3) := by decide +kernel
theorem dL_law_2075 : decode cL_law 2075 = .ok (.aload_n 3, 1) := by decide +kernel
theorem dL_law_2076 : decode cL_law 2076 = .ok (.iconst 0, 1) := by decide +kernel
theorem dL_law_2077 : decode cL_law 2077 = .ok (.laload, 1) := by decide +kernel
theorem dL_law_2078 : decode cL_law 2078 = .ok (.iload 6, 2) := by decide +kernel
theorem dL_law_2080 : decode cL_law 2080 = .ok (.i2l, 1) := by decide +kernel
theorem dL_law_2081 : decode cL_law 2081 = .ok (.lcmp, 1) := by decide +kernel
theorem dL_law_2082 : decode cL_law 2082 = .ok (.ifCond .eq 5, 3) := by decide +kernel
theorem dL_law_2085 : decode cL_law 2085 = .ok (.iconst 0, 1) := by decide +kernel
theorem dL_law_2086 : decode cL_law 2086 = .ok (.ireturn, 1) := by decide +kernel
theorem dL_law_2087 : decode cL_law 2087 = .ok (.goto 29, 3) := by decide +kernel
theorem dL_law_2090 : decode cL_law 2090 = .ok (.aload_n 1, 1) := by decide +kernel
theorem dL_law_2091 : decode cL_law 2091 = .ok (.invokevirtual 221, 3) := by decide +kernel
theorem dL_law_2094 : decode cL_law 2094 = .ok (.aload_n 2, 1) := by decide +kernel
theorem dL_law_2095 : decode cL_law 2095 = .ok (.invokevirtual 224, 3) := by decide +kernel
theorem dL_law_2098 : decode cL_law 2098 = .ok (.if_icmp .eq 18, 3) := by decide +kernel
theorem dL_law_2101 : decode cL_law 2101 = .ok (.iconst 0, 1) := by decide +kernel
theorem dL_law_2102 : decode cL_law 2102 = .ok (.ireturn, 1) := by decide +kernel
theorem dL_law_2103 : decode cL_law 2103 = .ok (.aload_n 1, 1) := by decide +kernel
theorem dL_law_2104 : decode cL_law 2104 = .ok (.invokevirtual 225, 3) := by decide +kernel
theorem dL_law_2107 : decode cL_law 2107 = .ok (.aload_n 2, 1) := by decide +kernel
theorem dL_law_2108 : decode cL_law 2108 = .ok (.invokevirtual 228, 3) := by decide +kernel
theorem dL_law_2111 : decode cL_law 2111 = .ok (.if_icmp .eq 5, 3) := by decide +kernel
theorem dL_law_2114 : decode cL_law 2114 = .ok (.iconst 0, 1) := by decide +kernel
theorem dL_law_2115 : decode cL_law 2115 = .ok (.ireturn, 1) := by decide +kernel
theorem dL_law_2116 : decode cL_law 2116 = .ok (.iinc 4 6, 3) := by decide +kernel
theorem dL_law_2119 : decode cL_law 2119 = .ok (.goto (-2096), 3) := by decide +kernel
theorem dL_law_2122 : decode cL_law 2122 = .ok (.iconst 1, 1) := by decide +kernel
theorem dL_law_2123 : decode cL_law 2123 = .ok (.ireturn, 1) := by decide +kernel
abbrev vwCl : List vw_C := [(RX0, TX0, 5), (RX1, TX1, 6), (RX2, TX2, 16), (RX3, TX3, 10), (RX4, TX4, 32)]
