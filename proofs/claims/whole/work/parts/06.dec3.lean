theorem dX4_sum_23 : decode cX4_sum 23 = .ok (.iload_n 3, 1) := by decide +kernel
theorem dX4_sum_24 : decode cX4_sum 24 = .ok (.sipush 1000, 3) := by decide +kernel
theorem dX4_sum_27 : decode cX4_sum 27 = .ok (.if_icmp .ge 26, 3) := by decide +kernel
theorem dX4_sum_30 : decode cX4_sum 30 = .ok (.iload_n 2, 1) := by decide +kernel
theorem dX4_sum_31 : decode cX4_sum 31 = .ok (.iload_n 3, 1) := by decide +kernel
theorem dX4_sum_32 : decode cX4_sum 32 = .ok (.aload_n 0, 1) := by decide +kernel
theorem dX4_sum_33 : decode cX4_sum 33 = .ok (.getfield 55, 3) := by decide +kernel
theorem dX4_sum_36 : decode cX4_sum 36 = .ok (.sipush 1000, 3) := by decide +kernel
theorem dX4_sum_39 : decode cX4_sum 39 = .ok (.iload_n 1, 1) := by decide +kernel
theorem dX4_sum_40 : decode cX4_sum 40 = .ok (.imul, 1) := by decide +kernel
theorem dX4_sum_41 : decode cX4_sum 41 = .ok (.iload_n 3, 1) := by decide +kernel
theorem dX4_sum_42 : decode cX4_sum 42 = .ok (.iadd, 1) := by decide +kernel
theorem dX4_sum_43 : decode cX4_sum 43 = .ok (.iaload, 1) := by decide +kernel
theorem dX4_sum_44 : decode cX4_sum 44 = .ok (.imul, 1) := by decide +kernel
theorem dX4_sum_45 : decode cX4_sum 45 = .ok (.iadd, 1) := by decide +kernel
theorem dX4_sum_46 : decode cX4_sum 46 = .ok (.istore_n 2, 1) := by decide +kernel
theorem dX4_sum_47 : decode cX4_sum 47 = .ok (.iinc 3 1, 3) := by decide +kernel
theorem dX4_sum_50 : decode cX4_sum 50 = .ok (.goto (-27), 3) := by decide +kernel
theorem dX4_sum_53 : decode cX4_sum 53 = .ok (.aload_n 0, 1) := by decide +kernel
theorem dX4_sum_54 : decode cX4_sum 54 = .ok (.iload_n 2, 1) := by decide +kernel
theorem dX4_sum_55 : decode cX4_sum 55 = .ok (.invokevirtual 195, 3) := by decide +kernel
theorem dX4_sum_58 : decode cX4_sum 58 = .ok (.ireturn, 1) := by decide +kernel
theorem dX4_heavy_0 : decode cX4_heavy 0 = .ok (.aload_n 0, 1) := by decide +kernel
theorem dX4_heavy_1 : decode cX4_heavy 1 = .ok (.iconst 0, 1) := by decide +kernel
theorem dX4_heavy_2 : decode cX4_heavy 2 = .ok (.putfield 61, 3) := by decide +kernel
theorem dX4_heavy_5 : decode cX4_heavy 5 = .ok (.aload_n 0, 1) := by decide +kernel
theorem dX4_heavy_6 : decode cX4_heavy 6 = .ok (.iload_n 1, 1) := by decide +kernel
theorem dX4_heavy_7 : decode cX4_heavy 7 = .ok (.invokevirtual 247, 3) := by decide +kernel
theorem dX4_heavy_10 : decode cX4_heavy 10 = .ok (.ifCond .eq 7, 3) := by decide +kernel
theorem dX4_heavy_13 : decode cX4_heavy 13 = .ok (.iload_n 3, 1) := by decide +kernel
theorem dX4_heavy_14 : decode cX4_heavy 14 = .ok (.ifCond .ge 9, 3) := by decide +kernel
theorem dX4_heavy_17 : decode cX4_heavy 17 = .ok (.aload_n 0, 1) := by decide +kernel
theorem dX4_heavy_18 : decode cX4_heavy 18 = .ok (.iconst 1, 1) := by decide +kernel
theorem dX4_heavy_19 : decode cX4_heavy 19 = .ok (.invokevirtual 179, 3) := by decide +kernel
theorem dX4_heavy_22 : decode cX4_heavy 22 = .ok (.ireturn, 1) := by decide +kernel
theorem dX4_heavy_23 : decode cX4_heavy 23 = .ok (.iload_n 2, 1) := by decide +kernel
theorem dX4_heavy_24 : decode cX4_heavy 24 = .ok (.iconst 1, 1) := by decide +kernel
theorem dX4_heavy_25 : decode cX4_heavy 25 = .ok (.bipush 100, 2) := by decide +kernel
theorem dX4_heavy_27 : decode cX4_heavy 27 = .ok (.invokestatic 86, 3) := by decide +kernel
theorem dX4_heavy_30 : decode cX4_heavy 30 = .ok (.ifCond .ne 9, 3) := by decide +kernel
theorem dX4_heavy_33 : decode cX4_heavy 33 = .ok (.aload_n 0, 1) := by decide +kernel
theorem dX4_heavy_34 : decode cX4_heavy 34 = .ok (.iconst 2, 1) := by decide +kernel
theorem dX4_heavy_35 : decode cX4_heavy 35 = .ok (.invokevirtual 179, 3) := by decide +kernel
theorem dX4_heavy_38 : decode cX4_heavy 38 = .ok (.ireturn, 1) := by decide +kernel
theorem dX4_heavy_39 : decode cX4_heavy 39 = .ok (.iload_n 3, 1) := by decide +kernel
theorem dX4_heavy_40 : decode cX4_heavy 40 = .ok (.istore 4, 2) := by decide +kernel
theorem dX4_heavy_42 : decode cX4_heavy 42 = .ok (.iconst 0, 1) := by decide +kernel
theorem dX4_heavy_43 : decode cX4_heavy 43 = .ok (.istore 5, 2) := by decide +kernel
theorem dX4_heavy_45 : decode cX4_heavy 45 = .ok (.iload 5, 2) := by decide +kernel
theorem dX4_heavy_47 : decode cX4_heavy 47 = .ok (.aload_n 0, 1) := by decide +kernel
theorem dX4_heavy_48 : decode cX4_heavy 48 = .ok (.getfield 40, 3) := by decide +kernel
theorem dX4_heavy_51 : decode cX4_heavy 51 = .ok (.iload_n 1, 1) := by decide +kernel
theorem dX4_heavy_52 : decode cX4_heavy 52 = .ok (.iaload, 1) := by decide +kernel
theorem dX4_heavy_53 : decode cX4_heavy 53 = .ok (.if_icmp .ge 87, 3) := by decide +kernel
theorem dX4_heavy_56 : decode cX4_heavy 56 = .ok (.aload_n 0, 1) := by decide +kernel
theorem dX4_heavy_57 : decode cX4_heavy 57 = .ok (.getfield 31, 3) := by decide +kernel
theorem dX4_heavy_60 : decode cX4_heavy 60 = .ok (.sipush 1000, 3) := by decide +kernel
theorem dX4_heavy_63 : decode cX4_heavy 63 = .ok (.iload_n 1, 1) := by decide +kernel
theorem dX4_heavy_64 : decode cX4_heavy 64 = .ok (.imul, 1) := by decide +kernel
theorem dX4_heavy_65 : decode cX4_heavy 65 = .ok (.iload 5, 2) := by decide +kernel
theorem dX4_heavy_67 : decode cX4_heavy 67 = .ok (.iadd, 1) := by decide +kernel
theorem dX4_heavy_68 : decode cX4_heavy 68 = .ok (.iaload, 1) := by decide +kernel
theorem dX4_heavy_69 : decode cX4_heavy 69 = .ok (.istore 6, 2) := by decide +kernel
theorem dX4_heavy_71 : decode cX4_heavy 71 = .ok (.iload 5, 2) := by decide +kernel
theorem dX4_heavy_73 : decode cX4_heavy 73 = .ok (.ifCond .le 23, 3) := by decide +kernel
theorem dX4_heavy_76 : decode cX4_heavy 76 = .ok (.iload 6, 2) := by decide +kernel
theorem dX4_heavy_78 : decode cX4_heavy 78 = .ok (.aload_n 0, 1) := by decide +kernel
theorem dX4_heavy_79 : decode cX4_heavy 79 = .ok (.getfield 31, 3) := by decide +kernel
theorem dX4_heavy_82 : decode cX4_heavy 82 = .ok (.sipush 1000, 3) := by decide +kernel
theorem dX4_heavy_85 : decode cX4_heavy 85 = .ok (.iload_n 1, 1) := by decide +kernel
theorem dX4_heavy_86 : decode cX4_heavy 86 = .ok (.imul, 1) := by decide +kernel
theorem dX4_heavy_87 : decode cX4_heavy 87 = .ok (.iload 5, 2) := by decide +kernel
theorem dX4_heavy_89 : decode cX4_heavy 89 = .ok (.iadd, 1) := by decide +kernel
theorem dX4_heavy_90 : decode cX4_heavy 90 = .ok (.iconst 1, 1) := by decide +kernel
theorem dX4_heavy_91 : decode cX4_heavy 91 = .ok (.isub, 1) := by decide +kernel
theorem dX4_heavy_92 : decode cX4_heavy 92 = .ok (.iaload, 1) := by decide +kernel
theorem dX4_heavy_93 : decode cX4_heavy 93 = .ok (.if_icmp .eq 41, 3) := by decide +kernel
theorem dX4_heavy_96 : decode cX4_heavy 96 = .ok (.aload_n 0, 1) := by decide +kernel
theorem dX4_heavy_97 : decode cX4_heavy 97 = .ok (.iload_n 1, 1) := by decide +kernel
theorem dX4_heavy_98 : decode cX4_heavy 98 = .ok (.iload 6, 2) := by decide +kernel
theorem dX4_heavy_100 : decode cX4_heavy 100 = .ok (.iload 6, 2) := by decide +kernel
theorem dX4_heavy_102 : decode cX4_heavy 102 = .ok (.invokevirtual 307, 3) := by decide +kernel
theorem dX4_heavy_105 : decode cX4_heavy 105 = .ok (.iload_n 2, 1) := by decide +kernel
theorem dX4_heavy_106 : decode cX4_heavy 106 = .ok (.imul, 1) := by decide +kernel
theorem dX4_heavy_107 : decode cX4_heavy 107 = .ok (.aload_n 0, 1) := by decide +kernel
theorem dX4_heavy_108 : decode cX4_heavy 108 = .ok (.getfield 43, 3) := by decide +kernel
theorem dX4_heavy_111 : decode cX4_heavy 111 = .ok (.iload_n 1, 1) := by decide +kernel
theorem dX4_heavy_112 : decode cX4_heavy 112 = .ok (.iaload, 1) := by decide +kernel
theorem dX4_heavy_113 : decode cX4_heavy 113 = .ok (.if_icmp .ge 6, 3) := by decide +kernel
theorem dX4_heavy_116 : decode cX4_heavy 116 = .ok (.goto 18, 3) := by decide +kernel
theorem dX4_heavy_119 : decode cX4_heavy 119 = .ok (.iload 4, 2) := by decide +kernel
theorem dX4_heavy_121 : decode cX4_heavy 121 = .ok (.ifCond .ne 10, 3) := by decide +kernel
theorem dX4_heavy_124 : decode cX4_heavy 124 = .ok (.aload_n 0, 1) := by decide +kernel
theorem dX4_heavy_125 : decode cX4_heavy 125 = .ok (.iload 6, 2) := by decide +kernel
theorem dX4_heavy_127 : decode cX4_heavy 127 = .ok (.invokevirtual 195, 3) := by decide +kernel
theorem dX4_heavy_130 : decode cX4_heavy 130 = .ok (.ireturn, 1) := by decide +kernel
theorem dX4_heavy_131 : decode cX4_heavy 131 = .ok (.iinc 4 (-1), 3) := by decide +kernel
theorem dX4_heavy_134 : decode cX4_heavy 134 = .ok (.iinc 5 1, 3) := by decide +kernel
theorem dX4_heavy_137 : decode cX4_heavy 137 = .ok (.goto (-92), 3) := by decide +kernel
theorem dX4_heavy_140 : decode cX4_heavy 140 = .ok (.aload_n 0, 1) := by decide +kernel
theorem dX4_heavy_141 : decode cX4_heavy 141 = .ok (.bipush (-2), 2) := by decide +kernel
theorem dX4_heavy_143 : decode cX4_heavy 143 = .ok (.invokevirtual 195, 3) := by decide +kernel
theorem dX4_heavy_146 : decode cX4_heavy 146 = .ok (.ireturn, 1) := by decide +kernel
theorem dX4_areTwo_0 : decode cX4_areTwo 0 = .ok (.aload_n 0, 1) := by decide +kernel
theorem dX4_areTwo_1 : decode cX4_areTwo 1 = .ok (.iload_n 1, 1) := by decide +kernel
theorem dX4_areTwo_2 : decode cX4_areTwo 2 = .ok (.invokevirtual 247, 3) := by decide +kernel
theorem dX4_areTwo_5 : decode cX4_areTwo 5 = .ok (.ifCond .eq 20, 3) := by decide +kernel
theorem dX4_areTwo_8 : decode cX4_areTwo 8 = .ok (.aload_n 0, 1) := by decide +kernel
theorem dX4_areTwo_9 : decode cX4_areTwo 9 = .ok (.iload_n 2, 1) := by decide +kernel
theorem dX4_areTwo_10 : decode cX4_areTwo 10 = .ok (.invokevirtual 247, 3) := by decide +kernel
theorem dX4_areTwo_13 : decode cX4_areTwo 13 = .ok (.ifCond .eq 12, 3) := by decide +kernel
theorem dX4_areTwo_16 : decode cX4_areTwo 16 = .ok (.iload_n 1, 1) := by decide +kernel
theorem dX4_areTwo_17 : decode cX4_areTwo 17 = .ok (.iload_n 2, 1) := by decide +kernel
theorem dX4_areTwo_18 : decode cX4_areTwo 18 = .ok (.if_icmp .eq 7, 3) := by decide +kernel
theorem dX4_areTwo_21 : decode cX4_areTwo 21 = .ok (.iconst 1, 1) := by decide +kernel
theorem dX4_areTwo_22 : decode cX4_areTwo 22 = .ok (.goto 4, 3) := by decide +kernel
theorem dX4_areTwo_25 : decode cX4_areTwo 25 = .ok (.iconst 0, 1) := by decide +kernel
theorem dX4_areTwo_26 : decode cX4_areTwo 26 = .ok (.ireturn, 1) := by decide +kernel
theorem dX4_between__0 : decode cX4_between_ 0 = .ok (.bipush 100, 2) := by decide +kernel
theorem dX4_between__2 : decode cX4_between_ 2 = .ok (.aload_n 0, 1) := by decide +kernel
theorem dX4_between__3 : decode cX4_between_ 3 = .ok (.iload_n 1, 1) := by decide +kernel
theorem dX4_between__4 : decode cX4_between_ 4 = .ok (.iload_n 3, 1) := by decide +kernel
theorem dX4_between__5 : decode cX4_between_ 5 = .ok (.invokevirtual 288, 3) := by decide +kernel
theorem dX4_between__8 : decode cX4_between_ 8 = .ok (.imul, 1) := by decide +kernel
theorem dX4_between__9 : decode cX4_between_ 9 = .ok (.aload_n 0, 1) := by decide +kernel
theorem dX4_between__10 : decode cX4_between_ 10 = .ok (.getfield 43, 3) := by decide +kernel
theorem dX4_between__13 : decode cX4_between_ 13 = .ok (.iload_n 2, 1) := by decide +kernel
theorem dX4_between__14 : decode cX4_between_ 14 = .ok (.iaload, 1) := by decide +kernel
theorem dX4_between__15 : decode cX4_between_ 15 = .ok (.imul, 1) := by decide +kernel
theorem dX4_between__16 : decode cX4_between_ 16 = .ok (.bipush 100, 2) := by decide +kernel
theorem dX4_between__18 : decode cX4_between_ 18 = .ok (.aload_n 0, 1) := by decide +kernel
theorem dX4_between__19 : decode cX4_between_ 19 = .ok (.iload_n 2, 1) := by decide +kernel
theorem dX4_between__20 : decode cX4_between_ 20 = .ok (.iload_n 3, 1) := by decide +kernel
theorem dX4_between__21 : decode cX4_between_ 21 = .ok (.invokevirtual 285, 3) := by decide +kernel
theorem dX4_between__24 : decode cX4_between_ 24 = .ok (.imul, 1) := by decide +kernel
theorem dX4_between__25 : decode cX4_between_ 25 = .ok (.aload_n 0, 1) := by decide +kernel
theorem dX4_between__26 : decode cX4_between_ 26 = .ok (.getfield 43, 3) := by decide +kernel
theorem dX4_between__29 : decode cX4_between_ 29 = .ok (.iload_n 1, 1) := by decide +kernel
theorem dX4_between__30 : decode cX4_between_ 30 = .ok (.iaload, 1) := by decide +kernel
theorem dX4_between__31 : decode cX4_between_ 31 = .ok (.imul, 1) := by decide +kernel
theorem dX4_between__32 : decode cX4_between_ 32 = .ok (.isub, 1) := by decide +kernel
theorem dX4_between__33 : decode cX4_between_ 33 = .ok (.istore 4, 2) := by decide +kernel
theorem dX4_between__35 : decode cX4_between_ 35 = .ok (.iload 4, 2) := by decide +kernel
theorem dX4_between__37 : decode cX4_between_ 37 = .ok (.aload_n 0, 1) := by decide +kernel
theorem dX4_between__38 : decode cX4_between_ 38 = .ok (.getfield 43, 3) := by decide +kernel
theorem dX4_between__41 : decode cX4_between_ 41 = .ok (.iload_n 1, 1) := by decide +kernel
theorem dX4_between__42 : decode cX4_between_ 42 = .ok (.iaload, 1) := by decide +kernel
theorem dX4_between__43 : decode cX4_between_ 43 = .ok (.aload_n 0, 1) := by decide +kernel
theorem dX4_between__44 : decode cX4_between_ 44 = .ok (.getfield 43, 3) := by decide +kernel
theorem dX4_between__47 : decode cX4_between_ 47 = .ok (.iload_n 2, 1) := by decide +kernel
theorem dX4_between__48 : decode cX4_between_ 48 = .ok (.iaload, 1) := by decide +kernel
theorem dX4_between__49 : decode cX4_between_ 49 = .ok (.imul, 1) := by decide +kernel
theorem dX4_between__50 : decode cX4_between_ 50 = .ok (.idiv, 1) := by decide +kernel
theorem dX4_between__51 : decode cX4_between_ 51 = .ok (.ireturn, 1) := by decide +kernel
theorem dX4_apartBy_0 : decode cX4_apartBy 0 = .ok (.iconst 0, 1) := by decide +kernel
theorem dX4_apartBy_1 : decode cX4_apartBy 1 = .ok (.istore 4, 2) := by decide +kernel
theorem dX4_apartBy_3 : decode cX4_apartBy 3 = .ok (.iconst 0, 1) := by decide +kernel
theorem dX4_apartBy_4 : decode cX4_apartBy 4 = .ok (.istore 5, 2) := by decide +kernel
theorem dX4_apartBy_6 : decode cX4_apartBy 6 = .ok (.iload 5, 2) := by decide +kernel
theorem dX4_apartBy_8 : decode cX4_apartBy 8 = .ok (.aload_n 0, 1) := by decide +kernel
theorem dX4_apartBy_9 : decode cX4_apartBy 9 = .ok (.getfield 40, 3) := by decide +kernel
theorem dX4_apartBy_12 : decode cX4_apartBy 12 = .ok (.iload_n 3, 1) := by decide +kernel
theorem dX4_apartBy_13 : decode cX4_apartBy 13 = .ok (.iaload, 1) := by decide +kernel
theorem dX4_apartBy_14 : decode cX4_apartBy 14 = .ok (.if_icmp .ge 41, 3) := by decide +kernel
theorem dX4_apartBy_17 : decode cX4_apartBy 17 = .ok (.aload_n 0, 1) := by decide +kernel
theorem dX4_apartBy_18 : decode cX4_apartBy 18 = .ok (.iload_n 1, 1) := by decide +kernel
theorem dX4_apartBy_19 : decode cX4_apartBy 19 = .ok (.iload_n 2, 1) := by decide +kernel
theorem dX4_apartBy_20 : decode cX4_apartBy 20 = .ok (.aload_n 0, 1) := by decide +kernel
theorem dX4_apartBy_21 : decode cX4_apartBy 21 = .ok (.getfield 31, 3) := by decide +kernel
theorem dX4_apartBy_24 : decode cX4_apartBy 24 = .ok (.sipush 1000, 3) := by decide +kernel
theorem dX4_apartBy_27 : decode cX4_apartBy 27 = .ok (.iload_n 3, 1) := by decide +kernel
theorem dX4_apartBy_28 : decode cX4_apartBy 28 = .ok (.imul, 1) := by decide +kernel
theorem dX4_apartBy_29 : decode cX4_apartBy 29 = .ok (.iload 5, 2) := by decide +kernel
theorem dX4_apartBy_31 : decode cX4_apartBy 31 = .ok (.iadd, 1) := by decide +kernel
theorem dX4_apartBy_32 : decode cX4_apartBy 32 = .ok (.iaload, 1) := by decide +kernel
theorem dX4_apartBy_33 : decode cX4_apartBy 33 = .ok (.invokevirtual 319, 3) := by decide +kernel
theorem dX4_apartBy_36 : decode cX4_apartBy 36 = .ok (.istore 6, 2) := by decide +kernel
theorem dX4_apartBy_38 : decode cX4_apartBy 38 = .ok (.iload 6, 2) := by decide +kernel
theorem dX4_apartBy_40 : decode cX4_apartBy 40 = .ok (.iload 4, 2) := by decide +kernel
theorem dX4_apartBy_42 : decode cX4_apartBy 42 = .ok (.if_icmp .le 7, 3) := by decide +kernel
theorem dX4_apartBy_45 : decode cX4_apartBy 45 = .ok (.iload 6, 2) := by decide +kernel
theorem dX4_apartBy_47 : decode cX4_apartBy 47 = .ok (.istore 4, 2) := by decide +kernel
theorem dX4_apartBy_49 : decode cX4_apartBy 49 = .ok (.iinc 5 1, 3) := by decide +kernel
theorem dX4_apartBy_52 : decode cX4_apartBy 52 = .ok (.goto (-46), 3) := by decide +kernel
theorem dX4_apartBy_55 : decode cX4_apartBy 55 = .ok (.iload 4, 2) := by decide +kernel
theorem dX4_apartBy_57 : decode cX4_apartBy 57 = .ok (.ireturn, 1) := by decide +kernel
theorem dX4_apart_0 : decode cX4_apart 0 = .ok (.aload_n 0, 1) := by decide +kernel
theorem dX4_apart_1 : decode cX4_apart 1 = .ok (.iconst 0, 1) := by decide +kernel
theorem dX4_apart_2 : decode cX4_apart 2 = .ok (.putfield 61, 3) := by decide +kernel
theorem dX4_apart_5 : decode cX4_apart 5 = .ok (.aload_n 0, 1) := by decide +kernel
theorem dX4_apart_6 : decode cX4_apart 6 = .ok (.iload_n 1, 1) := by decide +kernel
theorem dX4_apart_7 : decode cX4_apart 7 = .ok (.iload_n 2, 1) := by decide +kernel
theorem dX4_apart_8 : decode cX4_apart 8 = .ok (.invokevirtual 295, 3) := by decide +kernel
theorem dX4_apart_11 : decode cX4_apart 11 = .ok (.ifCond .ne 9, 3) := by decide +kernel
theorem dX4_apart_14 : decode cX4_apart 14 = .ok (.aload_n 0, 1) := by decide +kernel
theorem dX4_apart_15 : decode cX4_apart 15 = .ok (.iconst 1, 1) := by decide +kernel
theorem dX4_apart_16 : decode cX4_apart 16 = .ok (.invokevirtual 179, 3) := by decide +kernel
theorem dX4_apart_19 : decode cX4_apart 19 = .ok (.ireturn, 1) := by decide +kernel
theorem dX4_apart_20 : decode cX4_apart 20 = .ok (.aload_n 0, 1) := by decide +kernel
theorem dX4_apart_21 : decode cX4_apart 21 = .ok (.getfield 43, 3) := by decide +kernel
theorem dX4_apart_24 : decode cX4_apart 24 = .ok (.iload_n 1, 1) := by decide +kernel
theorem dX4_apart_25 : decode cX4_apart 25 = .ok (.iaload, 1) := by decide +kernel
theorem dX4_apart_26 : decode cX4_apart 26 = .ok (.ifCond .eq 12, 3) := by decide +kernel
theorem dX4_apart_29 : decode cX4_apart 29 = .ok (.aload_n 0, 1) := by decide +kernel
theorem dX4_apart_30 : decode cX4_apart 30 = .ok (.getfield 43, 3) := by decide +kernel
theorem dX4_apart_33 : decode cX4_apart 33 = .ok (.iload_n 2, 1) := by decide +kernel
theorem dX4_apart_34 : decode cX4_apart 34 = .ok (.iaload, 1) := by decide +kernel
theorem dX4_apart_35 : decode cX4_apart 35 = .ok (.ifCond .ne 9, 3) := by decide +kernel
theorem dX4_apart_38 : decode cX4_apart 38 = .ok (.aload_n 0, 1) := by decide +kernel
theorem dX4_apart_39 : decode cX4_apart 39 = .ok (.iconst 5, 1) := by decide +kernel
theorem dX4_apart_40 : decode cX4_apart 40 = .ok (.invokevirtual 179, 3) := by decide +kernel
theorem dX4_apart_43 : decode cX4_apart 43 = .ok (.ireturn, 1) := by decide +kernel
theorem dX4_apart_44 : decode cX4_apart 44 = .ok (.iconst 0, 1) := by decide +kernel
theorem dX4_apart_45 : decode cX4_apart 45 = .ok (.istore_n 3, 1) := by decide +kernel
theorem dX4_apart_46 : decode cX4_apart 46 = .ok (.iconst 0, 1) := by decide +kernel
theorem dX4_apart_47 : decode cX4_apart 47 = .ok (.istore 4, 2) := by decide +kernel
theorem dX4_apart_49 : decode cX4_apart 49 = .ok (.iload 4, 2) := by decide +kernel
theorem dX4_apart_51 : decode cX4_apart 51 = .ok (.iconst 4, 1) := by decide +kernel
theorem dX4_apart_52 : decode cX4_apart 52 = .ok (.if_icmp .ge 62, 3) := by decide +kernel
theorem dX4_apart_55 : decode cX4_apart 55 = .ok (.iload 4, 2) := by decide +kernel
theorem dX4_apart_57 : decode cX4_apart 57 = .ok (.iconst 2, 1) := by decide +kernel
theorem dX4_apart_58 : decode cX4_apart 58 = .ok (.if_icmp .ge 22, 3) := by decide +kernel
theorem dX4_apart_61 : decode cX4_apart 61 = .ok (.aload_n 0, 1) := by decide +kernel
theorem dX4_apart_62 : decode cX4_apart 62 = .ok (.iload_n 1, 1) := by decide +kernel
theorem dX4_apart_63 : decode cX4_apart 63 = .ok (.iload_n 2, 1) := by decide +kernel
theorem dX4_apart_64 : decode cX4_apart 64 = .ok (.iload 4, 2) := by decide +kernel
theorem dX4_apart_66 : decode cX4_apart 66 = .ok (.ifCond .ne 7, 3) := by decide +kernel
theorem dX4_apart_69 : decode cX4_apart 69 = .ok (.iload_n 1, 1) := by decide +kernel
theorem dX4_apart_70 : decode cX4_apart 70 = .ok (.goto 4, 3) := by decide +kernel
theorem dX4_apart_73 : decode cX4_apart 73 = .ok (.iload_n 2, 1) := by decide +kernel
theorem dX4_apart_74 : decode cX4_apart 74 = .ok (.invokevirtual 322, 3) := by decide +kernel
theorem dX4_apart_77 : decode cX4_apart 77 = .ok (.goto 20, 3) := by decide +kernel
theorem dX4_apart_80 : decode cX4_apart 80 = .ok (.aload_n 0, 1) := by decide +kernel
theorem dX4_apart_81 : decode cX4_apart 81 = .ok (.iload_n 2, 1) := by decide +kernel
theorem dX4_apart_82 : decode cX4_apart 82 = .ok (.iload_n 1, 1) := by decide +kernel
theorem dX4_apart_83 : decode cX4_apart 83 = .ok (.iload 4, 2) := by decide +kernel
theorem dX4_apart_85 : decode cX4_apart 85 = .ok (.iconst 2, 1) := by decide +kernel
theorem dX4_apart_86 : decode cX4_apart 86 = .ok (.if_icmp .ne 7, 3) := by decide +kernel
theorem dX4_apart_89 : decode cX4_apart 89 = .ok (.iload_n 1, 1) := by decide +kernel
theorem dX4_apart_90 : decode cX4_apart 90 = .ok (.goto 4, 3) := by decide +kernel
theorem dX4_apart_93 : decode cX4_apart 93 = .ok (.iload_n 2, 1) := by decide +kernel
theorem dX4_apart_94 : decode cX4_apart 94 = .ok (.invokevirtual 322, 3) := by decide +kernel
theorem dX4_apart_97 : decode cX4_apart 97 = .ok (.istore 5, 2) := by decide +kernel
theorem dX4_apart_99 : decode cX4_apart 99 = .ok (.iload 5, 2) := by decide +kernel
theorem dX4_apart_101 : decode cX4_apart 101 = .ok (.iload_n 3, 1) := by decide +kernel
theorem dX4_apart_102 : decode cX4_apart 102 = .ok (.if_icmp .le 6, 3) := by decide +kernel
theorem dX4_apart_105 : decode cX4_apart 105 = .ok (.iload 5, 2) := by decide +kernel
theorem dX4_apart_107 : decode cX4_apart 107 = .ok (.istore_n 3, 1) := by decide +kernel
theorem dX4_apart_108 : decode cX4_apart 108 = .ok (.iinc 4 1, 3) := by decide +kernel
theorem dX4_apart_111 : decode cX4_apart 111 = .ok (.goto (-62), 3) := by decide +kernel
theorem dX4_apart_114 : decode cX4_apart 114 = .ok (.aload_n 0, 1) := by decide +kernel
theorem dX4_apart_115 : decode cX4_apart 115 = .ok (.iload_n 3, 1) := by decide +kernel
theorem dX4_apart_116 : decode cX4_apart 116 = .ok (.invokevirtual 195, 3) := by decide +kernel
theorem dX4_apart_119 : decode cX4_apart 119 = .ok (.ireturn, 1) := by decide +kernel
theorem dX4_wins_0 : decode cX4_wins 0 = .ok (.aload_n 0, 1) := by decide +kernel
theorem dX4_wins_1 : decode cX4_wins 1 = .ok (.iconst 0, 1) := by decide +kernel
theorem dX4_wins_2 : decode cX4_wins 2 = .ok (.putfield 61, 3) := by decide +kernel
theorem dX4_wins_5 : decode cX4_wins 5 = .ok (.aload_n 0, 1) := by decide +kernel
theorem dX4_wins_6 : decode cX4_wins 6 = .ok (.iload_n 1, 1) := by decide +kernel
theorem dX4_wins_7 : decode cX4_wins 7 = .ok (.iload_n 2, 1) := by decide +kernel
theorem dX4_wins_8 : decode cX4_wins 8 = .ok (.invokevirtual 295, 3) := by decide +kernel
theorem dX4_wins_11 : decode cX4_wins 11 = .ok (.ifCond .ne 9, 3) := by decide +kernel
theorem dX4_wins_14 : decode cX4_wins 14 = .ok (.aload_n 0, 1) := by decide +kernel
theorem dX4_wins_15 : decode cX4_wins 15 = .ok (.iconst 1, 1) := by decide +kernel
theorem dX4_wins_16 : decode cX4_wins 16 = .ok (.invokevirtual 179, 3) := by decide +kernel
theorem dX4_wins_19 : decode cX4_wins 19 = .ok (.ireturn, 1) := by decide +kernel
theorem dX4_wins_20 : decode cX4_wins 20 = .ok (.iconst 0, 1) := by decide +kernel
theorem dX4_wins_21 : decode cX4_wins 21 = .ok (.istore 4, 2) := by decide +kernel
theorem dX4_wins_23 : decode cX4_wins 23 = .ok (.iconst 1, 1) := by decide +kernel
theorem dX4_wins_24 : decode cX4_wins 24 = .ok (.istore 5, 2) := by decide +kernel
theorem dX4_wins_26 : decode cX4_wins 26 = .ok (.iload 5, 2) := by decide +kernel
theorem dX4_wins_28 : decode cX4_wins 28 = .ok (.aload_n 0, 1) := by decide +kernel
theorem dX4_wins_29 : decode cX4_wins 29 = .ok (.getfield 43, 3) := by decide +kernel
theorem dX4_wins_32 : decode cX4_wins 32 = .ok (.iload_n 1, 1) := by decide +kernel
theorem dX4_wins_33 : decode cX4_wins 33 = .ok (.iaload, 1) := by decide +kernel
theorem dX4_wins_34 : decode cX4_wins 34 = .ok (.if_icmp .gt 52, 3) := by decide +kernel
theorem dX4_wins_37 : decode cX4_wins 37 = .ok (.iload 4, 2) := by decide +kernel
theorem dX4_wins_39 : decode cX4_wins 39 = .ok (.aload_n 0, 1) := by decide +kernel
theorem dX4_wins_40 : decode cX4_wins 40 = .ok (.getfield 43, 3) := by decide +kernel
theorem dX4_wins_43 : decode cX4_wins 43 = .ok (.iload_n 2, 1) := by decide +kernel
theorem dX4_wins_44 : decode cX4_wins 44 = .ok (.iaload, 1) := by decide +kernel
theorem dX4_wins_45 : decode cX4_wins 45 = .ok (.iload_n 3, 1) := by decide +kernel
theorem dX4_wins_46 : decode cX4_wins 46 = .ok (.ifCond .eq 18, 3) := by decide +kernel
theorem dX4_wins_49 : decode cX4_wins 49 = .ok (.aload_n 0, 1) := by decide +kernel
theorem dX4_wins_50 : decode cX4_wins 50 = .ok (.iload_n 2, 1) := by decide +kernel
theorem dX4_wins_51 : decode cX4_wins 51 = .ok (.aload_n 0, 1) := by decide +kernel
theorem dX4_wins_52 : decode cX4_wins 52 = .ok (.iload_n 1, 1) := by decide +kernel
theorem dX4_wins_53 : decode cX4_wins 53 = .ok (.iload 5, 2) := by decide +kernel
theorem dX4_wins_55 : decode cX4_wins 55 = .ok (.invokevirtual 301, 3) := by decide +kernel
theorem dX4_wins_58 : decode cX4_wins 58 = .ok (.invokevirtual 288, 3) := by decide +kernel
theorem dX4_wins_61 : decode cX4_wins 61 = .ok (.goto 15, 3) := by decide +kernel
theorem dX4_wins_64 : decode cX4_wins 64 = .ok (.aload_n 0, 1) := by decide +kernel
theorem dX4_wins_65 : decode cX4_wins 65 = .ok (.iload_n 2, 1) := by decide +kernel
theorem dX4_wins_66 : decode cX4_wins 66 = .ok (.aload_n 0, 1) := by decide +kernel
theorem dX4_wins_67 : decode cX4_wins 67 = .ok (.iload_n 1, 1) := by decide +kernel
theorem dX4_wins_68 : decode cX4_wins 68 = .ok (.iload 5, 2) := by decide +kernel
theorem dX4_wins_70 : decode cX4_wins 70 = .ok (.invokevirtual 298, 3) := by decide +kernel
theorem dX4_wins_73 : decode cX4_wins 73 = .ok (.invokevirtual 285, 3) := by decide +kernel
theorem dX4_wins_76 : decode cX4_wins 76 = .ok (.isub, 1) := by decide +kernel
theorem dX4_wins_77 : decode cX4_wins 77 = .ok (.iadd, 1) := by decide +kernel
theorem dX4_wins_78 : decode cX4_wins 78 = .ok (.istore 4, 2) := by decide +kernel
theorem dX4_wins_80 : decode cX4_wins 80 = .ok (.iinc 5 1, 3) := by decide +kernel
theorem dX4_wins_83 : decode cX4_wins 83 = .ok (.goto (-57), 3) := by decide +kernel
theorem dX4_wins_86 : decode cX4_wins 86 = .ok (.aload_n 0, 1) := by decide +kernel
theorem dX4_wins_87 : decode cX4_wins 87 = .ok (.iload 4, 2) := by decide +kernel
theorem dX4_wins_89 : decode cX4_wins 89 = .ok (.invokevirtual 195, 3) := by decide +kernel
theorem dX4_wins_92 : decode cX4_wins 92 = .ok (.ireturn, 1) := by decide +kernel
theorem dX4_would_0 : decode cX4_would 0 = .ok (.aload_n 0, 1) := by decide +kernel
theorem dX4_would_1 : decode cX4_would 1 = .ok (.iconst 0, 1) := by decide +kernel
theorem dX4_would_2 : decode cX4_would 2 = .ok (.putfield 61, 3) := by decide +kernel
theorem dX4_would_5 : decode cX4_would 5 = .ok (.aload_n 0, 1) := by decide +kernel
theorem dX4_would_6 : decode cX4_would 6 = .ok (.iload_n 1, 1) := by decide +kernel
theorem dX4_would_7 : decode cX4_would 7 = .ok (.iload_n 2, 1) := by decide +kernel
theorem dX4_would_8 : decode cX4_would 8 = .ok (.invokevirtual 295, 3) := by decide +kernel
theorem dX4_would_11 : decode cX4_would 11 = .ok (.ifCond .ne 9, 3) := by decide +kernel
theorem dX4_would_14 : decode cX4_would 14 = .ok (.aload_n 0, 1) := by decide +kernel
theorem dX4_would_15 : decode cX4_would 15 = .ok (.iconst 1, 1) := by decide +kernel
theorem dX4_would_16 : decode cX4_would 16 = .ok (.invokevirtual 179, 3) := by decide +kernel
theorem dX4_would_19 : decode cX4_would 19 = .ok (.ireturn, 1) := by decide +kernel
theorem dX4_would_20 : decode cX4_would 20 = .ok (.aload_n 0, 1) := by decide +kernel
theorem dX4_would_21 : decode cX4_would 21 = .ok (.getfield 43, 3) := by decide +kernel
theorem dX4_would_24 : decode cX4_would 24 = .ok (.iload_n 1, 1) := by decide +kernel
theorem dX4_would_25 : decode cX4_would 25 = .ok (.iaload, 1) := by decide +kernel
theorem dX4_would_26 : decode cX4_would 26 = .ok (.aload_n 0, 1) := by decide +kernel
theorem dX4_would_27 : decode cX4_would 27 = .ok (.getfield 43, 3) := by decide +kernel
theorem dX4_would_30 : decode cX4_would 30 = .ok (.iload_n 2, 1) := by decide +kernel
theorem dX4_would_31 : decode cX4_would 31 = .ok (.iaload, 1) := by decide +kernel
theorem dX4_would_32 : decode cX4_would 32 = .ok (.iadd, 1) := by decide +kernel
theorem dX4_would_33 : decode cX4_would 33 = .ok (.sipush 1000, 3) := by decide +kernel
theorem dX4_would_36 : decode cX4_would 36 = .ok (.if_icmp .le 9, 3) := by decide +kernel
theorem dX4_would_39 : decode cX4_would 39 = .ok (.aload_n 0, 1) := by decide +kernel
theorem dX4_would_40 : decode cX4_would 40 = .ok (.iconst 3, 1) := by decide +kernel
theorem dX4_would_41 : decode cX4_would 41 = .ok (.invokevirtual 179, 3) := by decide +kernel
theorem dX4_would_44 : decode cX4_would 44 = .ok (.ireturn, 1) := by decide +kernel
theorem dX4_would_45 : decode cX4_would 45 = .ok (.aload_n 0, 1) := by decide +kernel
theorem dX4_would_46 : decode cX4_would 46 = .ok (.iload_n 1, 1) := by decide +kernel
theorem dX4_would_47 : decode cX4_would 47 = .ok (.iload_n 2, 1) := by decide +kernel
theorem dX4_would_48 : decode cX4_would 48 = .ok (.iconst 4, 1) := by decide +kernel
theorem dX4_would_49 : decode cX4_would 49 = .ok (.invokevirtual 325, 3) := by decide +kernel
theorem dX4_would_52 : decode cX4_would 52 = .ok (.aload_n 0, 1) := by decide +kernel
theorem dX4_would_53 : decode cX4_would 53 = .ok (.aload_n 0, 1) := by decide +kernel
theorem dX4_would_54 : decode cX4_would 54 = .ok (.getfield 40, 3) := by decide +kernel
theorem dX4_would_57 : decode cX4_would 57 = .ok (.iconst 4, 1) := by decide +kernel
theorem dX4_would_58 : decode cX4_would 58 = .ok (.iaload, 1) := by decide +kernel
theorem dX4_would_59 : decode cX4_would 59 = .ok (.invokevirtual 195, 3) := by decide +kernel
theorem dX4_would_62 : decode cX4_would 62 = .ok (.ireturn, 1) := by decide +kernel
theorem dX4_spread_0 : decode cX4_spread 0 = .ok (.aload_n 0, 1) := by decide +kernel
theorem dX4_spread_1 : decode cX4_spread 1 = .ok (.iconst 0, 1) := by decide +kernel
theorem dX4_spread_2 : decode cX4_spread 2 = .ok (.putfield 61, 3) := by decide +kernel
theorem dX4_spread_5 : decode cX4_spread 5 = .ok (.aload_n 0, 1) := by decide +kernel
theorem dX4_spread_6 : decode cX4_spread 6 = .ok (.iload_n 1, 1) := by decide +kernel
theorem dX4_spread_7 : decode cX4_spread 7 = .ok (.invokevirtual 247, 3) := by decide +kernel
theorem dX4_spread_10 : decode cX4_spread 10 = .ok (.ifCond .ne 9, 3) := by decide +kernel
theorem dX4_spread_13 : decode cX4_spread 13 = .ok (.aload_n 0, 1) := by decide +kernel
theorem dX4_spread_14 : decode cX4_spread 14 = .ok (.iconst 1, 1) := by decide +kernel
theorem dX4_spread_15 : decode cX4_spread 15 = .ok (.invokevirtual 179, 3) := by decide +kernel
theorem dX4_spread_18 : decode cX4_spread 18 = .ok (.ireturn, 1) := by decide +kernel
theorem dX4_spread_19 : decode cX4_spread 19 = .ok (.iload_n 2, 1) := by decide +kernel
theorem dX4_spread_20 : decode cX4_spread 20 = .ok (.invokestatic 304, 3) := by decide +kernel
theorem dX4_spread_23 : decode cX4_spread 23 = .ok (.ifCond .eq 21, 3) := by decide +kernel
theorem dX4_spread_26 : decode cX4_spread 26 = .ok (.aload_n 0, 1) := by decide +kernel
theorem dX4_spread_27 : decode cX4_spread 27 = .ok (.aload_n 0, 1) := by decide +kernel
theorem dX4_spread_28 : decode cX4_spread 28 = .ok (.iload_n 1, 1) := by decide +kernel
theorem dX4_spread_29 : decode cX4_spread 29 = .ok (.aload_n 0, 1) := by decide +kernel
theorem dX4_spread_30 : decode cX4_spread 30 = .ok (.iload_n 1, 1) := by decide +kernel
theorem dX4_spread_31 : decode cX4_spread 31 = .ok (.iload_n 2, 1) := by decide +kernel
theorem dX4_spread_32 : decode cX4_spread 32 = .ok (.invokevirtual 205, 3) := by decide +kernel
theorem dX4_spread_35 : decode cX4_spread 35 = .ok (.invokevirtual 208, 3) := by decide +kernel
theorem dX4_spread_38 : decode cX4_spread 38 = .ok (.invokevirtual 195, 3) := by decide +kernel
theorem dX4_spread_41 : decode cX4_spread 41 = .ok (.goto 8, 3) := by decide +kernel
theorem dX4_spread_44 : decode cX4_spread 44 = .ok (.aload_n 0, 1) := by decide +kernel
theorem dX4_spread_45 : decode cX4_spread 45 = .ok (.iconst 2, 1) := by decide +kernel
theorem dX4_spread_46 : decode cX4_spread 46 = .ok (.invokevirtual 179, 3) := by decide +kernel
theorem dX4_spread_49 : decode cX4_spread 49 = .ok (.ireturn, 1) := by decide +kernel
theorem dX4_finest_0 : decode cX4_finest 0 = .ok (.aload_n 0, 1) := by decide +kernel
theorem dX4_finest_1 : decode cX4_finest 1 = .ok (.iconst 0, 1) := by decide +kernel
theorem dX4_finest_2 : decode cX4_finest 2 = .ok (.putfield 61, 3) := by decide +kernel
theorem dX4_finest_5 : decode cX4_finest 5 = .ok (.aload_n 0, 1) := by decide +kernel
theorem dX4_finest_6 : decode cX4_finest 6 = .ok (.iload_n 1, 1) := by decide +kernel
theorem dX4_finest_7 : decode cX4_finest 7 = .ok (.invokevirtual 247, 3) := by decide +kernel
theorem dX4_finest_10 : decode cX4_finest 10 = .ok (.ifCond .ne 9, 3) := by decide +kernel
theorem dX4_finest_13 : decode cX4_finest 13 = .ok (.aload_n 0, 1) := by decide +kernel
theorem dX4_finest_14 : decode cX4_finest 14 = .ok (.iconst 1, 1) := by decide +kernel
theorem dX4_finest_15 : decode cX4_finest 15 = .ok (.invokevirtual 179, 3) := by decide +kernel
theorem dX4_finest_18 : decode cX4_finest 18 = .ok (.ireturn, 1) := by decide +kernel
theorem dX4_finest_19 : decode cX4_finest 19 = .ok (.bipush 40, 2) := by decide +kernel
theorem dX4_finest_21 : decode cX4_finest 21 = .ok (.istore_n 2, 1) := by decide +kernel
theorem dX4_finest_22 : decode cX4_finest 22 = .ok (.iload_n 2, 1) := by decide +kernel
theorem dX4_finest_23 : decode cX4_finest 23 = .ok (.iconst 1, 1) := by decide +kernel
theorem dX4_finest_24 : decode cX4_finest 24 = .ok (.if_icmp .le 33, 3) := by decide +kernel
theorem dX4_finest_27 : decode cX4_finest 27 = .ok (.aload_n 0, 1) := by decide +kernel
theorem dX4_finest_28 : decode cX4_finest 28 = .ok (.iload_n 1, 1) := by decide +kernel
theorem dX4_finest_29 : decode cX4_finest 29 = .ok (.invokevirtual 251, 3) := by decide +kernel
theorem dX4_finest_32 : decode cX4_finest 32 = .ok (.aload_n 0, 1) := by decide +kernel
theorem dX4_finest_33 : decode cX4_finest 33 = .ok (.getfield 43, 3) := by decide +kernel
theorem dX4_finest_36 : decode cX4_finest 36 = .ok (.iload_n 1, 1) := by decide +kernel
theorem dX4_finest_37 : decode cX4_finest 37 = .ok (.iaload, 1) := by decide +kernel
theorem dX4_finest_38 : decode cX4_finest 38 = .ok (.iload_n 2, 1) := by decide +kernel
theorem dX4_finest_39 : decode cX4_finest 39 = .ok (.invokestatic 198, 3) := by decide +kernel
theorem dX4_finest_42 : decode cX4_finest 42 = .ok (.if_icmp .gt 9, 3) := by decide +kernel
theorem dX4_finest_45 : decode cX4_finest 45 = .ok (.aload_n 0, 1) := by decide +kernel
theorem dX4_finest_46 : decode cX4_finest 46 = .ok (.iload_n 2, 1) := by decide +kernel
theorem dX4_finest_47 : decode cX4_finest 47 = .ok (.invokevirtual 195, 3) := by decide +kernel
theorem dX4_finest_50 : decode cX4_finest 50 = .ok (.ireturn, 1) := by decide +kernel
theorem dX4_finest_51 : decode cX4_finest 51 = .ok (.iinc 2 (-1), 3) := by decide +kernel
theorem dX4_finest_54 : decode cX4_finest 54 = .ok (.goto (-32), 3) := by decide +kernel
theorem dX4_finest_57 : decode cX4_finest 57 = .ok (.aload_n 0, 1) := by decide +kernel
theorem dX4_finest_58 : decode cX4_finest 58 = .ok (.bipush (-2), 2) := by decide +kernel
theorem dX4_finest_60 : decode cX4_finest 60 = .ok (.invokevirtual 195, 3) := by decide +kernel
theorem dX4_finest_63 : decode cX4_finest 63 = .ok (.ireturn, 1) := by decide +kernel
theorem dX4_wholeLays_0 : decode cX4_wholeLays 0 = .ok (.aload_n 0, 1) := by decide +kernel
theorem dX4_wholeLays_1 : decode cX4_wholeLays 1 = .ok (.aload_n 0, 1) := by decide +kernel
theorem dX4_wholeLays_2 : decode cX4_wholeLays 2 = .ok (.getfield 43, 3) := by decide +kernel
theorem dX4_wholeLays_5 : decode cX4_wholeLays 5 = .ok (.invokevirtual 243, 3) := by decide +kernel
theorem dX4_wholeLays_8 : decode cX4_wholeLays 8 = .ok (.ifCond .ne 5, 3) := by decide +kernel
theorem dX4_wholeLays_11 : decode cX4_wholeLays 11 = .ok (.iconst 5, 1) := by decide +kernel
theorem dX4_wholeLays_12 : decode cX4_wholeLays 12 = .ok (.ireturn, 1) := by decide +kernel
theorem dX4_wholeLays_13 : decode cX4_wholeLays 13 = .ok (.aload_n 0, 1) := by decide +kernel
theorem dX4_wholeLays_14 : decode cX4_wholeLays 14 = .ok (.aload_n 0, 1) := by decide +kernel
theorem dX4_wholeLays_15 : decode cX4_wholeLays 15 = .ok (.getfield 43, 3) := by decide +kernel
theorem dX4_wholeLays_18 : decode cX4_wholeLays 18 = .ok (.invokevirtual 243, 3) := by decide +kernel
theorem dX4_wholeLays_21 : decode cX4_wholeLays 21 = .ok (.sipush 1000, 3) := by decide +kernel
theorem dX4_wholeLays_24 : decode cX4_wholeLays 24 = .ok (.if_icmp .le 5, 3) := by decide +kernel
theorem dX4_wholeLays_27 : decode cX4_wholeLays 27 = .ok (.iconst 3, 1) := by decide +kernel
theorem dX4_wholeLays_28 : decode cX4_wholeLays 28 = .ok (.ireturn, 1) := by decide +kernel
theorem dX4_wholeLays_29 : decode cX4_wholeLays 29 = .ok (.aload_n 0, 1) := by decide +kernel
theorem dX4_wholeLays_30 : decode cX4_wholeLays 30 = .ok (.getfield 40, 3) := by decide +kernel
theorem dX4_wholeLays_33 : decode cX4_wholeLays 33 = .ok (.iconst 4, 1) := by decide +kernel
theorem dX4_wholeLays_34 : decode cX4_wholeLays 34 = .ok (.iconst 0, 1) := by decide +kernel
theorem dX4_wholeLays_35 : decode cX4_wholeLays 35 = .ok (.iastore, 1) := by decide +kernel
theorem dX4_wholeLays_36 : decode cX4_wholeLays 36 = .ok (.iconst 0, 1) := by decide +kernel
theorem dX4_wholeLays_37 : decode cX4_wholeLays 37 = .ok (.istore_n 1, 1) := by decide +kernel
theorem dX4_wholeLays_38 : decode cX4_wholeLays 38 = .ok (.iload_n 1, 1) := by decide +kernel
theorem dX4_wholeLays_39 : decode cX4_wholeLays 39 = .ok (.aload_n 0, 1) := by decide +kernel
theorem dX4_wholeLays_40 : decode cX4_wholeLays 40 = .ok (.getfield 187, 3) := by decide +kernel
theorem dX4_wholeLays_43 : decode cX4_wholeLays 43 = .ok (.if_icmp .ge 52, 3) := by decide +kernel
theorem dX4_wholeLays_46 : decode cX4_wholeLays 46 = .ok (.aload_n 0, 1) := by decide +kernel
theorem dX4_wholeLays_47 : decode cX4_wholeLays 47 = .ok (.getfield 43, 3) := by decide +kernel
theorem dX4_wholeLays_50 : decode cX4_wholeLays 50 = .ok (.iload_n 1, 1) := by decide +kernel
theorem dX4_wholeLays_51 : decode cX4_wholeLays 51 = .ok (.iaload, 1) := by decide +kernel
theorem dX4_wholeLays_52 : decode cX4_wholeLays 52 = .ok (.ifCond .ne 6, 3) := by decide +kernel
theorem dX4_wholeLays_55 : decode cX4_wholeLays 55 = .ok (.goto 34, 3) := by decide +kernel
theorem dX4_wholeLays_58 : decode cX4_wholeLays 58 = .ok (.aload_n 0, 1) := by decide +kernel
theorem dX4_wholeLays_59 : decode cX4_wholeLays 59 = .ok (.getfield 40, 3) := by decide +kernel
theorem dX4_wholeLays_62 : decode cX4_wholeLays 62 = .ok (.iconst 4, 1) := by decide +kernel
theorem dX4_wholeLays_63 : decode cX4_wholeLays 63 = .ok (.iaload, 1) := by decide +kernel
theorem dX4_wholeLays_64 : decode cX4_wholeLays 64 = .ok (.ifCond .ne 12, 3) := by decide +kernel
theorem dX4_wholeLays_67 : decode cX4_wholeLays 67 = .ok (.aload_n 0, 1) := by decide +kernel
theorem dX4_wholeLays_68 : decode cX4_wholeLays 68 = .ok (.iload_n 1, 1) := by decide +kernel
theorem dX4_wholeLays_69 : decode cX4_wholeLays 69 = .ok (.iconst 4, 1) := by decide +kernel
theorem dX4_wholeLays_70 : decode cX4_wholeLays 70 = .ok (.invokevirtual 328, 3) := by decide +kernel
theorem dX4_wholeLays_73 : decode cX4_wholeLays 73 = .ok (.goto 16, 3) := by decide +kernel
theorem dX4_wholeLays_76 : decode cX4_wholeLays 76 = .ok (.aload_n 0, 1) := by decide +kernel
theorem dX4_wholeLays_77 : decode cX4_wholeLays 77 = .ok (.iconst 4, 1) := by decide +kernel
theorem dX4_wholeLays_78 : decode cX4_wholeLays 78 = .ok (.iload_n 1, 1) := by decide +kernel
theorem dX4_wholeLays_79 : decode cX4_wholeLays 79 = .ok (.iconst 5, 1) := by decide +kernel
theorem dX4_wholeLays_80 : decode cX4_wholeLays 80 = .ok (.invokevirtual 325, 3) := by decide +kernel
theorem dX4_wholeLays_83 : decode cX4_wholeLays 83 = .ok (.aload_n 0, 1) := by decide +kernel
theorem dX4_wholeLays_84 : decode cX4_wholeLays 84 = .ok (.iconst 5, 1) := by decide +kernel
theorem dX4_wholeLays_85 : decode cX4_wholeLays 85 = .ok (.iconst 4, 1) := by decide +kernel
theorem dX4_wholeLays_86 : decode cX4_wholeLays 86 = .ok (.invokevirtual 328, 3) := by decide +kernel
theorem dX4_wholeLays_89 : decode cX4_wholeLays 89 = .ok (.iinc 1 1, 3) := by decide +kernel
theorem dX4_wholeLays_92 : decode cX4_wholeLays 92 = .ok (.goto (-54), 3) := by decide +kernel
theorem dX4_wholeLays_95 : decode cX4_wholeLays 95 = .ok (.iconst 0, 1) := by decide +kernel
theorem dX4_wholeLays_96 : decode cX4_wholeLays 96 = .ok (.ireturn, 1) := by decide +kernel
theorem dX4_whole_0 : decode cX4_whole 0 = .ok (.aload_n 0, 1) := by decide +kernel
theorem dX4_whole_1 : decode cX4_whole 1 = .ok (.iconst 0, 1) := by decide +kernel
theorem dX4_whole_2 : decode cX4_whole 2 = .ok (.putfield 61, 3) := by decide +kernel
theorem dX4_whole_5 : decode cX4_whole 5 = .ok (.aload_n 0, 1) := by decide +kernel
theorem dX4_whole_6 : decode cX4_whole 6 = .ok (.getfield 185, 3) := by decide +kernel
theorem dX4_whole_9 : decode cX4_whole 9 = .ok (.ifCond .eq 12, 3) := by decide +kernel
theorem dX4_whole_12 : decode cX4_whole 12 = .ok (.iload_n 1, 1) := by decide +kernel
theorem dX4_whole_13 : decode cX4_whole 13 = .ok (.iconst 0, 1) := by decide +kernel
theorem dX4_whole_14 : decode cX4_whole 14 = .ok (.iconst 2, 1) := by decide +kernel
theorem dX4_whole_15 : decode cX4_whole 15 = .ok (.invokestatic 86, 3) := by decide +kernel
theorem dX4_whole_18 : decode cX4_whole 18 = .ok (.ifCond .ne 9, 3) := by decide +kernel
theorem dX4_whole_21 : decode cX4_whole 21 = .ok (.aload_n 0, 1) := by decide +kernel
theorem dX4_whole_22 : decode cX4_whole 22 = .ok (.iconst 1, 1) := by decide +kernel
theorem dX4_whole_23 : decode cX4_whole 23 = .ok (.invokevirtual 179, 3) := by decide +kernel
theorem dX4_whole_26 : decode cX4_whole 26 = .ok (.ireturn, 1) := by decide +kernel
theorem dX4_whole_27 : decode cX4_whole 27 = .ok (.aload_n 0, 1) := by decide +kernel
theorem dX4_whole_28 : decode cX4_whole 28 = .ok (.invokevirtual 331, 3) := by decide +kernel
theorem dX4_whole_31 : decode cX4_whole 31 = .ok (.istore_n 2, 1) := by decide +kernel
theorem dX4_whole_32 : decode cX4_whole 32 = .ok (.iload_n 2, 1) := by decide +kernel
theorem dX4_whole_33 : decode cX4_whole 33 = .ok (.ifCond .le 9, 3) := by decide +kernel
theorem dX4_whole_36 : decode cX4_whole 36 = .ok (.aload_n 0, 1) := by decide +kernel
theorem dX4_whole_37 : decode cX4_whole 37 = .ok (.iload_n 2, 1) := by decide +kernel
theorem dX4_whole_38 : decode cX4_whole 38 = .ok (.invokevirtual 179, 3) := by decide +kernel
theorem dX4_whole_41 : decode cX4_whole 41 = .ok (.ireturn, 1) := by decide +kernel
theorem dX4_whole_42 : decode cX4_whole 42 = .ok (.aload_n 0, 1) := by decide +kernel
theorem dX4_whole_43 : decode cX4_whole 43 = .ok (.iload_n 1, 1) := by decide +kernel
theorem dX4_whole_44 : decode cX4_whole 44 = .ok (.ifCond .ne 12, 3) := by decide +kernel
theorem dX4_whole_47 : decode cX4_whole 47 = .ok (.aload_n 0, 1) := by decide +kernel
theorem dX4_whole_48 : decode cX4_whole 48 = .ok (.getfield 43, 3) := by decide +kernel
theorem dX4_whole_51 : decode cX4_whole 51 = .ok (.iconst 4, 1) := by decide +kernel
theorem dX4_whole_52 : decode cX4_whole 52 = .ok (.iaload, 1) := by decide +kernel
theorem dX4_whole_53 : decode cX4_whole 53 = .ok (.goto 22, 3) := by decide +kernel
theorem dX4_whole_56 : decode cX4_whole 56 = .ok (.iload_n 1, 1) := by decide +kernel
theorem dX4_whole_57 : decode cX4_whole 57 = .ok (.iconst 1, 1) := by decide +kernel
theorem dX4_whole_58 : decode cX4_whole 58 = .ok (.if_icmp .ne 12, 3) := by decide +kernel
theorem dX4_whole_61 : decode cX4_whole 61 = .ok (.aload_n 0, 1) := by decide +kernel
theorem dX4_whole_62 : decode cX4_whole 62 = .ok (.getfield 40, 3) := by decide +kernel
theorem dX4_whole_65 : decode cX4_whole 65 = .ok (.iconst 4, 1) := by decide +kernel
theorem dX4_whole_66 : decode cX4_whole 66 = .ok (.iaload, 1) := by decide +kernel
theorem dX4_whole_67 : decode cX4_whole 67 = .ok (.goto 8, 3) := by decide +kernel
theorem dX4_whole_70 : decode cX4_whole 70 = .ok (.aload_n 0, 1) := by decide +kernel
theorem dX4_whole_71 : decode cX4_whole 71 = .ok (.iconst 4, 1) := by decide +kernel
theorem dX4_whole_72 : decode cX4_whole 72 = .ok (.invokevirtual 310, 3) := by decide +kernel
theorem dX4_whole_75 : decode cX4_whole 75 = .ok (.invokevirtual 195, 3) := by decide +kernel
theorem dX4_whole_78 : decode cX4_whole 78 = .ok (.ireturn, 1) := by decide +kernel
theorem dX4_overall_0 : decode cX4_overall 0 = .ok (.aload_n 0, 1) := by decide +kernel
theorem dX4_overall_1 : decode cX4_overall 1 = .ok (.iconst 0, 1) := by decide +kernel
theorem dX4_overall_2 : decode cX4_overall 2 = .ok (.putfield 61, 3) := by decide +kernel
theorem dX4_overall_5 : decode cX4_overall 5 = .ok (.aload_n 0, 1) := by decide +kernel
theorem dX4_overall_6 : decode cX4_overall 6 = .ok (.getfield 185, 3) := by decide +kernel
theorem dX4_overall_9 : decode cX4_overall 9 = .ok (.ifCond .eq 12, 3) := by decide +kernel
theorem dX4_overall_12 : decode cX4_overall 12 = .ok (.iload_n 2, 1) := by decide +kernel
theorem dX4_overall_13 : decode cX4_overall 13 = .ok (.iconst 0, 1) := by decide +kernel
theorem dX4_overall_14 : decode cX4_overall 14 = .ok (.iconst 1, 1) := by decide +kernel
theorem dX4_overall_15 : decode cX4_overall 15 = .ok (.invokestatic 86, 3) := by decide +kernel
theorem dX4_overall_18 : decode cX4_overall 18 = .ok (.ifCond .ne 9, 3) := by decide +kernel
theorem dX4_overall_21 : decode cX4_overall 21 = .ok (.aload_n 0, 1) := by decide +kernel
theorem dX4_overall_22 : decode cX4_overall 22 = .ok (.iconst 1, 1) := by decide +kernel
theorem dX4_overall_23 : decode cX4_overall 23 = .ok (.invokevirtual 179, 3) := by decide +kernel
theorem dX4_overall_26 : decode cX4_overall 26 = .ok (.ireturn, 1) := by decide +kernel
theorem dX4_overall_27 : decode cX4_overall 27 = .ok (.aload_n 0, 1) := by decide +kernel
theorem dX4_overall_28 : decode cX4_overall 28 = .ok (.invokevirtual 331, 3) := by decide +kernel
theorem dX4_overall_31 : decode cX4_overall 31 = .ok (.istore_n 3, 1) := by decide +kernel
theorem dX4_overall_32 : decode cX4_overall 32 = .ok (.iload_n 3, 1) := by decide +kernel
theorem dX4_overall_33 : decode cX4_overall 33 = .ok (.ifCond .le 9, 3) := by decide +kernel
theorem dX4_overall_36 : decode cX4_overall 36 = .ok (.aload_n 0, 1) := by decide +kernel
theorem dX4_overall_37 : decode cX4_overall 37 = .ok (.iload_n 3, 1) := by decide +kernel
theorem dX4_overall_38 : decode cX4_overall 38 = .ok (.invokevirtual 179, 3) := by decide +kernel
theorem dX4_overall_41 : decode cX4_overall 41 = .ok (.ireturn, 1) := by decide +kernel
theorem dX4_overall_42 : decode cX4_overall 42 = .ok (.aload_n 0, 1) := by decide +kernel
theorem dX4_overall_43 : decode cX4_overall 43 = .ok (.iconst 4, 1) := by decide +kernel
theorem dX4_overall_44 : decode cX4_overall 44 = .ok (.iload_n 1, 1) := by decide +kernel
theorem dX4_overall_45 : decode cX4_overall 45 = .ok (.invokevirtual 273, 3) := by decide +kernel
theorem dX4_overall_48 : decode cX4_overall 48 = .ok (.ifCond .ne 9, 3) := by decide +kernel
theorem dX4_overall_51 : decode cX4_overall 51 = .ok (.aload_n 0, 1) := by decide +kernel
theorem dX4_overall_52 : decode cX4_overall 52 = .ok (.iconst 2, 1) := by decide +kernel
theorem dX4_overall_53 : decode cX4_overall 53 = .ok (.invokevirtual 179, 3) := by decide +kernel
theorem dX4_overall_56 : decode cX4_overall 56 = .ok (.ireturn, 1) := by decide +kernel
theorem dX4_overall_57 : decode cX4_overall 57 = .ok (.aload_n 0, 1) := by decide +kernel
theorem dX4_overall_58 : decode cX4_overall 58 = .ok (.iconst 4, 1) := by decide +kernel
theorem dX4_overall_59 : decode cX4_overall 59 = .ok (.iload_n 1, 1) := by decide +kernel
theorem dX4_overall_60 : decode cX4_overall 60 = .ok (.invokevirtual 276, 3) := by decide +kernel
theorem dX4_overall_63 : decode cX4_overall 63 = .ok (.istore 4, 2) := by decide +kernel
theorem dX4_overall_65 : decode cX4_overall 65 = .ok (.aload_n 0, 1) := by decide +kernel
theorem dX4_overall_66 : decode cX4_overall 66 = .ok (.iload_n 2, 1) := by decide +kernel
theorem dX4_overall_67 : decode cX4_overall 67 = .ok (.ifCond .ne 17, 3) := by decide +kernel
theorem dX4_overall_70 : decode cX4_overall 70 = .ok (.aload_n 0, 1) := by decide +kernel
theorem dX4_overall_71 : decode cX4_overall 71 = .ok (.getfield 31, 3) := by decide +kernel
theorem dX4_overall_74 : decode cX4_overall 74 = .ok (.sipush 4000, 3) := by decide +kernel
theorem dX4_overall_77 : decode cX4_overall 77 = .ok (.iload 4, 2) := by decide +kernel
theorem dX4_overall_79 : decode cX4_overall 79 = .ok (.iadd, 1) := by decide +kernel
theorem dX4_overall_80 : decode cX4_overall 80 = .ok (.iaload, 1) := by decide +kernel
theorem dX4_overall_81 : decode cX4_overall 81 = .ok (.goto 7, 3) := by decide +kernel
theorem dX4_overall_84 : decode cX4_overall 84 = .ok (.aload_n 0, 1) := by decide +kernel
theorem dX4_overall_85 : decode cX4_overall 85 = .ok (.getfield 270, 3) := by decide +kernel
theorem dX4_overall_88 : decode cX4_overall 88 = .ok (.invokevirtual 195, 3) := by decide +kernel
theorem dX4_overall_91 : decode cX4_overall 91 = .ok (.ireturn, 1) := by decide +kernel
theorem dX4_rounds_0 : decode cX4_rounds 0 = .ok (.aload_n 0, 1) := by decide +kernel
theorem dX4_rounds_1 : decode cX4_rounds 1 = .ok (.iconst 0, 1) := by decide +kernel
theorem dX4_rounds_2 : decode cX4_rounds 2 = .ok (.putfield 61, 3) := by decide +kernel
theorem dX4_rounds_5 : decode cX4_rounds 5 = .ok (.aload_n 0, 1) := by decide +kernel
theorem dX4_rounds_6 : decode cX4_rounds 6 = .ok (.iload_n 1, 1) := by decide +kernel
theorem dX4_rounds_7 : decode cX4_rounds 7 = .ok (.invokevirtual 247, 3) := by decide +kernel
theorem dX4_rounds_10 : decode cX4_rounds 10 = .ok (.ifCond .ne 9, 3) := by decide +kernel
theorem dX4_rounds_13 : decode cX4_rounds 13 = .ok (.aload_n 0, 1) := by decide +kernel
theorem dX4_rounds_14 : decode cX4_rounds 14 = .ok (.iconst 1, 1) := by decide +kernel
theorem dX4_rounds_15 : decode cX4_rounds 15 = .ok (.invokevirtual 179, 3) := by decide +kernel
theorem dX4_rounds_18 : decode cX4_rounds 18 = .ok (.ireturn, 1) := by decide +kernel
theorem dX4_rounds_19 : decode cX4_rounds 19 = .ok (.aload_n 0, 1) := by decide +kernel
theorem dX4_rounds_20 : decode cX4_rounds 20 = .ok (.iload_n 1, 1) := by decide +kernel
theorem dX4_rounds_21 : decode cX4_rounds 21 = .ok (.iconst 4, 1) := by decide +kernel
theorem dX4_rounds_22 : decode cX4_rounds 22 = .ok (.invokevirtual 328, 3) := by decide +kernel
theorem dX4_rounds_25 : decode cX4_rounds 25 = .ok (.iconst 0, 1) := by decide +kernel
theorem dX4_rounds_26 : decode cX4_rounds 26 = .ok (.istore_n 2, 1) := by decide +kernel
theorem dX4_rounds_27 : decode cX4_rounds 27 = .ok (.aload_n 0, 1) := by decide +kernel
theorem dX4_rounds_28 : decode cX4_rounds 28 = .ok (.iconst 4, 1) := by decide +kernel
theorem dX4_rounds_29 : decode cX4_rounds 29 = .ok (.aload_n 0, 1) := by decide +kernel
theorem dX4_rounds_30 : decode cX4_rounds 30 = .ok (.iconst 4, 1) := by decide +kernel
theorem dX4_rounds_31 : decode cX4_rounds 31 = .ok (.invokevirtual 237, 3) := by decide +kernel
theorem dX4_rounds_34 : decode cX4_rounds 34 = .ok (.invokevirtual 240, 3) := by decide +kernel
theorem dX4_rounds_37 : decode cX4_rounds 37 = .ok (.ifCond .le 9, 3) := by decide +kernel
theorem dX4_rounds_40 : decode cX4_rounds 40 = .ok (.iinc 2 1, 3) := by decide +kernel
theorem dX4_rounds_43 : decode cX4_rounds 43 = .ok (.goto (-16), 3) := by decide +kernel
theorem dX4_rounds_46 : decode cX4_rounds 46 = .ok (.aload_n 0, 1) := by decide +kernel
theorem dX4_rounds_47 : decode cX4_rounds 47 = .ok (.iload_n 2, 1) := by decide +kernel
theorem dX4_rounds_48 : decode cX4_rounds 48 = .ok (.invokevirtual 195, 3) := by decide +kernel
theorem dX4_rounds_51 : decode cX4_rounds 51 = .ok (.ireturn, 1) := by decide +kernel
theorem dX4_coarse_0 : decode cX4_coarse 0 = .ok (.aload_n 0, 1) := by decide +kernel
theorem dX4_coarse_1 : decode cX4_coarse 1 = .ok (.iconst 0, 1) := by decide +kernel
theorem dX4_coarse_2 : decode cX4_coarse 2 = .ok (.putfield 61, 3) := by decide +kernel
theorem dX4_coarse_5 : decode cX4_coarse 5 = .ok (.aload_n 0, 1) := by decide +kernel
theorem dX4_coarse_6 : decode cX4_coarse 6 = .ok (.iload_n 1, 1) := by decide +kernel
theorem dX4_coarse_7 : decode cX4_coarse 7 = .ok (.invokevirtual 247, 3) := by decide +kernel
theorem dX4_coarse_10 : decode cX4_coarse 10 = .ok (.ifCond .ne 9, 3) := by decide +kernel
theorem dX4_coarse_13 : decode cX4_coarse 13 = .ok (.aload_n 0, 1) := by decide +kernel
theorem dX4_coarse_14 : decode cX4_coarse 14 = .ok (.iconst 1, 1) := by decide +kernel
theorem dX4_coarse_15 : decode cX4_coarse 15 = .ok (.invokevirtual 179, 3) := by decide +kernel
theorem dX4_coarse_18 : decode cX4_coarse 18 = .ok (.ireturn, 1) := by decide +kernel
theorem dX4_coarse_19 : decode cX4_coarse 19 = .ok (.iload_n 2, 1) := by decide +kernel
theorem dX4_coarse_20 : decode cX4_coarse 20 = .ok (.iconst 2, 1) := by decide +kernel
theorem dX4_coarse_21 : decode cX4_coarse 21 = .ok (.aload_n 0, 1) := by decide +kernel
theorem dX4_coarse_22 : decode cX4_coarse 22 = .ok (.getfield 185, 3) := by decide +kernel
theorem dX4_coarse_25 : decode cX4_coarse 25 = .ok (.invokestatic 86, 3) := by decide +kernel
theorem dX4_coarse_28 : decode cX4_coarse 28 = .ok (.ifCond .ne 9, 3) := by decide +kernel
theorem dX4_coarse_31 : decode cX4_coarse 31 = .ok (.aload_n 0, 1) := by decide +kernel
theorem dX4_coarse_32 : decode cX4_coarse 32 = .ok (.iconst 2, 1) := by decide +kernel
theorem dX4_coarse_33 : decode cX4_coarse 33 = .ok (.invokevirtual 179, 3) := by decide +kernel
theorem dX4_coarse_36 : decode cX4_coarse 36 = .ok (.ireturn, 1) := by decide +kernel
theorem dX4_coarse_37 : decode cX4_coarse 37 = .ok (.aload_n 0, 1) := by decide +kernel
theorem dX4_coarse_38 : decode cX4_coarse 38 = .ok (.iload_n 1, 1) := by decide +kernel
theorem dX4_coarse_39 : decode cX4_coarse 39 = .ok (.iconst 4, 1) := by decide +kernel
theorem dX4_coarse_40 : decode cX4_coarse 40 = .ok (.invokevirtual 328, 3) := by decide +kernel
theorem dX4_coarse_43 : decode cX4_coarse 43 = .ok (.aload_n 0, 1) := by decide +kernel
theorem dX4_coarse_44 : decode cX4_coarse 44 = .ok (.iconst 4, 1) := by decide +kernel
theorem dX4_coarse_45 : decode cX4_coarse 45 = .ok (.aload_n 0, 1) := by decide +kernel
theorem dX4_coarse_46 : decode cX4_coarse 46 = .ok (.getfield 43, 3) := by decide +kernel
theorem dX4_coarse_49 : decode cX4_coarse 49 = .ok (.iload_n 1, 1) := by decide +kernel
theorem dX4_coarse_50 : decode cX4_coarse 50 = .ok (.iaload, 1) := by decide +kernel
theorem dX4_coarse_51 : decode cX4_coarse 51 = .ok (.iload_n 2, 1) := by decide +kernel
theorem dX4_coarse_52 : decode cX4_coarse 52 = .ok (.invokestatic 198, 3) := by decide +kernel
theorem dX4_coarse_55 : decode cX4_coarse 55 = .ok (.invokevirtual 240, 3) := by decide +kernel
theorem dX4_coarse_58 : decode cX4_coarse 58 = .ok (.istore_n 3, 1) := by decide +kernel
theorem dX4_coarse_59 : decode cX4_coarse 59 = .ok (.aload_n 0, 1) := by decide +kernel
theorem dX4_coarse_60 : decode cX4_coarse 60 = .ok (.aload_n 0, 1) := by decide +kernel
theorem dX4_coarse_61 : decode cX4_coarse 61 = .ok (.getfield 40, 3) := by decide +kernel
theorem dX4_coarse_64 : decode cX4_coarse 64 = .ok (.iload_n 1, 1) := by decide +kernel
theorem dX4_coarse_65 : decode cX4_coarse 65 = .ok (.iaload, 1) := by decide +kernel
theorem dX4_coarse_66 : decode cX4_coarse 66 = .ok (.iload_n 3, 1) := by decide +kernel
theorem dX4_coarse_67 : decode cX4_coarse 67 = .ok (.isub, 1) := by decide +kernel
theorem dX4_coarse_68 : decode cX4_coarse 68 = .ok (.invokevirtual 195, 3) := by decide +kernel
theorem dX4_coarse_71 : decode cX4_coarse 71 = .ok (.ireturn, 1) := by decide +kernel
theorem dX4_push_0 : decode cX4_push 0 = .ok (.aload_n 0, 1) := by decide +kernel
theorem dX4_push_1 : decode cX4_push 1 = .ok (.iconst 0, 1) := by decide +kernel
theorem dX4_push_2 : decode cX4_push 2 = .ok (.putfield 61, 3) := by decide +kernel
theorem dX4_push_5 : decode cX4_push 5 = .ok (.aload_n 0, 1) := by decide +kernel
theorem dX4_push_6 : decode cX4_push 6 = .ok (.iload_n 1, 1) := by decide +kernel
theorem dX4_push_7 : decode cX4_push 7 = .ok (.invokevirtual 247, 3) := by decide +kernel
theorem dX4_push_10 : decode cX4_push 10 = .ok (.ifCond .ne 9, 3) := by decide +kernel
theorem dX4_push_13 : decode cX4_push 13 = .ok (.aload_n 0, 1) := by decide +kernel
theorem dX4_push_14 : decode cX4_push 14 = .ok (.iconst 1, 1) := by decide +kernel
theorem dX4_push_15 : decode cX4_push 15 = .ok (.invokevirtual 179, 3) := by decide +kernel
theorem dX4_push_18 : decode cX4_push 18 = .ok (.ireturn, 1) := by decide +kernel
theorem dX4_push_19 : decode cX4_push 19 = .ok (.iload_n 2, 1) := by decide +kernel
theorem dX4_push_20 : decode cX4_push 20 = .ok (.invokestatic 304, 3) := by decide +kernel
theorem dX4_push_23 : decode cX4_push 23 = .ok (.ifCond .ne 9, 3) := by decide +kernel
theorem dX4_push_26 : decode cX4_push 26 = .ok (.aload_n 0, 1) := by decide +kernel
theorem dX4_push_27 : decode cX4_push 27 = .ok (.iconst 2, 1) := by decide +kernel
theorem dX4_push_28 : decode cX4_push 28 = .ok (.invokevirtual 179, 3) := by decide +kernel
theorem dX4_push_31 : decode cX4_push 31 = .ok (.ireturn, 1) := by decide +kernel
theorem dX4_push_32 : decode cX4_push 32 = .ok (.aload_n 0, 1) := by decide +kernel
theorem dX4_push_33 : decode cX4_push 33 = .ok (.getfield 43, 3) := by decide +kernel
theorem dX4_push_36 : decode cX4_push 36 = .ok (.iload_n 1, 1) := by decide +kernel
theorem dX4_push_37 : decode cX4_push 37 = .ok (.iaload, 1) := by decide +kernel
theorem dX4_push_38 : decode cX4_push 38 = .ok (.sipush 1000, 3) := by decide +kernel
theorem dX4_push_41 : decode cX4_push 41 = .ok (.if_icmp .ne 9, 3) := by decide +kernel
theorem dX4_push_44 : decode cX4_push 44 = .ok (.aload_n 0, 1) := by decide +kernel
theorem dX4_push_45 : decode cX4_push 45 = .ok (.iconst 3, 1) := by decide +kernel
theorem dX4_push_46 : decode cX4_push 46 = .ok (.invokevirtual 179, 3) := by decide +kernel
theorem dX4_push_49 : decode cX4_push 49 = .ok (.ireturn, 1) := by decide +kernel
theorem dX4_push_50 : decode cX4_push 50 = .ok (.aload_n 0, 1) := by decide +kernel
theorem dX4_push_51 : decode cX4_push 51 = .ok (.iload_n 1, 1) := by decide +kernel
theorem dX4_push_52 : decode cX4_push 52 = .ok (.iload_n 2, 1) := by decide +kernel
theorem dX4_push_53 : decode cX4_push 53 = .ok (.invokevirtual 193, 3) := by decide +kernel
theorem dX4_push_56 : decode cX4_push 56 = .ok (.aload_n 0, 1) := by decide +kernel
theorem dX4_push_57 : decode cX4_push 57 = .ok (.aload_n 0, 1) := by decide +kernel
theorem dX4_push_58 : decode cX4_push 58 = .ok (.getfield 40, 3) := by decide +kernel
theorem dX4_push_61 : decode cX4_push 61 = .ok (.iload_n 1, 1) := by decide +kernel
theorem dX4_push_62 : decode cX4_push 62 = .ok (.iaload, 1) := by decide +kernel
theorem dX4_push_63 : decode cX4_push 63 = .ok (.invokevirtual 195, 3) := by decide +kernel
theorem dX4_push_66 : decode cX4_push 66 = .ok (.ireturn, 1) := by decide +kernel
theorem dX4_draw_0 : decode cX4_draw 0 = .ok (.aload_n 0, 1) := by decide +kernel
theorem dX4_draw_1 : decode cX4_draw 1 = .ok (.iconst 0, 1) := by decide +kernel
theorem dX4_draw_2 : decode cX4_draw 2 = .ok (.putfield 61, 3) := by decide +kernel
theorem dX4_draw_5 : decode cX4_draw 5 = .ok (.aload_n 0, 1) := by decide +kernel
theorem dX4_draw_6 : decode cX4_draw 6 = .ok (.iload_n 1, 1) := by decide +kernel
theorem dX4_draw_7 : decode cX4_draw 7 = .ok (.invokevirtual 247, 3) := by decide +kernel
theorem dX4_draw_10 : decode cX4_draw 10 = .ok (.ifCond .ne 9, 3) := by decide +kernel
theorem dX4_draw_13 : decode cX4_draw 13 = .ok (.aload_n 0, 1) := by decide +kernel
theorem dX4_draw_14 : decode cX4_draw 14 = .ok (.iconst 1, 1) := by decide +kernel
theorem dX4_draw_15 : decode cX4_draw 15 = .ok (.invokevirtual 179, 3) := by decide +kernel
theorem dX4_draw_18 : decode cX4_draw 18 = .ok (.ireturn, 1) := by decide +kernel
theorem dX4_draw_19 : decode cX4_draw 19 = .ok (.iload_n 2, 1) := by decide +kernel
theorem dX4_draw_20 : decode cX4_draw 20 = .ok (.iconst 1, 1) := by decide +kernel
theorem dX4_draw_21 : decode cX4_draw 21 = .ok (.sipush 200, 3) := by decide +kernel
theorem dX4_draw_24 : decode cX4_draw 24 = .ok (.invokestatic 86, 3) := by decide +kernel
theorem dX4_draw_27 : decode cX4_draw 27 = .ok (.ifCond .eq 14, 3) := by decide +kernel
theorem dX4_draw_30 : decode cX4_draw 30 = .ok (.iload_n 3, 1) := by decide +kernel
theorem dX4_draw_31 : decode cX4_draw 31 = .ok (.iconst 1, 1) := by decide +kernel
theorem dX4_draw_32 : decode cX4_draw 32 = .ok (.sipush 1000, 3) := by decide +kernel
theorem dX4_draw_35 : decode cX4_draw 35 = .ok (.invokestatic 86, 3) := by decide +kernel
theorem dX4_draw_38 : decode cX4_draw 38 = .ok (.ifCond .ne 9, 3) := by decide +kernel
theorem dX4_draw_41 : decode cX4_draw 41 = .ok (.aload_n 0, 1) := by decide +kernel
theorem dX4_draw_42 : decode cX4_draw 42 = .ok (.iconst 2, 1) := by decide +kernel
theorem dX4_draw_43 : decode cX4_draw 43 = .ok (.invokevirtual 179, 3) := by decide +kernel
theorem dX4_draw_46 : decode cX4_draw 46 = .ok (.ireturn, 1) := by decide +kernel
theorem dX4_draw_47 : decode cX4_draw 47 = .ok (.aload_n 0, 1) := by decide +kernel
theorem dX4_draw_48 : decode cX4_draw 48 = .ok (.getfield 43, 3) := by decide +kernel
theorem dX4_draw_51 : decode cX4_draw 51 = .ok (.iload_n 1, 1) := by decide +kernel
theorem dX4_draw_52 : decode cX4_draw 52 = .ok (.iaload, 1) := by decide +kernel
theorem dX4_draw_53 : decode cX4_draw 53 = .ok (.iload_n 2, 1) := by decide +kernel
theorem dX4_draw_54 : decode cX4_draw 54 = .ok (.iadd, 1) := by decide +kernel
theorem dX4_draw_55 : decode cX4_draw 55 = .ok (.sipush 1000, 3) := by decide +kernel
theorem dX4_draw_58 : decode cX4_draw 58 = .ok (.if_icmp .le 9, 3) := by decide +kernel
theorem dX4_draw_61 : decode cX4_draw 61 = .ok (.aload_n 0, 1) := by decide +kernel
theorem dX4_draw_62 : decode cX4_draw 62 = .ok (.iconst 3, 1) := by decide +kernel
theorem dX4_draw_63 : decode cX4_draw 63 = .ok (.invokevirtual 179, 3) := by decide +kernel
theorem dX4_draw_66 : decode cX4_draw 66 = .ok (.ireturn, 1) := by decide +kernel
theorem dX4_draw_67 : decode cX4_draw 67 = .ok (.iconst 0, 1) := by decide +kernel
theorem dX4_draw_68 : decode cX4_draw 68 = .ok (.istore 4, 2) := by decide +kernel
theorem dX4_draw_70 : decode cX4_draw 70 = .ok (.iload 4, 2) := by decide +kernel
theorem dX4_draw_72 : decode cX4_draw 72 = .ok (.iload_n 2, 1) := by decide +kernel
theorem dX4_draw_73 : decode cX4_draw 73 = .ok (.if_icmp .ge 38, 3) := by decide +kernel
theorem dX4_draw_76 : decode cX4_draw 76 = .ok (.aload_n 0, 1) := by decide +kernel
theorem dX4_draw_77 : decode cX4_draw 77 = .ok (.bipush 75, 2) := by decide +kernel
theorem dX4_draw_79 : decode cX4_draw 79 = .ok (.aload_n 0, 1) := by decide +kernel
theorem dX4_draw_80 : decode cX4_draw 80 = .ok (.getfield 58, 3) := by decide +kernel
theorem dX4_draw_83 : decode cX4_draw 83 = .ok (.imul, 1) := by decide +kernel
theorem dX4_draw_84 : decode cX4_draw 84 = .ok (.bipush 74, 2) := by decide +kernel
theorem dX4_draw_86 : decode cX4_draw 86 = .ok (.iadd, 1) := by decide +kernel
theorem dX4_draw_87 : decode cX4_draw 87 = .ok (.ldc_w 334, 3) := by decide +kernel
theorem dX4_draw_90 : decode cX4_draw 90 = .ok (.irem, 1) := by decide +kernel
theorem dX4_draw_91 : decode cX4_draw 91 = .ok (.putfield 58, 3) := by decide +kernel
theorem dX4_draw_94 : decode cX4_draw 94 = .ok (.aload_n 0, 1) := by decide +kernel
theorem dX4_draw_95 : decode cX4_draw 95 = .ok (.iload_n 1, 1) := by decide +kernel
theorem dX4_draw_96 : decode cX4_draw 96 = .ok (.aload_n 0, 1) := by decide +kernel
theorem dX4_draw_97 : decode cX4_draw 97 = .ok (.getfield 58, 3) := by decide +kernel
theorem dX4_draw_100 : decode cX4_draw 100 = .ok (.iload_n 3, 1) := by decide +kernel
theorem dX4_draw_101 : decode cX4_draw 101 = .ok (.irem, 1) := by decide +kernel
theorem dX4_draw_102 : decode cX4_draw 102 = .ok (.invokevirtual 193, 3) := by decide +kernel
theorem dX4_draw_105 : decode cX4_draw 105 = .ok (.iinc 4 1, 3) := by decide +kernel
theorem dX4_draw_108 : decode cX4_draw 108 = .ok (.goto (-38), 3) := by decide +kernel
theorem dX4_draw_111 : decode cX4_draw 111 = .ok (.aload_n 0, 1) := by decide +kernel
theorem dX4_draw_112 : decode cX4_draw 112 = .ok (.aload_n 0, 1) := by decide +kernel
theorem dX4_draw_113 : decode cX4_draw 113 = .ok (.getfield 40, 3) := by decide +kernel
theorem dX4_draw_116 : decode cX4_draw 116 = .ok (.iload_n 1, 1) := by decide +kernel
theorem dX4_draw_117 : decode cX4_draw 117 = .ok (.iaload, 1) := by decide +kernel
theorem dX4_draw_118 : decode cX4_draw 118 = .ok (.invokevirtual 195, 3) := by decide +kernel
theorem dX4_draw_121 : decode cX4_draw 121 = .ok (.ireturn, 1) := by decide +kernel
theorem dX4_seed_0 : decode cX4_seed 0 = .ok (.aload_n 0, 1) := by decide +kernel
theorem dX4_seed_1 : decode cX4_seed 1 = .ok (.iconst 0, 1) := by decide +kernel
theorem dX4_seed_2 : decode cX4_seed 2 = .ok (.putfield 61, 3) := by decide +kernel
theorem dX4_seed_5 : decode cX4_seed 5 = .ok (.iload_n 1, 1) := by decide +kernel
theorem dX4_seed_6 : decode cX4_seed 6 = .ok (.iconst 0, 1) := by decide +kernel
theorem dX4_seed_7 : decode cX4_seed 7 = .ok (.ldc_w 335, 3) := by decide +kernel
theorem dX4_seed_10 : decode cX4_seed 10 = .ok (.invokestatic 86, 3) := by decide +kernel
theorem dX4_seed_13 : decode cX4_seed 13 = .ok (.istore_n 2, 1) := by decide +kernel
theorem dX4_seed_14 : decode cX4_seed 14 = .ok (.iload_n 2, 1) := by decide +kernel
theorem dX4_seed_15 : decode cX4_seed 15 = .ok (.ifCond .eq 8, 3) := by decide +kernel
theorem dX4_seed_18 : decode cX4_seed 18 = .ok (.aload_n 0, 1) := by decide +kernel
theorem dX4_seed_19 : decode cX4_seed 19 = .ok (.iload_n 1, 1) := by decide +kernel
theorem dX4_seed_20 : decode cX4_seed 20 = .ok (.putfield 58, 3) := by decide +kernel
theorem dX4_seed_23 : decode cX4_seed 23 = .ok (.iload_n 2, 1) := by decide +kernel
theorem dX4_seed_24 : decode cX4_seed 24 = .ok (.ifCond .eq 11, 3) := by decide +kernel
theorem dX4_seed_27 : decode cX4_seed 27 = .ok (.aload_n 0, 1) := by decide +kernel
theorem dX4_seed_28 : decode cX4_seed 28 = .ok (.iconst 0, 1) := by decide +kernel
theorem dX4_seed_29 : decode cX4_seed 29 = .ok (.invokevirtual 195, 3) := by decide +kernel
theorem dX4_seed_32 : decode cX4_seed 32 = .ok (.goto 8, 3) := by decide +kernel
theorem dX4_seed_35 : decode cX4_seed 35 = .ok (.aload_n 0, 1) := by decide +kernel
theorem dX4_seed_36 : decode cX4_seed 36 = .ok (.iconst 2, 1) := by decide +kernel
theorem dX4_seed_37 : decode cX4_seed 37 = .ok (.invokevirtual 179, 3) := by decide +kernel
theorem dX4_seed_40 : decode cX4_seed 40 = .ok (.istore_n 3, 1) := by decide +kernel
theorem dX4_seed_41 : decode cX4_seed 41 = .ok (.iload_n 2, 1) := by decide +kernel
theorem dX4_seed_42 : decode cX4_seed 42 = .ok (.ireturn, 1) := by decide +kernel
theorem dX4_compress_0 : decode cX4_compress 0 = .ok (.aload_n 0, 1) := by decide +kernel
theorem dX4_compress_1 : decode cX4_compress 1 = .ok (.iconst 0, 1) := by decide +kernel
theorem dX4_compress_2 : decode cX4_compress 2 = .ok (.putfield 61, 3) := by decide +kernel
theorem dX4_compress_5 : decode cX4_compress 5 = .ok (.aload_n 0, 1) := by decide +kernel
theorem dX4_compress_6 : decode cX4_compress 6 = .ok (.iload_n 1, 1) := by decide +kernel
theorem dX4_compress_7 : decode cX4_compress 7 = .ok (.invokevirtual 247, 3) := by decide +kernel
theorem dX4_compress_10 : decode cX4_compress 10 = .ok (.ifCond .eq 15, 3) := by decide +kernel
theorem dX4_compress_13 : decode cX4_compress 13 = .ok (.aload_n 0, 1) := by decide +kernel
theorem dX4_compress_14 : decode cX4_compress 14 = .ok (.aload_n 0, 1) := by decide +kernel
theorem dX4_compress_15 : decode cX4_compress 15 = .ok (.iload_n 1, 1) := by decide +kernel
theorem dX4_compress_16 : decode cX4_compress 16 = .ok (.invokevirtual 218, 3) := by decide +kernel
theorem dX4_compress_19 : decode cX4_compress 19 = .ok (.invokevirtual 195, 3) := by decide +kernel
theorem dX4_compress_22 : decode cX4_compress 22 = .ok (.goto 8, 3) := by decide +kernel
theorem dX4_compress_25 : decode cX4_compress 25 = .ok (.aload_n 0, 1) := by decide +kernel
theorem dX4_compress_26 : decode cX4_compress 26 = .ok (.iconst 1, 1) := by decide +kernel
theorem dX4_compress_27 : decode cX4_compress 27 = .ok (.invokevirtual 179, 3) := by decide +kernel
theorem dX4_compress_30 : decode cX4_compress 30 = .ok (.ireturn, 1) := by decide +kernel
theorem dX4_merge_0 : decode cX4_merge 0 = .ok (.aload_n 0, 1) := by decide +kernel
theorem dX4_merge_1 : decode cX4_merge 1 = .ok (.iconst 0, 1) := by decide +kernel
theorem dX4_merge_2 : decode cX4_merge 2 = .ok (.putfield 61, 3) := by decide +kernel
theorem dX4_merge_5 : decode cX4_merge 5 = .ok (.aload_n 0, 1) := by decide +kernel
theorem dX4_merge_6 : decode cX4_merge 6 = .ok (.iload_n 1, 1) := by decide +kernel
theorem dX4_merge_7 : decode cX4_merge 7 = .ok (.iload_n 2, 1) := by decide +kernel
theorem dX4_merge_8 : decode cX4_merge 8 = .ok (.invokevirtual 295, 3) := by decide +kernel
theorem dX4_merge_11 : decode cX4_merge 11 = .ok (.ifCond .ne 9, 3) := by decide +kernel
theorem dX4_merge_14 : decode cX4_merge 14 = .ok (.aload_n 0, 1) := by decide +kernel
theorem dX4_merge_15 : decode cX4_merge 15 = .ok (.iconst 1, 1) := by decide +kernel
theorem dX4_merge_16 : decode cX4_merge 16 = .ok (.invokevirtual 179, 3) := by decide +kernel
theorem dX4_merge_19 : decode cX4_merge 19 = .ok (.ireturn, 1) := by decide +kernel
theorem dX4_merge_20 : decode cX4_merge 20 = .ok (.aload_n 0, 1) := by decide +kernel
theorem dX4_merge_21 : decode cX4_merge 21 = .ok (.getfield 43, 3) := by decide +kernel
theorem dX4_merge_24 : decode cX4_merge 24 = .ok (.iload_n 1, 1) := by decide +kernel
theorem dX4_merge_25 : decode cX4_merge 25 = .ok (.iaload, 1) := by decide +kernel
theorem dX4_merge_26 : decode cX4_merge 26 = .ok (.aload_n 0, 1) := by decide +kernel
theorem dX4_merge_27 : decode cX4_merge 27 = .ok (.getfield 43, 3) := by decide +kernel
theorem dX4_merge_30 : decode cX4_merge 30 = .ok (.iload_n 2, 1) := by decide +kernel
theorem dX4_merge_31 : decode cX4_merge 31 = .ok (.iaload, 1) := by decide +kernel
theorem dX4_merge_32 : decode cX4_merge 32 = .ok (.iadd, 1) := by decide +kernel
theorem dX4_merge_33 : decode cX4_merge 33 = .ok (.sipush 1000, 3) := by decide +kernel
theorem dX4_merge_36 : decode cX4_merge 36 = .ok (.if_icmp .le 9, 3) := by decide +kernel
theorem dX4_merge_39 : decode cX4_merge 39 = .ok (.aload_n 0, 1) := by decide +kernel
theorem dX4_merge_40 : decode cX4_merge 40 = .ok (.iconst 3, 1) := by decide +kernel
theorem dX4_merge_41 : decode cX4_merge 41 = .ok (.invokevirtual 179, 3) := by decide +kernel
theorem dX4_merge_44 : decode cX4_merge 44 = .ok (.ireturn, 1) := by decide +kernel
theorem dX4_merge_45 : decode cX4_merge 45 = .ok (.aload_n 0, 1) := by decide +kernel
theorem dX4_merge_46 : decode cX4_merge 46 = .ok (.iload_n 1, 1) := by decide +kernel
theorem dX4_merge_47 : decode cX4_merge 47 = .ok (.iload_n 2, 1) := by decide +kernel
theorem dX4_merge_48 : decode cX4_merge 48 = .ok (.iconst 4, 1) := by decide +kernel
theorem dX4_merge_49 : decode cX4_merge 49 = .ok (.invokevirtual 325, 3) := by decide +kernel
theorem dX4_merge_52 : decode cX4_merge 52 = .ok (.iconst 0, 1) := by decide +kernel
theorem dX4_merge_53 : decode cX4_merge 53 = .ok (.istore_n 3, 1) := by decide +kernel
theorem dX4_merge_54 : decode cX4_merge 54 = .ok (.iload_n 3, 1) := by decide +kernel
theorem dX4_merge_55 : decode cX4_merge 55 = .ok (.sipush 1000, 3) := by decide +kernel
theorem dX4_merge_58 : decode cX4_merge 58 = .ok (.if_icmp .ge 36, 3) := by decide +kernel
theorem dX4_merge_61 : decode cX4_merge 61 = .ok (.aload_n 0, 1) := by decide +kernel
theorem dX4_merge_62 : decode cX4_merge 62 = .ok (.getfield 55, 3) := by decide +kernel
theorem dX4_merge_65 : decode cX4_merge 65 = .ok (.sipush 1000, 3) := by decide +kernel
theorem dX4_merge_68 : decode cX4_merge 68 = .ok (.iload_n 1, 1) := by decide +kernel
theorem dX4_merge_69 : decode cX4_merge 69 = .ok (.imul, 1) := by decide +kernel
theorem dX4_merge_70 : decode cX4_merge 70 = .ok (.iload_n 3, 1) := by decide +kernel
theorem dX4_merge_71 : decode cX4_merge 71 = .ok (.iadd, 1) := by decide +kernel
theorem dX4_merge_72 : decode cX4_merge 72 = .ok (.dup2, 1) := by decide +kernel
theorem dX4_merge_73 : decode cX4_merge 73 = .ok (.iaload, 1) := by decide +kernel
theorem dX4_merge_74 : decode cX4_merge 74 = .ok (.aload_n 0, 1) := by decide +kernel
theorem dX4_merge_75 : decode cX4_merge 75 = .ok (.getfield 55, 3) := by decide +kernel
theorem dX4_merge_78 : decode cX4_merge 78 = .ok (.sipush 1000, 3) := by decide +kernel
theorem dX4_merge_81 : decode cX4_merge 81 = .ok (.iload_n 2, 1) := by decide +kernel
theorem dX4_merge_82 : decode cX4_merge 82 = .ok (.imul, 1) := by decide +kernel
theorem dX4_merge_83 : decode cX4_merge 83 = .ok (.iload_n 3, 1) := by decide +kernel
theorem dX4_merge_84 : decode cX4_merge 84 = .ok (.iadd, 1) := by decide +kernel
theorem dX4_merge_85 : decode cX4_merge 85 = .ok (.iaload, 1) := by decide +kernel
theorem dX4_merge_86 : decode cX4_merge 86 = .ok (.iadd, 1) := by decide +kernel
theorem dX4_merge_87 : decode cX4_merge 87 = .ok (.iastore, 1) := by decide +kernel
theorem dX4_merge_88 : decode cX4_merge 88 = .ok (.iinc 3 1, 3) := by decide +kernel
theorem dX4_merge_91 : decode cX4_merge 91 = .ok (.goto (-37), 3) := by decide +kernel
theorem dX4_merge_94 : decode cX4_merge 94 = .ok (.aload_n 0, 1) := by decide +kernel
theorem dX4_merge_95 : decode cX4_merge 95 = .ok (.iconst 4, 1) := by decide +kernel
theorem dX4_merge_96 : decode cX4_merge 96 = .ok (.iload_n 1, 1) := by decide +kernel
theorem dX4_merge_97 : decode cX4_merge 97 = .ok (.invokevirtual 328, 3) := by decide +kernel
theorem dX4_merge_100 : decode cX4_merge 100 = .ok (.aload_n 0, 1) := by decide +kernel
theorem dX4_merge_101 : decode cX4_merge 101 = .ok (.iload_n 2, 1) := by decide +kernel
theorem dX4_merge_102 : decode cX4_merge 102 = .ok (.invokevirtual 190, 3) := by decide +kernel
theorem dX4_merge_105 : decode cX4_merge 105 = .ok (.aload_n 0, 1) := by decide +kernel
theorem dX4_merge_106 : decode cX4_merge 106 = .ok (.getfield 49, 3) := by decide +kernel
theorem dX4_merge_109 : decode cX4_merge 109 = .ok (.iload_n 1, 1) := by decide +kernel
theorem dX4_merge_110 : decode cX4_merge 110 = .ok (.iconst 0, 1) := by decide +kernel
theorem dX4_merge_111 : decode cX4_merge 111 = .ok (.iastore, 1) := by decide +kernel
theorem dX4_merge_112 : decode cX4_merge 112 = .ok (.aload_n 0, 1) := by decide +kernel
theorem dX4_merge_113 : decode cX4_merge 113 = .ok (.getfield 52, 3) := by decide +kernel
theorem dX4_merge_116 : decode cX4_merge 116 = .ok (.iload_n 1, 1) := by decide +kernel
theorem dX4_merge_117 : decode cX4_merge 117 = .ok (.dup2, 1) := by decide +kernel
theorem dX4_merge_118 : decode cX4_merge 118 = .ok (.iaload, 1) := by decide +kernel
theorem dX4_merge_119 : decode cX4_merge 119 = .ok (.iconst 1, 1) := by decide +kernel
theorem dX4_merge_120 : decode cX4_merge 120 = .ok (.iadd, 1) := by decide +kernel
theorem dX4_merge_121 : decode cX4_merge 121 = .ok (.iastore, 1) := by decide +kernel
theorem dX4_merge_122 : decode cX4_merge 122 = .ok (.aload_n 0, 1) := by decide +kernel
theorem dX4_merge_123 : decode cX4_merge 123 = .ok (.aload_n 0, 1) := by decide +kernel
theorem dX4_merge_124 : decode cX4_merge 124 = .ok (.getfield 40, 3) := by decide +kernel
theorem dX4_merge_127 : decode cX4_merge 127 = .ok (.iload_n 1, 1) := by decide +kernel
theorem dX4_merge_128 : decode cX4_merge 128 = .ok (.iaload, 1) := by decide +kernel
theorem dX4_merge_129 : decode cX4_merge 129 = .ok (.invokevirtual 195, 3) := by decide +kernel
theorem dX4_merge_132 : decode cX4_merge 132 = .ok (.ireturn, 1) := by decide +kernel
theorem dX4_clear_0 : decode cX4_clear 0 = .ok (.aload_n 0, 1) := by decide +kernel
theorem dX4_clear_1 : decode cX4_clear 1 = .ok (.iconst 0, 1) := by decide +kernel
theorem dX4_clear_2 : decode cX4_clear 2 = .ok (.putfield 61, 3) := by decide +kernel
theorem dX4_clear_5 : decode cX4_clear 5 = .ok (.aload_n 0, 1) := by decide +kernel
theorem dX4_clear_6 : decode cX4_clear 6 = .ok (.iload_n 1, 1) := by decide +kernel
theorem dX4_clear_7 : decode cX4_clear 7 = .ok (.invokevirtual 247, 3) := by decide +kernel
theorem dX4_clear_10 : decode cX4_clear 10 = .ok (.ifCond .ne 9, 3) := by decide +kernel
theorem dX4_clear_13 : decode cX4_clear 13 = .ok (.aload_n 0, 1) := by decide +kernel
theorem dX4_clear_14 : decode cX4_clear 14 = .ok (.iconst 1, 1) := by decide +kernel
theorem dX4_clear_15 : decode cX4_clear 15 = .ok (.invokevirtual 179, 3) := by decide +kernel
theorem dX4_clear_18 : decode cX4_clear 18 = .ok (.ireturn, 1) := by decide +kernel
theorem dX4_clear_19 : decode cX4_clear 19 = .ok (.aload_n 0, 1) := by decide +kernel
theorem dX4_clear_20 : decode cX4_clear 20 = .ok (.getfield 43, 3) := by decide +kernel
theorem dX4_clear_23 : decode cX4_clear 23 = .ok (.iload_n 1, 1) := by decide +kernel
theorem dX4_clear_24 : decode cX4_clear 24 = .ok (.iaload, 1) := by decide +kernel
theorem dX4_clear_25 : decode cX4_clear 25 = .ok (.istore_n 2, 1) := by decide +kernel
theorem dX4_clear_26 : decode cX4_clear 26 = .ok (.aload_n 0, 1) := by decide +kernel
theorem dX4_clear_27 : decode cX4_clear 27 = .ok (.iload_n 1, 1) := by decide +kernel
theorem dX4_clear_28 : decode cX4_clear 28 = .ok (.invokevirtual 190, 3) := by decide +kernel
theorem dX4_clear_31 : decode cX4_clear 31 = .ok (.aload_n 0, 1) := by decide +kernel
theorem dX4_clear_32 : decode cX4_clear 32 = .ok (.iload_n 2, 1) := by decide +kernel
theorem dX4_clear_33 : decode cX4_clear 33 = .ok (.invokevirtual 195, 3) := by decide +kernel
theorem dX4_clear_36 : decode cX4_clear 36 = .ok (.ireturn, 1) := by decide +kernel
theorem dX4_every_0 : decode cX4_every 0 = .ok (.aload_n 0, 1) := by decide +kernel
theorem dX4_every_1 : decode cX4_every 1 = .ok (.iconst 0, 1) := by decide +kernel
theorem dX4_every_2 : decode cX4_every 2 = .ok (.putfield 61, 3) := by decide +kernel
theorem dX4_every_5 : decode cX4_every 5 = .ok (.aload_n 0, 1) := by decide +kernel
theorem dX4_every_6 : decode cX4_every 6 = .ok (.iload_n 1, 1) := by decide +kernel
theorem dX4_every_7 : decode cX4_every 7 = .ok (.invokevirtual 247, 3) := by decide +kernel
theorem dX4_every_10 : decode cX4_every 10 = .ok (.ifCond .ne 9, 3) := by decide +kernel
theorem dX4_every_13 : decode cX4_every 13 = .ok (.aload_n 0, 1) := by decide +kernel
theorem dX4_every_14 : decode cX4_every 14 = .ok (.iconst 1, 1) := by decide +kernel
theorem dX4_every_15 : decode cX4_every 15 = .ok (.invokevirtual 179, 3) := by decide +kernel
theorem dX4_every_18 : decode cX4_every 18 = .ok (.ireturn, 1) := by decide +kernel
theorem dX4_every_19 : decode cX4_every 19 = .ok (.iload_n 2, 1) := by decide +kernel
theorem dX4_every_20 : decode cX4_every 20 = .ok (.iconst 1, 1) := by decide +kernel
theorem dX4_every_21 : decode cX4_every 21 = .ok (.bipush 60, 2) := by decide +kernel
theorem dX4_every_23 : decode cX4_every 23 = .ok (.invokestatic 86, 3) := by decide +kernel
theorem dX4_every_26 : decode cX4_every 26 = .ok (.ifCond .ne 9, 3) := by decide +kernel
theorem dX4_every_29 : decode cX4_every 29 = .ok (.aload_n 0, 1) := by decide +kernel
theorem dX4_every_30 : decode cX4_every 30 = .ok (.iconst 2, 1) := by decide +kernel
theorem dX4_every_31 : decode cX4_every 31 = .ok (.invokevirtual 179, 3) := by decide +kernel
theorem dX4_every_34 : decode cX4_every 34 = .ok (.ireturn, 1) := by decide +kernel
theorem dX4_every_35 : decode cX4_every 35 = .ok (.aload_n 0, 1) := by decide +kernel
theorem dX4_every_36 : decode cX4_every 36 = .ok (.getfield 46, 3) := by decide +kernel
theorem dX4_every_39 : decode cX4_every 39 = .ok (.iload_n 1, 1) := by decide +kernel
theorem dX4_every_40 : decode cX4_every 40 = .ok (.iload_n 2, 1) := by decide +kernel
theorem dX4_every_41 : decode cX4_every 41 = .ok (.iastore, 1) := by decide +kernel
theorem dX4_every_42 : decode cX4_every 42 = .ok (.aload_n 0, 1) := by decide +kernel
theorem dX4_every_43 : decode cX4_every 43 = .ok (.getfield 49, 3) := by decide +kernel
theorem dX4_every_46 : decode cX4_every 46 = .ok (.iload_n 1, 1) := by decide +kernel
theorem dX4_every_47 : decode cX4_every 47 = .ok (.iaload, 1) := by decide +kernel
theorem dX4_every_48 : decode cX4_every 48 = .ok (.iload_n 2, 1) := by decide +kernel
theorem dX4_every_49 : decode cX4_every 49 = .ok (.if_icmp .lt 9, 3) := by decide +kernel
theorem dX4_every_52 : decode cX4_every 52 = .ok (.aload_n 0, 1) := by decide +kernel
theorem dX4_every_53 : decode cX4_every 53 = .ok (.iload_n 1, 1) := by decide +kernel
theorem dX4_every_54 : decode cX4_every 54 = .ok (.invokevirtual 218, 3) := by decide +kernel
theorem dX4_every_57 : decode cX4_every 57 = .ok (.istore_n 3, 1) := by decide +kernel
theorem dX4_every_58 : decode cX4_every 58 = .ok (.aload_n 0, 1) := by decide +kernel
theorem dX4_every_59 : decode cX4_every 59 = .ok (.aload_n 0, 1) := by decide +kernel
theorem dX4_every_60 : decode cX4_every 60 = .ok (.getfield 40, 3) := by decide +kernel
theorem dX4_every_63 : decode cX4_every 63 = .ok (.iload_n 1, 1) := by decide +kernel
theorem dX4_every_64 : decode cX4_every 64 = .ok (.iaload, 1) := by decide +kernel
theorem dX4_every_65 : decode cX4_every 65 = .ok (.invokevirtual 195, 3) := by decide +kernel
theorem dX4_every_68 : decode cX4_every 68 = .ok (.ireturn, 1) := by decide +kernel
theorem dX4_error_0 : decode cX4_error 0 = .ok (.aload_n 0, 1) := by decide +kernel
theorem dX4_error_1 : decode cX4_error 1 = .ok (.iconst 0, 1) := by decide +kernel
theorem dX4_error_2 : decode cX4_error 2 = .ok (.putfield 61, 3) := by decide +kernel
theorem dX4_error_5 : decode cX4_error 5 = .ok (.aload_n 0, 1) := by decide +kernel
theorem dX4_error_6 : decode cX4_error 6 = .ok (.getfield 185, 3) := by decide +kernel
theorem dX4_error_9 : decode cX4_error 9 = .ok (.ifCond .ne 9, 3) := by decide +kernel
theorem dX4_error_12 : decode cX4_error 12 = .ok (.aload_n 0, 1) := by decide +kernel
theorem dX4_error_13 : decode cX4_error 13 = .ok (.iconst 1, 1) := by decide +kernel
theorem dX4_error_14 : decode cX4_error 14 = .ok (.invokevirtual 179, 3) := by decide +kernel
theorem dX4_error_17 : decode cX4_error 17 = .ok (.ireturn, 1) := by decide +kernel
theorem dX4_error_18 : decode cX4_error 18 = .ok (.iload_n 1, 1) := by decide +kernel
theorem dX4_error_19 : decode cX4_error 19 = .ok (.iconst 2, 1) := by decide +kernel
theorem dX4_error_20 : decode cX4_error 20 = .ok (.bipush 40, 2) := by decide +kernel
theorem dX4_error_22 : decode cX4_error 22 = .ok (.invokestatic 86, 3) := by decide +kernel
theorem dX4_error_25 : decode cX4_error 25 = .ok (.ifCond .ne 9, 3) := by decide +kernel
theorem dX4_error_28 : decode cX4_error 28 = .ok (.aload_n 0, 1) := by decide +kernel
theorem dX4_error_29 : decode cX4_error 29 = .ok (.iconst 2, 1) := by decide +kernel
theorem dX4_error_30 : decode cX4_error 30 = .ok (.invokevirtual 179, 3) := by decide +kernel
theorem dX4_error_33 : decode cX4_error 33 = .ok (.ireturn, 1) := by decide +kernel
theorem dX4_error_34 : decode cX4_error 34 = .ok (.iconst 0, 1) := by decide +kernel
theorem dX4_error_35 : decode cX4_error 35 = .ok (.istore_n 2, 1) := by decide +kernel
theorem dX4_error_36 : decode cX4_error 36 = .ok (.iload_n 2, 1) := by decide +kernel
theorem dX4_error_37 : decode cX4_error 37 = .ok (.aload_n 0, 1) := by decide +kernel
theorem dX4_error_38 : decode cX4_error 38 = .ok (.getfield 187, 3) := by decide +kernel
theorem dX4_error_41 : decode cX4_error 41 = .ok (.if_icmp .ge 33, 3) := by decide +kernel
theorem dX4_error_44 : decode cX4_error 44 = .ok (.aload_n 0, 1) := by decide +kernel
theorem dX4_error_45 : decode cX4_error 45 = .ok (.iload_n 2, 1) := by decide +kernel
theorem dX4_error_46 : decode cX4_error 46 = .ok (.invokevirtual 251, 3) := by decide +kernel
theorem dX4_error_49 : decode cX4_error 49 = .ok (.aload_n 0, 1) := by decide +kernel
theorem dX4_error_50 : decode cX4_error 50 = .ok (.getfield 43, 3) := by decide +kernel
theorem dX4_error_53 : decode cX4_error 53 = .ok (.iload_n 2, 1) := by decide +kernel
theorem dX4_error_54 : decode cX4_error 54 = .ok (.iaload, 1) := by decide +kernel
theorem dX4_error_55 : decode cX4_error 55 = .ok (.iload_n 1, 1) := by decide +kernel
theorem dX4_error_56 : decode cX4_error 56 = .ok (.invokestatic 198, 3) := by decide +kernel
theorem dX4_error_59 : decode cX4_error 59 = .ok (.if_icmp .le 9, 3) := by decide +kernel
theorem dX4_error_62 : decode cX4_error 62 = .ok (.aload_n 0, 1) := by decide +kernel
theorem dX4_error_63 : decode cX4_error 63 = .ok (.iconst 5, 1) := by decide +kernel
theorem dX4_error_64 : decode cX4_error 64 = .ok (.invokevirtual 179, 3) := by decide +kernel
theorem dX4_error_67 : decode cX4_error 67 = .ok (.ireturn, 1) := by decide +kernel
theorem dX4_error_68 : decode cX4_error 68 = .ok (.iinc 2 1, 3) := by decide +kernel
theorem dX4_error_71 : decode cX4_error 71 = .ok (.goto (-35), 3) := by decide +kernel
theorem dX4_error_74 : decode cX4_error 74 = .ok (.aload_n 0, 1) := by decide +kernel
theorem dX4_error_75 : decode cX4_error 75 = .ok (.getfield 185, 3) := by decide +kernel
theorem dX4_error_78 : decode cX4_error 78 = .ok (.istore_n 2, 1) := by decide +kernel
theorem dX4_error_79 : decode cX4_error 79 = .ok (.aload_n 0, 1) := by decide +kernel
theorem dX4_error_80 : decode cX4_error 80 = .ok (.iload_n 1, 1) := by decide +kernel
theorem dX4_error_81 : decode cX4_error 81 = .ok (.putfield 185, 3) := by decide +kernel
theorem dX4_error_84 : decode cX4_error 84 = .ok (.aload_n 0, 1) := by decide +kernel
theorem dX4_error_85 : decode cX4_error 85 = .ok (.iload_n 2, 1) := by decide +kernel
theorem dX4_error_86 : decode cX4_error 86 = .ok (.invokevirtual 195, 3) := by decide +kernel
theorem dX4_error_89 : decode cX4_error 89 = .ok (.ireturn, 1) := by decide +kernel
theorem dX4_idle_0 : decode cX4_idle 0 = .ok (.aload_n 0, 1) := by decide +kernel
theorem dX4_idle_1 : decode cX4_idle 1 = .ok (.iconst 0, 1) := by decide +kernel
theorem dX4_idle_2 : decode cX4_idle 2 = .ok (.putfield 61, 3) := by decide +kernel
theorem dX4_idle_5 : decode cX4_idle 5 = .ok (.iconst 0, 1) := by decide +kernel
theorem dX4_idle_6 : decode cX4_idle 6 = .ok (.istore_n 2, 1) := by decide +kernel
theorem dX4_idle_7 : decode cX4_idle 7 = .ok (.iconst 0, 1) := by decide +kernel
theorem dX4_idle_8 : decode cX4_idle 8 = .ok (.istore_n 3, 1) := by decide +kernel
theorem dX4_idle_9 : decode cX4_idle 9 = .ok (.iload_n 3, 1) := by decide +kernel
theorem dX4_idle_10 : decode cX4_idle 10 = .ok (.aload_n 0, 1) := by decide +kernel
theorem dX4_idle_11 : decode cX4_idle 11 = .ok (.getfield 187, 3) := by decide +kernel
theorem dX4_idle_14 : decode cX4_idle 14 = .ok (.if_icmp .ge 31, 3) := by decide +kernel
theorem dX4_idle_17 : decode cX4_idle 17 = .ok (.aload_n 0, 1) := by decide +kernel
theorem dX4_idle_18 : decode cX4_idle 18 = .ok (.getfield 43, 3) := by decide +kernel
theorem dX4_idle_21 : decode cX4_idle 21 = .ok (.iload_n 3, 1) := by decide +kernel
theorem dX4_idle_22 : decode cX4_idle 22 = .ok (.iaload, 1) := by decide +kernel
theorem dX4_idle_23 : decode cX4_idle 23 = .ok (.ifCond .le 6, 3) := by decide +kernel
theorem dX4_idle_26 : decode cX4_idle 26 = .ok (.goto 13, 3) := by decide +kernel
theorem dX4_idle_29 : decode cX4_idle 29 = .ok (.iload_n 2, 1) := by decide +kernel
theorem dX4_idle_30 : decode cX4_idle 30 = .ok (.iload_n 1, 1) := by decide +kernel
theorem dX4_idle_31 : decode cX4_idle 31 = .ok (.if_icmp .ne 5, 3) := by decide +kernel
theorem dX4_idle_34 : decode cX4_idle 34 = .ok (.iload_n 3, 1) := by decide +kernel
theorem dX4_idle_35 : decode cX4_idle 35 = .ok (.ireturn, 1) := by decide +kernel
theorem dX4_idle_36 : decode cX4_idle 36 = .ok (.iinc 2 1, 3) := by decide +kernel
theorem dX4_idle_39 : decode cX4_idle 39 = .ok (.iinc 3 1, 3) := by decide +kernel
theorem dX4_idle_42 : decode cX4_idle 42 = .ok (.goto (-33), 3) := by decide +kernel
theorem dX4_idle_45 : decode cX4_idle 45 = .ok (.aload_n 0, 1) := by decide +kernel
theorem dX4_idle_46 : decode cX4_idle 46 = .ok (.iconst 1, 1) := by decide +kernel
theorem dX4_idle_47 : decode cX4_idle 47 = .ok (.putfield 61, 3) := by decide +kernel
theorem dX4_idle_50 : decode cX4_idle 50 = .ok (.iconst 0, 1) := by decide +kernel
theorem dX4_idle_51 : decode cX4_idle 51 = .ok (.ireturn, 1) := by decide +kernel
theorem dX4_size_0 : decode cX4_size 0 = .ok (.aload_n 0, 1) := by decide +kernel
theorem dX4_size_1 : decode cX4_size 1 = .ok (.iconst 0, 1) := by decide +kernel
theorem dX4_size_2 : decode cX4_size 2 = .ok (.putfield 61, 3) := by decide +kernel
theorem dX4_size_5 : decode cX4_size 5 = .ok (.aload_n 0, 1) := by decide +kernel
theorem dX4_size_6 : decode cX4_size 6 = .ok (.getfield 132, 3) := by decide +kernel
theorem dX4_size_9 : decode cX4_size 9 = .ok (.ireturn, 1) := by decide +kernel
theorem dX4_trouble_0 : decode cX4_trouble 0 = .ok (.aload_n 0, 1) := by decide +kernel
theorem dX4_trouble_1 : decode cX4_trouble 1 = .ok (.iconst 0, 1) := by decide +kernel
theorem dX4_trouble_2 : decode cX4_trouble 2 = .ok (.putfield 61, 3) := by decide +kernel
theorem dX4_trouble_5 : decode cX4_trouble 5 = .ok (.aload_n 0, 1) := by decide +kernel
theorem dX4_trouble_6 : decode cX4_trouble 6 = .ok (.getfield 64, 3) := by decide +kernel
theorem dX4_trouble_9 : decode cX4_trouble 9 = .ok (.ireturn, 1) := by decide +kernel
theorem dJ9_max_7cf53_0 : decode cJ9_max_7cf53 0 = .ok (.iload_n 0, 1) := by decide +kernel
theorem dJ9_max_7cf53_1 : decode cJ9_max_7cf53 1 = .ok (.iload_n 1, 1) := by decide +kernel
theorem dJ9_max_7cf53_2 : decode cJ9_max_7cf53 2 = .ok (.if_icmp .lt 7, 3) := by decide +kernel
theorem dJ9_max_7cf53_5 : decode cJ9_max_7cf53 5 = .ok (.iload_n 0, 1) := by decide +kernel
theorem dJ9_max_7cf53_6 : decode cJ9_max_7cf53 6 = .ok (.goto 4, 3) := by decide +kernel
theorem dJ9_max_7cf53_9 : decode cJ9_max_7cf53 9 = .ok (.iload_n 1, 1) := by decide +kernel
theorem dJ9_max_7cf53_10 : decode cJ9_max_7cf53 10 = .ok (.ireturn, 1) := by decide +kernel
theorem dJ9_min_7cf53_0 : decode cJ9_min_7cf53 0 = .ok (.iload_n 0, 1) := by decide +kernel
theorem dJ9_min_7cf53_1 : decode cJ9_min_7cf53 1 = .ok (.iload_n 1, 1) := by decide +kernel
theorem dJ9_min_7cf53_2 : decode cJ9_min_7cf53 2 = .ok (.if_icmp .gt 7, 3) := by decide +kernel
theorem dJ9_min_7cf53_5 : decode cJ9_min_7cf53 5 = .ok (.iload_n 0, 1) := by decide +kernel
theorem dJ9_min_7cf53_6 : decode cJ9_min_7cf53 6 = .ok (.goto 4, 3) := by decide +kernel
theorem dJ9_min_7cf53_9 : decode cJ9_min_7cf53 9 = .ok (.iload_n 1, 1) := by decide +kernel
theorem dJ9_min_7cf53_10 : decode cJ9_min_7cf53 10 = .ok (.ireturn, 1) := by decide +kernel
theorem dJ0_length_8abf5_0 : decode cJ0_length_8abf5 0 = .ok (.aload_n 0, 1) := by decide +kernel
theorem dJ0_length_8abf5_1 : decode cJ0_length_8abf5 1 = .ok (.getfield 9, 3) := by decide +kernel
theorem dJ0_length_8abf5_4 : decode cJ0_length_8abf5 4 = .ok (.arraylength, 1) := by decide +kernel
theorem dJ0_length_8abf5_5 : decode cJ0_length_8abf5 5 = .ok (.aload_n 0, 1) := by decide +kernel
theorem dJ0_length_8abf5_6 : decode cJ0_length_8abf5 6 = .ok (.invokevirtual 335, 3) := by decide +kernel
theorem dJ0_length_8abf5_9 : decode cJ0_length_8abf5 9 = .ok (.ishr, 1) := by decide +kernel
theorem dJ0_length_8abf5_10 : decode cJ0_length_8abf5 10 = .ok (.ireturn, 1) := by decide +kernel
theorem dJ0_charAt_5068e_0 : decode cJ0_charAt_5068e 0 = .ok (.aload_n 0, 1) := by decide +kernel
theorem dJ0_charAt_5068e_1 : decode cJ0_charAt_5068e 1 = .ok (.invokevirtual 492, 3) := by decide +kernel
theorem dJ0_charAt_5068e_4 : decode cJ0_charAt_5068e 4 = .ok (.ifCond .eq 12, 3) := by decide +kernel
theorem dJ0_charAt_5068e_7 : decode cJ0_charAt_5068e 7 = .ok (.aload_n 0, 1) := by decide +kernel
theorem dJ0_charAt_5068e_8 : decode cJ0_charAt_5068e 8 = .ok (.getfield 9, 3) := by decide +kernel
theorem dJ0_charAt_5068e_11 : decode cJ0_charAt_5068e 11 = .ok (.iload_n 1, 1) := by decide +kernel
theorem dJ0_charAt_5068e_12 : decode cJ0_charAt_5068e 12 = .ok (.invokestatic 495, 3) := by decide +kernel
theorem dJ0_charAt_5068e_15 : decode cJ0_charAt_5068e 15 = .ok (.ireturn, 1) := by decide +kernel
theorem dJ0_charAt_5068e_16 : decode cJ0_charAt_5068e 16 = .ok (.aload_n 0, 1) := by decide +kernel
theorem dJ0_charAt_5068e_17 : decode cJ0_charAt_5068e 17 = .ok (.getfield 9, 3) := by decide +kernel
theorem dJ0_charAt_5068e_20 : decode cJ0_charAt_5068e 20 = .ok (.iload_n 1, 1) := by decide +kernel
theorem dJ0_charAt_5068e_21 : decode cJ0_charAt_5068e 21 = .ok (.invokestatic 498, 3) := by decide +kernel
theorem dJ0_charAt_5068e_24 : decode cJ0_charAt_5068e 24 = .ok (.ireturn, 1) := by decide +kernel
theorem dJ0_coder_7d493_0 : decode cJ0_coder_7d493 0 = .ok (.getstatic 38, 3) := by decide +kernel
theorem dJ0_coder_7d493_3 : decode cJ0_coder_7d493 3 = .ok (.ifCond .eq 10, 3) := by decide +kernel
theorem dJ0_coder_7d493_6 : decode cJ0_coder_7d493 6 = .ok (.aload_n 0, 1) := by decide +kernel
theorem dJ0_coder_7d493_7 : decode cJ0_coder_7d493 7 = .ok (.getfield 15, 3) := by decide +kernel
theorem dJ0_coder_7d493_10 : decode cJ0_coder_7d493 10 = .ok (.goto 4, 3) := by decide +kernel
theorem dJ0_coder_7d493_13 : decode cJ0_coder_7d493 13 = .ok (.iconst 1, 1) := by decide +kernel
theorem dJ0_coder_7d493_14 : decode cJ0_coder_7d493 14 = .ok (.ireturn, 1) := by decide +kernel
theorem dJ0_isLatin1_aae02_0 : decode cJ0_isLatin1_aae02 0 = .ok (.getstatic 38, 3) := by decide +kernel
theorem dJ0_isLatin1_aae02_3 : decode cJ0_isLatin1_aae02 3 = .ok (.ifCond .eq 14, 3) := by decide +kernel
theorem dJ0_isLatin1_aae02_6 : decode cJ0_isLatin1_aae02 6 = .ok (.aload_n 0, 1) := by decide +kernel
theorem dJ0_isLatin1_aae02_7 : decode cJ0_isLatin1_aae02 7 = .ok (.getfield 15, 3) := by decide +kernel
theorem dJ0_isLatin1_aae02_10 : decode cJ0_isLatin1_aae02 10 = .ok (.ifCond .ne 7, 3) := by decide +kernel
theorem dJ0_isLatin1_aae02_13 : decode cJ0_isLatin1_aae02 13 = .ok (.iconst 1, 1) := by decide +kernel
theorem dJ0_isLatin1_aae02_14 : decode cJ0_isLatin1_aae02 14 = .ok (.goto 4, 3) := by decide +kernel
theorem dJ0_isLatin1_aae02_17 : decode cJ0_isLatin1_aae02 17 = .ok (.iconst 0, 1) := by decide +kernel
theorem dJ0_isLatin1_aae02_18 : decode cJ0_isLatin1_aae02 18 = .ok (.ireturn, 1) := by decide +kernel
theorem dJ0_checkIndex_df160_0 : decode cJ0_checkIndex_df160 0 = .ok (.iload_n 0, 1) := by decide +kernel
theorem dJ0_checkIndex_df160_1 : decode cJ0_checkIndex_df160 1 = .ok (.iload_n 1, 1) := by decide +kernel
theorem dJ0_checkIndex_df160_2 : decode cJ0_checkIndex_df160 2 = .ok (.getstatic 1053, 3) := by decide +kernel
theorem dJ0_checkIndex_df160_5 : decode cJ0_checkIndex_df160 5 = .ok (.invokestatic 1059, 3) := by decide +kernel
theorem dJ0_checkIndex_df160_8 : decode cJ0_checkIndex_df160 8 = .ok (.pop, 1) := by decide +kernel
theorem dJ0_checkIndex_df160_9 : decode cJ0_checkIndex_df160 9 = .ok (.return_, 1) := by decide +kernel
theorem dJ1_charAt_3b067_0 : decode cJ1_charAt_3b067 0 = .ok (.iload_n 1, 1) := by decide +kernel
theorem dJ1_charAt_3b067_1 : decode cJ1_charAt_3b067 1 = .ok (.aload_n 0, 1) := by decide +kernel
theorem dJ1_charAt_3b067_2 : decode cJ1_charAt_3b067 2 = .ok (.arraylength, 1) := by decide +kernel
theorem dJ1_charAt_3b067_3 : decode cJ1_charAt_3b067 3 = .ok (.invokestatic 9, 3) := by decide +kernel
theorem dJ1_charAt_3b067_6 : decode cJ1_charAt_3b067 6 = .ok (.aload_n 0, 1) := by decide +kernel
theorem dJ1_charAt_3b067_7 : decode cJ1_charAt_3b067 7 = .ok (.iload_n 1, 1) := by decide +kernel
theorem dJ1_charAt_3b067_8 : decode cJ1_charAt_3b067 8 = .ok (.baload, 1) := by decide +kernel
theorem dJ1_charAt_3b067_9 : decode cJ1_charAt_3b067 9 = .ok (.sipush 255, 3) := by decide +kernel
theorem dJ1_charAt_3b067_12 : decode cJ1_charAt_3b067 12 = .ok (.iand, 1) := by decide +kernel
theorem dJ1_charAt_3b067_13 : decode cJ1_charAt_3b067 13 = .ok (.i2c, 1) := by decide +kernel
theorem dJ1_charAt_3b067_14 : decode cJ1_charAt_3b067 14 = .ok (.ireturn, 1) := by decide +kernel
theorem dJ2_getChar_3b067_0 : decode cJ2_getChar_3b067 0 = .ok (.getstatic 44, 3) := by decide +kernel
theorem dJ2_getChar_3b067_3 : decode cJ2_getChar_3b067 3 = .ok (.ifCond .ne 25, 3) := by decide +kernel
theorem dJ2_getChar_3b067_6 : decode cJ2_getChar_3b067 6 = .ok (.iload_n 1, 1) := by decide +kernel
theorem dJ2_getChar_3b067_7 : decode cJ2_getChar_3b067 7 = .ok (.ifCond .lt 11, 3) := by decide +kernel
theorem dJ2_getChar_3b067_10 : decode cJ2_getChar_3b067 10 = .ok (.iload_n 1, 1) := by decide +kernel
theorem dJ2_getChar_3b067_11 : decode cJ2_getChar_3b067 11 = .ok (.aload_n 0, 1) := by decide +kernel
theorem dJ2_getChar_3b067_12 : decode cJ2_getChar_3b067 12 = .ok (.invokestatic 48, 3) := by decide +kernel
theorem dJ2_getChar_3b067_15 : decode cJ2_getChar_3b067 15 = .ok (.if_icmp .lt 13, 3) := by decide +kernel
theorem dJ2_getChar_3b067_18 : decode cJ2_getChar_3b067 18 = .ok (.new 52, 3) := by decide +kernel
theorem dJ2_getChar_3b067_21 : decode cJ2_getChar_3b067 21 = .ok (.dup, 1) := by decide +kernel
theorem dJ2_getChar_3b067_22 : decode cJ2_getChar_3b067 22 = .ok (.ldc 54, 2) := by decide +kernel
theorem dJ2_getChar_3b067_24 : decode cJ2_getChar_3b067 24 = .ok (.invokespecial 56, 3) := by decide +kernel
theorem dJ2_getChar_3b067_27 : decode cJ2_getChar_3b067 27 = .ok (.athrow, 1) := by decide +kernel
theorem dJ2_getChar_3b067_28 : decode cJ2_getChar_3b067 28 = .ok (.iload_n 1, 1) := by decide +kernel
theorem dJ2_getChar_3b067_29 : decode cJ2_getChar_3b067 29 = .ok (.iconst 1, 1) := by decide +kernel
theorem dJ2_getChar_3b067_30 : decode cJ2_getChar_3b067 30 = .ok (.ishl, 1) := by decide +kernel
theorem dJ2_getChar_3b067_31 : decode cJ2_getChar_3b067 31 = .ok (.istore_n 1, 1) := by decide +kernel
theorem dJ2_getChar_3b067_32 : decode cJ2_getChar_3b067 32 = .ok (.aload_n 0, 1) := by decide +kernel
theorem dJ2_getChar_3b067_33 : decode cJ2_getChar_3b067 33 = .ok (.iload_n 1, 1) := by decide +kernel
theorem dJ2_getChar_3b067_34 : decode cJ2_getChar_3b067 34 = .ok (.iinc 1 1, 3) := by decide +kernel
theorem dJ2_getChar_3b067_37 : decode cJ2_getChar_3b067 37 = .ok (.baload, 1) := by decide +kernel
theorem dJ2_getChar_3b067_38 : decode cJ2_getChar_3b067 38 = .ok (.sipush 255, 3) := by decide +kernel
theorem dJ2_getChar_3b067_41 : decode cJ2_getChar_3b067 41 = .ok (.iand, 1) := by decide +kernel
theorem dJ2_getChar_3b067_42 : decode cJ2_getChar_3b067 42 = .ok (.getstatic 59, 3) := by decide +kernel
theorem dJ2_getChar_3b067_45 : decode cJ2_getChar_3b067 45 = .ok (.ishl, 1) := by decide +kernel
theorem dJ2_getChar_3b067_46 : decode cJ2_getChar_3b067 46 = .ok (.aload_n 0, 1) := by decide +kernel
theorem dJ2_getChar_3b067_47 : decode cJ2_getChar_3b067 47 = .ok (.iload_n 1, 1) := by decide +kernel
theorem dJ2_getChar_3b067_48 : decode cJ2_getChar_3b067 48 = .ok (.baload, 1) := by decide +kernel
theorem dJ2_getChar_3b067_49 : decode cJ2_getChar_3b067 49 = .ok (.sipush 255, 3) := by decide +kernel
theorem dJ2_getChar_3b067_52 : decode cJ2_getChar_3b067 52 = .ok (.iand, 1) := by decide +kernel
theorem dJ2_getChar_3b067_53 : decode cJ2_getChar_3b067 53 = .ok (.getstatic 63, 3) := by decide +kernel
theorem dJ2_getChar_3b067_56 : decode cJ2_getChar_3b067 56 = .ok (.ishl, 1) := by decide +kernel
theorem dJ2_getChar_3b067_57 : decode cJ2_getChar_3b067 57 = .ok (.ior, 1) := by decide +kernel
theorem dJ2_getChar_3b067_58 : decode cJ2_getChar_3b067 58 = .ok (.i2c, 1) := by decide +kernel
theorem dJ2_getChar_3b067_59 : decode cJ2_getChar_3b067 59 = .ok (.ireturn, 1) := by decide +kernel
theorem dJ2_length_9d52b_0 : decode cJ2_length_9d52b 0 = .ok (.aload_n 0, 1) := by decide +kernel
theorem dJ2_length_9d52b_1 : decode cJ2_length_9d52b 1 = .ok (.arraylength, 1) := by decide +kernel
theorem dJ2_length_9d52b_2 : decode cJ2_length_9d52b 2 = .ok (.iconst 1, 1) := by decide +kernel
theorem dJ2_length_9d52b_3 : decode cJ2_length_9d52b 3 = .ok (.ishr, 1) := by decide +kernel
theorem dJ2_length_9d52b_4 : decode cJ2_length_9d52b 4 = .ok (.ireturn, 1) := by decide +kernel
theorem dJ2_charAt_3b067_0 : decode cJ2_charAt_3b067 0 = .ok (.iload_n 1, 1) := by decide +kernel
theorem dJ2_charAt_3b067_1 : decode cJ2_charAt_3b067 1 = .ok (.aload_n 0, 1) := by decide +kernel
theorem dJ2_charAt_3b067_2 : decode cJ2_charAt_3b067 2 = .ok (.invokestatic 67, 3) := by decide +kernel
theorem dJ2_charAt_3b067_5 : decode cJ2_charAt_3b067 5 = .ok (.aload_n 0, 1) := by decide +kernel
theorem dJ2_charAt_3b067_6 : decode cJ2_charAt_3b067 6 = .ok (.iload_n 1, 1) := by decide +kernel
theorem dJ2_charAt_3b067_7 : decode cJ2_charAt_3b067 7 = .ok (.invokestatic 71, 3) := by decide +kernel
theorem dJ2_charAt_3b067_10 : decode cJ2_charAt_3b067 10 = .ok (.ireturn, 1) := by decide +kernel
theorem dJ2_checkIndex_2214a_0 : decode cJ2_checkIndex_2214a 0 = .ok (.iload_n 0, 1) := by decide +kernel
theorem dJ2_checkIndex_2214a_1 : decode cJ2_checkIndex_2214a 1 = .ok (.aload_n 1, 1) := by decide +kernel
theorem dJ2_checkIndex_2214a_2 : decode cJ2_checkIndex_2214a 2 = .ok (.invokestatic 48, 3) := by decide +kernel
theorem dJ2_checkIndex_2214a_5 : decode cJ2_checkIndex_2214a 5 = .ok (.invokestatic 414, 3) := by decide +kernel
theorem dJ2_checkIndex_2214a_8 : decode cJ2_checkIndex_2214a 8 = .ok (.return_, 1) := by decide +kernel
theorem dJ7_fill_53178_0 : decode cJ7_fill_53178 0 = .ok (.iconst 0, 1) := by decide +kernel
theorem dJ7_fill_53178_1 : decode cJ7_fill_53178 1 = .ok (.istore_n 2, 1) := by decide +kernel
theorem dJ7_fill_53178_2 : decode cJ7_fill_53178 2 = .ok (.aload_n 0, 1) := by decide +kernel
theorem dJ7_fill_53178_3 : decode cJ7_fill_53178 3 = .ok (.arraylength, 1) := by decide +kernel
theorem dJ7_fill_53178_4 : decode cJ7_fill_53178 4 = .ok (.istore_n 3, 1) := by decide +kernel
theorem dJ7_fill_53178_5 : decode cJ7_fill_53178 5 = .ok (.iload_n 2, 1) := by decide +kernel
theorem dJ7_fill_53178_6 : decode cJ7_fill_53178 6 = .ok (.iload_n 3, 1) := by decide +kernel
theorem dJ7_fill_53178_7 : decode cJ7_fill_53178 7 = .ok (.if_icmp .ge 13, 3) := by decide +kernel
theorem dJ7_fill_53178_10 : decode cJ7_fill_53178 10 = .ok (.aload_n 0, 1) := by decide +kernel
theorem dJ7_fill_53178_11 : decode cJ7_fill_53178 11 = .ok (.iload_n 2, 1) := by decide +kernel
theorem dJ7_fill_53178_12 : decode cJ7_fill_53178 12 = .ok (.iload_n 1, 1) := by decide +kernel
theorem dJ7_fill_53178_13 : decode cJ7_fill_53178 13 = .ok (.iastore, 1) := by decide +kernel
theorem dJ7_fill_53178_14 : decode cJ7_fill_53178 14 = .ok (.iinc 2 1, 3) := by decide +kernel
theorem dJ7_fill_53178_17 : decode cJ7_fill_53178 17 = .ok (.goto (-12), 3) := by decide +kernel
theorem dJ7_fill_53178_20 : decode cJ7_fill_53178 20 = .ok (.return_, 1) := by decide +kernel
theorem dJ3_checkIndex_8e157_0 : decode cJ3_checkIndex_8e157 0 = .ok (.iload_n 0, 1) := by decide +kernel
theorem dJ3_checkIndex_8e157_1 : decode cJ3_checkIndex_8e157 1 = .ok (.ifCond .lt 8, 3) := by decide +kernel
theorem dJ3_checkIndex_8e157_4 : decode cJ3_checkIndex_8e157 4 = .ok (.iload_n 0, 1) := by decide +kernel
theorem dJ3_checkIndex_8e157_5 : decode cJ3_checkIndex_8e157 5 = .ok (.iload_n 1, 1) := by decide +kernel
theorem dJ3_checkIndex_8e157_6 : decode cJ3_checkIndex_8e157 6 = .ok (.if_icmp .lt 10, 3) := by decide +kernel
theorem dJ3_checkIndex_8e157_9 : decode cJ3_checkIndex_8e157 9 = .ok (.aload_n 2, 1) := by decide +kernel
theorem dJ3_checkIndex_8e157_10 : decode cJ3_checkIndex_8e157 10 = .ok (.iload_n 0, 1) := by decide +kernel
theorem dJ3_checkIndex_8e157_11 : decode cJ3_checkIndex_8e157 11 = .ok (.iload_n 1, 1) := by decide +kernel
theorem dJ3_checkIndex_8e157_12 : decode cJ3_checkIndex_8e157 12 = .ok (.invokestatic 95, 3) := by decide +kernel
theorem dJ3_checkIndex_8e157_15 : decode cJ3_checkIndex_8e157 15 = .ok (.athrow, 1) := by decide +kernel
theorem dJ3_checkIndex_8e157_16 : decode cJ3_checkIndex_8e157 16 = .ok (.iload_n 0, 1) := by decide +kernel
theorem dJ3_checkIndex_8e157_17 : decode cJ3_checkIndex_8e157 17 = .ok (.ireturn, 1) := by decide +kernel
theorem dL_idle_0 : decode cL_idle 0 = .ok (.aload_n 2, 1) := by decide +kernel
theorem dL_idle_1 : decode cL_idle 1 = .ok (.iconst 0, 1) := by decide +kernel
theorem dL_idle_2 : decode cL_idle 2 = .ok (.aload_n 0, 1) := by decide +kernel
theorem dL_idle_3 : decode cL_idle 3 = .ok (.iload_n 1, 1) := by decide +kernel
theorem dL_idle_4 : decode cL_idle 4 = .ok (.invokevirtual 7, 3) := by decide +kernel
theorem dL_idle_7 : decode cL_idle 7 = .ok (.i2l, 1) := by decide +kernel
theorem dL_idle_8 : decode cL_idle 8 = .ok (.lastore, 1) := by decide +kernel
theorem dL_idle_9 : decode cL_idle 9 = .ok (.goto 6, 3) := by decide +kernel
theorem dL_idle_12 : decode cL_idle 12 = .ok (.astore_n 3, 1) := by decide +kernel
theorem dL_idle_13 : decode cL_idle 13 = .ok (.iconst 1, 1) := by decide +kernel
theorem dL_idle_14 : decode cL_idle 14 = .ok (.ireturn, 1) := by decide +kernel
theorem dL_idle_15 : decode cL_idle 15 = .ok (.iconst 0, 1) := by decide +kernel
theorem dL_idle_16 : decode cL_idle 16 = .ok (.ireturn, 1) := by decide +kernel
abbrev vwCl : List vw_C := [(RX0, TX0, 5), (RX1, TX1, 6), (RX2, TX2, 16), (RX3, TX3, 10), (RX4, TX4, 32)]
