theorem dX3_answer_5 : decode cX3_answer 5 = .ok (.astore 4, 2) := by decide +kernel
theorem dX3_answer_7 : decode cX3_answer 7 = .ok (.aload 4, 2) := by decide +kernel
theorem dX3_answer_9 : decode cX3_answer 9 = .ok (.ifnull 12, 3) := by decide +kernel
theorem dX3_answer_12 : decode cX3_answer 12 = .ok (.iload_n 3, 1) := by decide +kernel
theorem dX3_answer_13 : decode cX3_answer 13 = .ok (.ifCond .lt 8, 3) := by decide +kernel
theorem dX3_answer_16 : decode cX3_answer 16 = .ok (.iload_n 3, 1) := by decide +kernel
theorem dX3_answer_17 : decode cX3_answer 17 = .ok (.iconst 2, 1) := by decide +kernel
theorem dX3_answer_18 : decode cX3_answer 18 = .ok (.if_icmp .le 9, 3) := by decide +kernel
theorem dX3_answer_21 : decode cX3_answer 21 = .ok (.aload_n 0, 1) := by decide +kernel
theorem dX3_answer_22 : decode cX3_answer 22 = .ok (.iconst 1, 1) := by decide +kernel
theorem dX3_answer_23 : decode cX3_answer 23 = .ok (.invokevirtual 58, 3) := by decide +kernel
theorem dX3_answer_26 : decode cX3_answer 26 = .ok (.ireturn, 1) := by decide +kernel
theorem dX3_answer_27 : decode cX3_answer 27 = .ok (.aload 4, 2) := by decide +kernel
theorem dX3_answer_29 : decode cX3_answer 29 = .ok (.iload_n 2, 1) := by decide +kernel
theorem dX3_answer_30 : decode cX3_answer 30 = .ok (.invokestatic 145, 3) := by decide +kernel
theorem dX3_answer_33 : decode cX3_answer 33 = .ok (.ifCond .ne 9, 3) := by decide +kernel
theorem dX3_answer_36 : decode cX3_answer 36 = .ok (.aload_n 0, 1) := by decide +kernel
theorem dX3_answer_37 : decode cX3_answer 37 = .ok (.iconst 2, 1) := by decide +kernel
theorem dX3_answer_38 : decode cX3_answer 38 = .ok (.invokevirtual 58, 3) := by decide +kernel
theorem dX3_answer_41 : decode cX3_answer 41 = .ok (.ireturn, 1) := by decide +kernel
theorem dX3_answer_42 : decode cX3_answer 42 = .ok (.aload 4, 2) := by decide +kernel
theorem dX3_answer_44 : decode cX3_answer 44 = .ok (.getfield 87, 3) := by decide +kernel
theorem dX3_answer_47 : decode cX3_answer 47 = .ok (.iload_n 2, 1) := by decide +kernel
theorem dX3_answer_48 : decode cX3_answer 48 = .ok (.iconst 0, 1) := by decide +kernel
theorem dX3_answer_49 : decode cX3_answer 49 = .ok (.invokevirtual 149, 3) := by decide +kernel
theorem dX3_answer_52 : decode cX3_answer 52 = .ok (.istore 5, 2) := by decide +kernel
theorem dX3_answer_54 : decode cX3_answer 54 = .ok (.iload_n 3, 1) := by decide +kernel
theorem dX3_answer_55 : decode cX3_answer 55 = .ok (.iconst 2, 1) := by decide +kernel
theorem dX3_answer_56 : decode cX3_answer 56 = .ok (.if_icmp .ne 10, 3) := by decide +kernel
theorem dX3_answer_59 : decode cX3_answer 59 = .ok (.aload_n 0, 1) := by decide +kernel
theorem dX3_answer_60 : decode cX3_answer 60 = .ok (.iload 5, 2) := by decide +kernel
theorem dX3_answer_62 : decode cX3_answer 62 = .ok (.invokevirtual 74, 3) := by decide +kernel
theorem dX3_answer_65 : decode cX3_answer 65 = .ok (.ireturn, 1) := by decide +kernel
theorem dX3_answer_66 : decode cX3_answer 66 = .ok (.aload_n 0, 1) := by decide +kernel
theorem dX3_answer_67 : decode cX3_answer 67 = .ok (.iload_n 3, 1) := by decide +kernel
theorem dX3_answer_68 : decode cX3_answer 68 = .ok (.ifCond .ne 17, 3) := by decide +kernel
theorem dX3_answer_71 : decode cX3_answer 71 = .ok (.aload 4, 2) := by decide +kernel
theorem dX3_answer_73 : decode cX3_answer 73 = .ok (.getfield 87, 3) := by decide +kernel
theorem dX3_answer_76 : decode cX3_answer 76 = .ok (.getfield 106, 3) := by decide +kernel
theorem dX3_answer_79 : decode cX3_answer 79 = .ok (.iload 5, 2) := by decide +kernel
theorem dX3_answer_81 : decode cX3_answer 81 = .ok (.iaload, 1) := by decide +kernel
theorem dX3_answer_82 : decode cX3_answer 82 = .ok (.goto 14, 3) := by decide +kernel
theorem dX3_answer_85 : decode cX3_answer 85 = .ok (.aload 4, 2) := by decide +kernel
theorem dX3_answer_87 : decode cX3_answer 87 = .ok (.getfield 87, 3) := by decide +kernel
theorem dX3_answer_90 : decode cX3_answer 90 = .ok (.iload 5, 2) := by decide +kernel
theorem dX3_answer_92 : decode cX3_answer 92 = .ok (.iload_n 2, 1) := by decide +kernel
theorem dX3_answer_93 : decode cX3_answer 93 = .ok (.invokevirtual 152, 3) := by decide +kernel
theorem dX3_answer_96 : decode cX3_answer 96 = .ok (.invokevirtual 74, 3) := by decide +kernel
theorem dX3_answer_99 : decode cX3_answer 99 = .ok (.ireturn, 1) := by decide +kernel
theorem dX3_quota_0 : decode cX3_quota 0 = .ok (.aload_n 0, 1) := by decide +kernel
theorem dX3_quota_1 : decode cX3_quota 1 = .ok (.iload_n 1, 1) := by decide +kernel
theorem dX3_quota_2 : decode cX3_quota 2 = .ok (.invokevirtual 80, 3) := by decide +kernel
theorem dX3_quota_5 : decode cX3_quota 5 = .ok (.astore 5, 2) := by decide +kernel
theorem dX3_quota_7 : decode cX3_quota 7 = .ok (.aload 5, 2) := by decide +kernel
theorem dX3_quota_9 : decode cX3_quota 9 = .ok (.ifnull 14, 3) := by decide +kernel
theorem dX3_quota_12 : decode cX3_quota 12 = .ok (.iload 4, 2) := by decide +kernel
theorem dX3_quota_14 : decode cX3_quota 14 = .ok (.ifCond .lt 9, 3) := by decide +kernel
theorem dX3_quota_17 : decode cX3_quota 17 = .ok (.iload 4, 2) := by decide +kernel
theorem dX3_quota_19 : decode cX3_quota 19 = .ok (.iconst 2, 1) := by decide +kernel
theorem dX3_quota_20 : decode cX3_quota 20 = .ok (.if_icmp .le 9, 3) := by decide +kernel
theorem dX3_quota_23 : decode cX3_quota 23 = .ok (.aload_n 0, 1) := by decide +kernel
theorem dX3_quota_24 : decode cX3_quota 24 = .ok (.iconst 1, 1) := by decide +kernel
theorem dX3_quota_25 : decode cX3_quota 25 = .ok (.invokevirtual 58, 3) := by decide +kernel
theorem dX3_quota_28 : decode cX3_quota 28 = .ok (.ireturn, 1) := by decide +kernel
theorem dX3_quota_29 : decode cX3_quota 29 = .ok (.iload_n 3, 1) := by decide +kernel
theorem dX3_quota_30 : decode cX3_quota 30 = .ok (.invokestatic 155, 3) := by decide +kernel
theorem dX3_quota_33 : decode cX3_quota 33 = .ok (.ifCond .eq 12, 3) := by decide +kernel
theorem dX3_quota_36 : decode cX3_quota 36 = .ok (.iload_n 2, 1) := by decide +kernel
theorem dX3_quota_37 : decode cX3_quota 37 = .ok (.ifCond .lt 8, 3) := by decide +kernel
theorem dX3_quota_40 : decode cX3_quota 40 = .ok (.iload_n 2, 1) := by decide +kernel
theorem dX3_quota_41 : decode cX3_quota 41 = .ok (.iload_n 3, 1) := by decide +kernel
theorem dX3_quota_42 : decode cX3_quota 42 = .ok (.if_icmp .le 9, 3) := by decide +kernel
theorem dX3_quota_45 : decode cX3_quota 45 = .ok (.aload_n 0, 1) := by decide +kernel
theorem dX3_quota_46 : decode cX3_quota 46 = .ok (.iconst 2, 1) := by decide +kernel
theorem dX3_quota_47 : decode cX3_quota 47 = .ok (.invokevirtual 58, 3) := by decide +kernel
theorem dX3_quota_50 : decode cX3_quota 50 = .ok (.ireturn, 1) := by decide +kernel
theorem dX3_quota_51 : decode cX3_quota 51 = .ok (.aload 5, 2) := by decide +kernel
theorem dX3_quota_53 : decode cX3_quota 53 = .ok (.getfield 84, 3) := by decide +kernel
theorem dX3_quota_56 : decode cX3_quota 56 = .ok (.ifCond .ne 9, 3) := by decide +kernel
theorem dX3_quota_59 : decode cX3_quota 59 = .ok (.aload_n 0, 1) := by decide +kernel
theorem dX3_quota_60 : decode cX3_quota 60 = .ok (.iconst 5, 1) := by decide +kernel
theorem dX3_quota_61 : decode cX3_quota 61 = .ok (.invokevirtual 58, 3) := by decide +kernel
theorem dX3_quota_64 : decode cX3_quota 64 = .ok (.ireturn, 1) := by decide +kernel
theorem dX3_quota_65 : decode cX3_quota 65 = .ok (.aload 5, 2) := by decide +kernel
theorem dX3_quota_67 : decode cX3_quota 67 = .ok (.iload_n 2, 1) := by decide +kernel
theorem dX3_quota_68 : decode cX3_quota 68 = .ok (.iload_n 3, 1) := by decide +kernel
theorem dX3_quota_69 : decode cX3_quota 69 = .ok (.invokevirtual 159, 3) := by decide +kernel
theorem dX3_quota_72 : decode cX3_quota 72 = .ok (.istore 6, 2) := by decide +kernel
theorem dX3_quota_74 : decode cX3_quota 74 = .ok (.iload 4, 2) := by decide +kernel
theorem dX3_quota_76 : decode cX3_quota 76 = .ok (.iconst 2, 1) := by decide +kernel
theorem dX3_quota_77 : decode cX3_quota 77 = .ok (.if_icmp .ne 10, 3) := by decide +kernel
theorem dX3_quota_80 : decode cX3_quota 80 = .ok (.aload_n 0, 1) := by decide +kernel
theorem dX3_quota_81 : decode cX3_quota 81 = .ok (.iload 6, 2) := by decide +kernel
theorem dX3_quota_83 : decode cX3_quota 83 = .ok (.invokevirtual 74, 3) := by decide +kernel
theorem dX3_quota_86 : decode cX3_quota 86 = .ok (.ireturn, 1) := by decide +kernel
theorem dX3_quota_87 : decode cX3_quota 87 = .ok (.aload 5, 2) := by decide +kernel
theorem dX3_quota_89 : decode cX3_quota 89 = .ok (.getfield 87, 3) := by decide +kernel
theorem dX3_quota_92 : decode cX3_quota 92 = .ok (.iload 6, 2) := by decide +kernel
theorem dX3_quota_94 : decode cX3_quota 94 = .ok (.iconst 0, 1) := by decide +kernel
theorem dX3_quota_95 : decode cX3_quota 95 = .ok (.invokevirtual 149, 3) := by decide +kernel
theorem dX3_quota_98 : decode cX3_quota 98 = .ok (.istore 7, 2) := by decide +kernel
theorem dX3_quota_100 : decode cX3_quota 100 = .ok (.aload_n 0, 1) := by decide +kernel
theorem dX3_quota_101 : decode cX3_quota 101 = .ok (.iload 4, 2) := by decide +kernel
theorem dX3_quota_103 : decode cX3_quota 103 = .ok (.ifCond .ne 17, 3) := by decide +kernel
theorem dX3_quota_106 : decode cX3_quota 106 = .ok (.aload 5, 2) := by decide +kernel
theorem dX3_quota_108 : decode cX3_quota 108 = .ok (.getfield 87, 3) := by decide +kernel
theorem dX3_quota_111 : decode cX3_quota 111 = .ok (.getfield 106, 3) := by decide +kernel
theorem dX3_quota_114 : decode cX3_quota 114 = .ok (.iload 7, 2) := by decide +kernel
theorem dX3_quota_116 : decode cX3_quota 116 = .ok (.iaload, 1) := by decide +kernel
theorem dX3_quota_117 : decode cX3_quota 117 = .ok (.goto 15, 3) := by decide +kernel
theorem dX3_quota_120 : decode cX3_quota 120 = .ok (.aload 5, 2) := by decide +kernel
theorem dX3_quota_122 : decode cX3_quota 122 = .ok (.getfield 87, 3) := by decide +kernel
theorem dX3_quota_125 : decode cX3_quota 125 = .ok (.iload 7, 2) := by decide +kernel
theorem dX3_quota_127 : decode cX3_quota 127 = .ok (.iload 6, 2) := by decide +kernel
theorem dX3_quota_129 : decode cX3_quota 129 = .ok (.invokevirtual 152, 3) := by decide +kernel
theorem dX3_quota_132 : decode cX3_quota 132 = .ok (.invokevirtual 74, 3) := by decide +kernel
theorem dX3_quota_135 : decode cX3_quota 135 = .ok (.ireturn, 1) := by decide +kernel
theorem dX3_rank_0 : decode cX3_rank 0 = .ok (.aload_n 0, 1) := by decide +kernel
theorem dX3_rank_1 : decode cX3_rank 1 = .ok (.iload_n 1, 1) := by decide +kernel
theorem dX3_rank_2 : decode cX3_rank 2 = .ok (.invokevirtual 80, 3) := by decide +kernel
theorem dX3_rank_5 : decode cX3_rank 5 = .ok (.astore 4, 2) := by decide +kernel
theorem dX3_rank_7 : decode cX3_rank 7 = .ok (.aload 4, 2) := by decide +kernel
theorem dX3_rank_9 : decode cX3_rank 9 = .ok (.ifnonnull 9, 3) := by decide +kernel
theorem dX3_rank_12 : decode cX3_rank 12 = .ok (.aload_n 0, 1) := by decide +kernel
theorem dX3_rank_13 : decode cX3_rank 13 = .ok (.iconst 1, 1) := by decide +kernel
theorem dX3_rank_14 : decode cX3_rank 14 = .ok (.invokevirtual 58, 3) := by decide +kernel
theorem dX3_rank_17 : decode cX3_rank 17 = .ok (.ireturn, 1) := by decide +kernel
theorem dX3_rank_18 : decode cX3_rank 18 = .ok (.iload_n 2, 1) := by decide +kernel
theorem dX3_rank_19 : decode cX3_rank 19 = .ok (.invokestatic 162, 3) := by decide +kernel
theorem dX3_rank_22 : decode cX3_rank 22 = .ok (.ifCond .ne 9, 3) := by decide +kernel
theorem dX3_rank_25 : decode cX3_rank 25 = .ok (.aload_n 0, 1) := by decide +kernel
theorem dX3_rank_26 : decode cX3_rank 26 = .ok (.iconst 2, 1) := by decide +kernel
theorem dX3_rank_27 : decode cX3_rank 27 = .ok (.invokevirtual 58, 3) := by decide +kernel
theorem dX3_rank_30 : decode cX3_rank 30 = .ok (.ireturn, 1) := by decide +kernel
theorem dX3_rank_31 : decode cX3_rank 31 = .ok (.aload_n 0, 1) := by decide +kernel
theorem dX3_rank_32 : decode cX3_rank 32 = .ok (.iload_n 3, 1) := by decide +kernel
theorem dX3_rank_33 : decode cX3_rank 33 = .ok (.ifCond .eq 15, 3) := by decide +kernel
theorem dX3_rank_36 : decode cX3_rank 36 = .ok (.aload 4, 2) := by decide +kernel
theorem dX3_rank_38 : decode cX3_rank 38 = .ok (.getfield 87, 3) := by decide +kernel
theorem dX3_rank_41 : decode cX3_rank 41 = .ok (.iload_n 2, 1) := by decide +kernel
theorem dX3_rank_42 : decode cX3_rank 42 = .ok (.invokevirtual 165, 3) := by decide +kernel
theorem dX3_rank_45 : decode cX3_rank 45 = .ok (.goto 12, 3) := by decide +kernel
theorem dX3_rank_48 : decode cX3_rank 48 = .ok (.aload 4, 2) := by decide +kernel
theorem dX3_rank_50 : decode cX3_rank 50 = .ok (.getfield 87, 3) := by decide +kernel
theorem dX3_rank_53 : decode cX3_rank 53 = .ok (.iload_n 2, 1) := by decide +kernel
theorem dX3_rank_54 : decode cX3_rank 54 = .ok (.invokevirtual 168, 3) := by decide +kernel
theorem dX3_rank_57 : decode cX3_rank 57 = .ok (.invokevirtual 74, 3) := by decide +kernel
theorem dX3_rank_60 : decode cX3_rank 60 = .ok (.ireturn, 1) := by decide +kernel
theorem dX3_between_0 : decode cX3_between 0 = .ok (.aload_n 0, 1) := by decide +kernel
theorem dX3_between_1 : decode cX3_between 1 = .ok (.iload_n 1, 1) := by decide +kernel
theorem dX3_between_2 : decode cX3_between 2 = .ok (.invokevirtual 80, 3) := by decide +kernel
theorem dX3_between_5 : decode cX3_between 5 = .ok (.astore 5, 2) := by decide +kernel
theorem dX3_between_7 : decode cX3_between 7 = .ok (.aload 5, 2) := by decide +kernel
theorem dX3_between_9 : decode cX3_between 9 = .ok (.ifnonnull 9, 3) := by decide +kernel
theorem dX3_between_12 : decode cX3_between 12 = .ok (.aload_n 0, 1) := by decide +kernel
theorem dX3_between_13 : decode cX3_between 13 = .ok (.iconst 1, 1) := by decide +kernel
theorem dX3_between_14 : decode cX3_between 14 = .ok (.invokevirtual 58, 3) := by decide +kernel
theorem dX3_between_17 : decode cX3_between 17 = .ok (.ireturn, 1) := by decide +kernel
theorem dX3_between_18 : decode cX3_between 18 = .ok (.iload_n 2, 1) := by decide +kernel
theorem dX3_between_19 : decode cX3_between 19 = .ok (.invokestatic 162, 3) := by decide +kernel
theorem dX3_between_22 : decode cX3_between 22 = .ok (.ifCond .eq 15, 3) := by decide +kernel
theorem dX3_between_25 : decode cX3_between 25 = .ok (.iload_n 3, 1) := by decide +kernel
theorem dX3_between_26 : decode cX3_between 26 = .ok (.invokestatic 162, 3) := by decide +kernel
theorem dX3_between_29 : decode cX3_between 29 = .ok (.ifCond .eq 8, 3) := by decide +kernel
theorem dX3_between_32 : decode cX3_between 32 = .ok (.iload_n 3, 1) := by decide +kernel
theorem dX3_between_33 : decode cX3_between 33 = .ok (.iload_n 2, 1) := by decide +kernel
theorem dX3_between_34 : decode cX3_between 34 = .ok (.if_icmp .ge 9, 3) := by decide +kernel
theorem dX3_between_37 : decode cX3_between 37 = .ok (.aload_n 0, 1) := by decide +kernel
theorem dX3_between_38 : decode cX3_between 38 = .ok (.iconst 2, 1) := by decide +kernel
theorem dX3_between_39 : decode cX3_between 39 = .ok (.invokevirtual 58, 3) := by decide +kernel
theorem dX3_between_42 : decode cX3_between 42 = .ok (.ireturn, 1) := by decide +kernel
theorem dX3_between_43 : decode cX3_between 43 = .ok (.aload_n 0, 1) := by decide +kernel
theorem dX3_between_44 : decode cX3_between 44 = .ok (.aload 5, 2) := by decide +kernel
theorem dX3_between_46 : decode cX3_between 46 = .ok (.getfield 87, 3) := by decide +kernel
theorem dX3_between_49 : decode cX3_between 49 = .ok (.iload_n 2, 1) := by decide +kernel
theorem dX3_between_50 : decode cX3_between 50 = .ok (.iconst 1, 1) := by decide +kernel
theorem dX3_between_51 : decode cX3_between 51 = .ok (.isub, 1) := by decide +kernel
theorem dX3_between_52 : decode cX3_between 52 = .ok (.iload_n 3, 1) := by decide +kernel
theorem dX3_between_53 : decode cX3_between 53 = .ok (.iload 4, 2) := by decide +kernel
theorem dX3_between_55 : decode cX3_between 55 = .ok (.invokevirtual 171, 3) := by decide +kernel
theorem dX3_between_58 : decode cX3_between 58 = .ok (.invokevirtual 74, 3) := by decide +kernel
theorem dX3_between_61 : decode cX3_between 61 = .ok (.ireturn, 1) := by decide +kernel
theorem dX3_exact_0 : decode cX3_exact 0 = .ok (.aload_n 0, 1) := by decide +kernel
theorem dX3_exact_1 : decode cX3_exact 1 = .ok (.iload_n 1, 1) := by decide +kernel
theorem dX3_exact_2 : decode cX3_exact 2 = .ok (.invokevirtual 80, 3) := by decide +kernel
theorem dX3_exact_5 : decode cX3_exact 5 = .ok (.astore_n 2, 1) := by decide +kernel
theorem dX3_exact_6 : decode cX3_exact 6 = .ok (.aload_n 2, 1) := by decide +kernel
theorem dX3_exact_7 : decode cX3_exact 7 = .ok (.ifnonnull 9, 3) := by decide +kernel
theorem dX3_exact_10 : decode cX3_exact 10 = .ok (.aload_n 0, 1) := by decide +kernel
theorem dX3_exact_11 : decode cX3_exact 11 = .ok (.iconst 1, 1) := by decide +kernel
theorem dX3_exact_12 : decode cX3_exact 12 = .ok (.invokevirtual 58, 3) := by decide +kernel
theorem dX3_exact_15 : decode cX3_exact 15 = .ok (.ireturn, 1) := by decide +kernel
theorem dX3_exact_16 : decode cX3_exact 16 = .ok (.aload_n 0, 1) := by decide +kernel
theorem dX3_exact_17 : decode cX3_exact 17 = .ok (.aload_n 2, 1) := by decide +kernel
theorem dX3_exact_18 : decode cX3_exact 18 = .ok (.getfield 87, 3) := by decide +kernel
theorem dX3_exact_21 : decode cX3_exact 21 = .ok (.invokevirtual 175, 3) := by decide +kernel
theorem dX3_exact_24 : decode cX3_exact 24 = .ok (.invokevirtual 74, 3) := by decide +kernel
theorem dX3_exact_27 : decode cX3_exact 27 = .ok (.ireturn, 1) := by decide +kernel
theorem dX3_worst_0 : decode cX3_worst 0 = .ok (.aload_n 0, 1) := by decide +kernel
theorem dX3_worst_1 : decode cX3_worst 1 = .ok (.iload_n 1, 1) := by decide +kernel
theorem dX3_worst_2 : decode cX3_worst 2 = .ok (.invokevirtual 80, 3) := by decide +kernel
theorem dX3_worst_5 : decode cX3_worst 5 = .ok (.astore_n 2, 1) := by decide +kernel
theorem dX3_worst_6 : decode cX3_worst 6 = .ok (.aload_n 2, 1) := by decide +kernel
theorem dX3_worst_7 : decode cX3_worst 7 = .ok (.ifnonnull 9, 3) := by decide +kernel
theorem dX3_worst_10 : decode cX3_worst 10 = .ok (.aload_n 0, 1) := by decide +kernel
theorem dX3_worst_11 : decode cX3_worst 11 = .ok (.iconst 1, 1) := by decide +kernel
theorem dX3_worst_12 : decode cX3_worst 12 = .ok (.invokevirtual 58, 3) := by decide +kernel
theorem dX3_worst_15 : decode cX3_worst 15 = .ok (.ireturn, 1) := by decide +kernel
theorem dX3_worst_16 : decode cX3_worst 16 = .ok (.aload_n 0, 1) := by decide +kernel
theorem dX3_worst_17 : decode cX3_worst 17 = .ok (.aload_n 2, 1) := by decide +kernel
theorem dX3_worst_18 : decode cX3_worst 18 = .ok (.getfield 84, 3) := by decide +kernel
theorem dX3_worst_21 : decode cX3_worst 21 = .ok (.ifCond .ne 8, 3) := by decide +kernel
theorem dX3_worst_24 : decode cX3_worst 24 = .ok (.bipush (-2), 2) := by decide +kernel
theorem dX3_worst_26 : decode cX3_worst 26 = .ok (.goto 10, 3) := by decide +kernel
theorem dX3_worst_29 : decode cX3_worst 29 = .ok (.aload_n 2, 1) := by decide +kernel
theorem dX3_worst_30 : decode cX3_worst 30 = .ok (.getfield 87, 3) := by decide +kernel
theorem dX3_worst_33 : decode cX3_worst 33 = .ok (.invokevirtual 178, 3) := by decide +kernel
theorem dX3_worst_36 : decode cX3_worst 36 = .ok (.invokevirtual 74, 3) := by decide +kernel
theorem dX3_worst_39 : decode cX3_worst 39 = .ok (.ireturn, 1) := by decide +kernel
theorem dX3_bounds_0 : decode cX3_bounds 0 = .ok (.aload_n 0, 1) := by decide +kernel
theorem dX3_bounds_1 : decode cX3_bounds 1 = .ok (.iload_n 1, 1) := by decide +kernel
theorem dX3_bounds_2 : decode cX3_bounds 2 = .ok (.invokevirtual 80, 3) := by decide +kernel
theorem dX3_bounds_5 : decode cX3_bounds 5 = .ok (.astore 4, 2) := by decide +kernel
theorem dX3_bounds_7 : decode cX3_bounds 7 = .ok (.aload 4, 2) := by decide +kernel
theorem dX3_bounds_9 : decode cX3_bounds 9 = .ok (.ifnull 12, 3) := by decide +kernel
theorem dX3_bounds_12 : decode cX3_bounds 12 = .ok (.iload_n 3, 1) := by decide +kernel
theorem dX3_bounds_13 : decode cX3_bounds 13 = .ok (.ifCond .lt 8, 3) := by decide +kernel
theorem dX3_bounds_16 : decode cX3_bounds 16 = .ok (.iload_n 3, 1) := by decide +kernel
theorem dX3_bounds_17 : decode cX3_bounds 17 = .ok (.iconst 1, 1) := by decide +kernel
theorem dX3_bounds_18 : decode cX3_bounds 18 = .ok (.if_icmp .le 9, 3) := by decide +kernel
theorem dX3_bounds_21 : decode cX3_bounds 21 = .ok (.aload_n 0, 1) := by decide +kernel
theorem dX3_bounds_22 : decode cX3_bounds 22 = .ok (.iconst 1, 1) := by decide +kernel
theorem dX3_bounds_23 : decode cX3_bounds 23 = .ok (.invokevirtual 58, 3) := by decide +kernel
theorem dX3_bounds_26 : decode cX3_bounds 26 = .ok (.ireturn, 1) := by decide +kernel
theorem dX3_bounds_27 : decode cX3_bounds 27 = .ok (.aload 4, 2) := by decide +kernel
theorem dX3_bounds_29 : decode cX3_bounds 29 = .ok (.iload_n 2, 1) := by decide +kernel
theorem dX3_bounds_30 : decode cX3_bounds 30 = .ok (.invokestatic 145, 3) := by decide +kernel
theorem dX3_bounds_33 : decode cX3_bounds 33 = .ok (.ifCond .ne 9, 3) := by decide +kernel
theorem dX3_bounds_36 : decode cX3_bounds 36 = .ok (.aload_n 0, 1) := by decide +kernel
theorem dX3_bounds_37 : decode cX3_bounds 37 = .ok (.iconst 2, 1) := by decide +kernel
theorem dX3_bounds_38 : decode cX3_bounds 38 = .ok (.invokevirtual 58, 3) := by decide +kernel
theorem dX3_bounds_41 : decode cX3_bounds 41 = .ok (.ireturn, 1) := by decide +kernel
theorem dX3_bounds_42 : decode cX3_bounds 42 = .ok (.iload_n 3, 1) := by decide +kernel
theorem dX3_bounds_43 : decode cX3_bounds 43 = .ok (.ifCond .ne 16, 3) := by decide +kernel
theorem dX3_bounds_46 : decode cX3_bounds 46 = .ok (.aload 4, 2) := by decide +kernel
theorem dX3_bounds_48 : decode cX3_bounds 48 = .ok (.getfield 87, 3) := by decide +kernel
theorem dX3_bounds_51 : decode cX3_bounds 51 = .ok (.iload_n 2, 1) := by decide +kernel
theorem dX3_bounds_52 : decode cX3_bounds 52 = .ok (.iconst 0, 1) := by decide +kernel
theorem dX3_bounds_53 : decode cX3_bounds 53 = .ok (.invokevirtual 181, 3) := by decide +kernel
theorem dX3_bounds_56 : decode cX3_bounds 56 = .ok (.goto 13, 3) := by decide +kernel
theorem dX3_bounds_59 : decode cX3_bounds 59 = .ok (.aload 4, 2) := by decide +kernel
theorem dX3_bounds_61 : decode cX3_bounds 61 = .ok (.getfield 87, 3) := by decide +kernel
theorem dX3_bounds_64 : decode cX3_bounds 64 = .ok (.iload_n 2, 1) := by decide +kernel
theorem dX3_bounds_65 : decode cX3_bounds 65 = .ok (.iconst 0, 1) := by decide +kernel
theorem dX3_bounds_66 : decode cX3_bounds 66 = .ok (.invokevirtual 184, 3) := by decide +kernel
theorem dX3_bounds_69 : decode cX3_bounds 69 = .ok (.istore 5, 2) := by decide +kernel
theorem dX3_bounds_71 : decode cX3_bounds 71 = .ok (.aload_n 0, 1) := by decide +kernel
theorem dX3_bounds_72 : decode cX3_bounds 72 = .ok (.aload 4, 2) := by decide +kernel
theorem dX3_bounds_74 : decode cX3_bounds 74 = .ok (.getfield 87, 3) := by decide +kernel
theorem dX3_bounds_77 : decode cX3_bounds 77 = .ok (.getfield 106, 3) := by decide +kernel
theorem dX3_bounds_80 : decode cX3_bounds 80 = .ok (.iload 5, 2) := by decide +kernel
theorem dX3_bounds_82 : decode cX3_bounds 82 = .ok (.iaload, 1) := by decide +kernel
theorem dX3_bounds_83 : decode cX3_bounds 83 = .ok (.invokevirtual 74, 3) := by decide +kernel
theorem dX3_bounds_86 : decode cX3_bounds 86 = .ok (.ireturn, 1) := by decide +kernel
theorem dX3_unsure_0 : decode cX3_unsure 0 = .ok (.aload_n 0, 1) := by decide +kernel
theorem dX3_unsure_1 : decode cX3_unsure 1 = .ok (.iload_n 1, 1) := by decide +kernel
theorem dX3_unsure_2 : decode cX3_unsure 2 = .ok (.invokevirtual 80, 3) := by decide +kernel
theorem dX3_unsure_5 : decode cX3_unsure 5 = .ok (.astore_n 3, 1) := by decide +kernel
theorem dX3_unsure_6 : decode cX3_unsure 6 = .ok (.aload_n 3, 1) := by decide +kernel
theorem dX3_unsure_7 : decode cX3_unsure 7 = .ok (.ifnull 12, 3) := by decide +kernel
theorem dX3_unsure_10 : decode cX3_unsure 10 = .ok (.iload_n 2, 1) := by decide +kernel
theorem dX3_unsure_11 : decode cX3_unsure 11 = .ok (.ifCond .lt 8, 3) := by decide +kernel
theorem dX3_unsure_14 : decode cX3_unsure 14 = .ok (.iload_n 2, 1) := by decide +kernel
theorem dX3_unsure_15 : decode cX3_unsure 15 = .ok (.iconst 1, 1) := by decide +kernel
theorem dX3_unsure_16 : decode cX3_unsure 16 = .ok (.if_icmp .le 9, 3) := by decide +kernel
theorem dX3_unsure_19 : decode cX3_unsure 19 = .ok (.aload_n 0, 1) := by decide +kernel
theorem dX3_unsure_20 : decode cX3_unsure 20 = .ok (.iconst 1, 1) := by decide +kernel
theorem dX3_unsure_21 : decode cX3_unsure 21 = .ok (.invokevirtual 58, 3) := by decide +kernel
theorem dX3_unsure_24 : decode cX3_unsure 24 = .ok (.ireturn, 1) := by decide +kernel
theorem dX3_unsure_25 : decode cX3_unsure 25 = .ok (.aload_n 0, 1) := by decide +kernel
theorem dX3_unsure_26 : decode cX3_unsure 26 = .ok (.aload_n 3, 1) := by decide +kernel
theorem dX3_unsure_27 : decode cX3_unsure 27 = .ok (.getfield 87, 3) := by decide +kernel
theorem dX3_unsure_30 : decode cX3_unsure 30 = .ok (.iload_n 2, 1) := by decide +kernel
theorem dX3_unsure_31 : decode cX3_unsure 31 = .ok (.iconst 1, 1) := by decide +kernel
theorem dX3_unsure_32 : decode cX3_unsure 32 = .ok (.if_icmp .ne 7, 3) := by decide +kernel
theorem dX3_unsure_35 : decode cX3_unsure 35 = .ok (.iconst 1, 1) := by decide +kernel
theorem dX3_unsure_36 : decode cX3_unsure 36 = .ok (.goto 4, 3) := by decide +kernel
theorem dX3_unsure_39 : decode cX3_unsure 39 = .ok (.iconst 0, 1) := by decide +kernel
theorem dX3_unsure_40 : decode cX3_unsure 40 = .ok (.invokevirtual 187, 3) := by decide +kernel
theorem dX3_unsure_43 : decode cX3_unsure 43 = .ok (.invokevirtual 74, 3) := by decide +kernel
theorem dX3_unsure_46 : decode cX3_unsure 46 = .ok (.ireturn, 1) := by decide +kernel
theorem dX3_total_0 : decode cX3_total 0 = .ok (.aload_n 0, 1) := by decide +kernel
theorem dX3_total_1 : decode cX3_total 1 = .ok (.iload_n 1, 1) := by decide +kernel
theorem dX3_total_2 : decode cX3_total 2 = .ok (.invokevirtual 80, 3) := by decide +kernel
theorem dX3_total_5 : decode cX3_total 5 = .ok (.astore_n 3, 1) := by decide +kernel
theorem dX3_total_6 : decode cX3_total 6 = .ok (.aload_n 3, 1) := by decide +kernel
theorem dX3_total_7 : decode cX3_total 7 = .ok (.ifnonnull 9, 3) := by decide +kernel
theorem dX3_total_10 : decode cX3_total 10 = .ok (.aload_n 0, 1) := by decide +kernel
theorem dX3_total_11 : decode cX3_total 11 = .ok (.iconst 1, 1) := by decide +kernel
theorem dX3_total_12 : decode cX3_total 12 = .ok (.invokevirtual 58, 3) := by decide +kernel
theorem dX3_total_15 : decode cX3_total 15 = .ok (.ireturn, 1) := by decide +kernel
theorem dX3_total_16 : decode cX3_total 16 = .ok (.aload_n 0, 1) := by decide +kernel
theorem dX3_total_17 : decode cX3_total 17 = .ok (.aload_n 3, 1) := by decide +kernel
theorem dX3_total_18 : decode cX3_total 18 = .ok (.getfield 87, 3) := by decide +kernel
theorem dX3_total_21 : decode cX3_total 21 = .ok (.iload_n 2, 1) := by decide +kernel
theorem dX3_total_22 : decode cX3_total 22 = .ok (.invokevirtual 191, 3) := by decide +kernel
theorem dX3_total_25 : decode cX3_total 25 = .ok (.invokevirtual 74, 3) := by decide +kernel
theorem dX3_total_28 : decode cX3_total 28 = .ok (.ireturn, 1) := by decide +kernel
theorem dX3_bands_0 : decode cX3_bands 0 = .ok (.aload_n 0, 1) := by decide +kernel
theorem dX3_bands_1 : decode cX3_bands 1 = .ok (.iload_n 1, 1) := by decide +kernel
theorem dX3_bands_2 : decode cX3_bands 2 = .ok (.invokevirtual 80, 3) := by decide +kernel
theorem dX3_bands_5 : decode cX3_bands 5 = .ok (.astore_n 3, 1) := by decide +kernel
theorem dX3_bands_6 : decode cX3_bands 6 = .ok (.aload_n 3, 1) := by decide +kernel
theorem dX3_bands_7 : decode cX3_bands 7 = .ok (.ifnonnull 9, 3) := by decide +kernel
theorem dX3_bands_10 : decode cX3_bands 10 = .ok (.aload_n 0, 1) := by decide +kernel
theorem dX3_bands_11 : decode cX3_bands 11 = .ok (.iconst 1, 1) := by decide +kernel
theorem dX3_bands_12 : decode cX3_bands 12 = .ok (.invokevirtual 58, 3) := by decide +kernel
theorem dX3_bands_15 : decode cX3_bands 15 = .ok (.ireturn, 1) := by decide +kernel
theorem dX3_bands_16 : decode cX3_bands 16 = .ok (.iload_n 2, 1) := by decide +kernel
theorem dX3_bands_17 : decode cX3_bands 17 = .ok (.ifCond .lt 9, 3) := by decide +kernel
theorem dX3_bands_20 : decode cX3_bands 20 = .ok (.iload_n 2, 1) := by decide +kernel
theorem dX3_bands_21 : decode cX3_bands 21 = .ok (.bipush 12, 2) := by decide +kernel
theorem dX3_bands_23 : decode cX3_bands 23 = .ok (.if_icmp .le 9, 3) := by decide +kernel
theorem dX3_bands_26 : decode cX3_bands 26 = .ok (.aload_n 0, 1) := by decide +kernel
theorem dX3_bands_27 : decode cX3_bands 27 = .ok (.iconst 2, 1) := by decide +kernel
theorem dX3_bands_28 : decode cX3_bands 28 = .ok (.invokevirtual 58, 3) := by decide +kernel
theorem dX3_bands_31 : decode cX3_bands 31 = .ok (.ireturn, 1) := by decide +kernel
theorem dX3_bands_32 : decode cX3_bands 32 = .ok (.aload_n 0, 1) := by decide +kernel
theorem dX3_bands_33 : decode cX3_bands 33 = .ok (.aload_n 3, 1) := by decide +kernel
theorem dX3_bands_34 : decode cX3_bands 34 = .ok (.getfield 87, 3) := by decide +kernel
theorem dX3_bands_37 : decode cX3_bands 37 = .ok (.iload_n 2, 1) := by decide +kernel
theorem dX3_bands_38 : decode cX3_bands 38 = .ok (.aload_n 3, 1) := by decide +kernel
theorem dX3_bands_39 : decode cX3_bands 39 = .ok (.getfield 84, 3) := by decide +kernel
theorem dX3_bands_42 : decode cX3_bands 42 = .ok (.aload_n 0, 1) := by decide +kernel
theorem dX3_bands_43 : decode cX3_bands 43 = .ok (.getfield 26, 3) := by decide +kernel
theorem dX3_bands_46 : decode cX3_bands 46 = .ok (.invokestatic 93, 3) := by decide +kernel
theorem dX3_bands_49 : decode cX3_bands 49 = .ok (.invokevirtual 194, 3) := by decide +kernel
theorem dX3_bands_52 : decode cX3_bands 52 = .ok (.invokevirtual 74, 3) := by decide +kernel
theorem dX3_bands_55 : decode cX3_bands 55 = .ok (.ireturn, 1) := by decide +kernel
theorem dX3_bar_0 : decode cX3_bar 0 = .ok (.aload_n 0, 1) := by decide +kernel
theorem dX3_bar_1 : decode cX3_bar 1 = .ok (.iload_n 1, 1) := by decide +kernel
theorem dX3_bar_2 : decode cX3_bar 2 = .ok (.invokevirtual 80, 3) := by decide +kernel
theorem dX3_bar_5 : decode cX3_bar 5 = .ok (.astore 5, 2) := by decide +kernel
theorem dX3_bar_7 : decode cX3_bar 7 = .ok (.aload 5, 2) := by decide +kernel
theorem dX3_bar_9 : decode cX3_bar 9 = .ok (.ifnonnull 9, 3) := by decide +kernel
theorem dX3_bar_12 : decode cX3_bar 12 = .ok (.aload_n 0, 1) := by decide +kernel
theorem dX3_bar_13 : decode cX3_bar 13 = .ok (.iconst 1, 1) := by decide +kernel
theorem dX3_bar_14 : decode cX3_bar 14 = .ok (.invokevirtual 58, 3) := by decide +kernel
theorem dX3_bar_17 : decode cX3_bar 17 = .ok (.ireturn, 1) := by decide +kernel
theorem dX3_bar_18 : decode cX3_bar 18 = .ok (.iload_n 3, 1) := by decide +kernel
theorem dX3_bar_19 : decode cX3_bar 19 = .ok (.invokestatic 155, 3) := by decide +kernel
theorem dX3_bar_22 : decode cX3_bar 22 = .ok (.ifCond .eq 12, 3) := by decide +kernel
theorem dX3_bar_25 : decode cX3_bar 25 = .ok (.iload_n 2, 1) := by decide +kernel
theorem dX3_bar_26 : decode cX3_bar 26 = .ok (.ifCond .lt 8, 3) := by decide +kernel
theorem dX3_bar_29 : decode cX3_bar 29 = .ok (.iload_n 2, 1) := by decide +kernel
theorem dX3_bar_30 : decode cX3_bar 30 = .ok (.iload_n 3, 1) := by decide +kernel
theorem dX3_bar_31 : decode cX3_bar 31 = .ok (.if_icmp .lt 9, 3) := by decide +kernel
theorem dX3_bar_34 : decode cX3_bar 34 = .ok (.aload_n 0, 1) := by decide +kernel
theorem dX3_bar_35 : decode cX3_bar 35 = .ok (.iconst 2, 1) := by decide +kernel
theorem dX3_bar_36 : decode cX3_bar 36 = .ok (.invokevirtual 58, 3) := by decide +kernel
theorem dX3_bar_39 : decode cX3_bar 39 = .ok (.ireturn, 1) := by decide +kernel
theorem dX3_bar_40 : decode cX3_bar 40 = .ok (.aload 5, 2) := by decide +kernel
theorem dX3_bar_42 : decode cX3_bar 42 = .ok (.getfield 84, 3) := by decide +kernel
theorem dX3_bar_45 : decode cX3_bar 45 = .ok (.ifCond .ne 9, 3) := by decide +kernel
theorem dX3_bar_48 : decode cX3_bar 48 = .ok (.aload_n 0, 1) := by decide +kernel
theorem dX3_bar_49 : decode cX3_bar 49 = .ok (.iconst 5, 1) := by decide +kernel
theorem dX3_bar_50 : decode cX3_bar 50 = .ok (.invokevirtual 58, 3) := by decide +kernel
theorem dX3_bar_53 : decode cX3_bar 53 = .ok (.ireturn, 1) := by decide +kernel
theorem dX3_bar_54 : decode cX3_bar 54 = .ok (.aload 5, 2) := by decide +kernel
theorem dX3_bar_56 : decode cX3_bar 56 = .ok (.getfield 87, 3) := by decide +kernel
theorem dX3_bar_59 : decode cX3_bar 59 = .ok (.aload 5, 2) := by decide +kernel
theorem dX3_bar_61 : decode cX3_bar 61 = .ok (.iload_n 2, 1) := by decide +kernel
theorem dX3_bar_62 : decode cX3_bar 62 = .ok (.iload_n 3, 1) := by decide +kernel
theorem dX3_bar_63 : decode cX3_bar 63 = .ok (.invokevirtual 159, 3) := by decide +kernel
theorem dX3_bar_66 : decode cX3_bar 66 = .ok (.iconst 0, 1) := by decide +kernel
theorem dX3_bar_67 : decode cX3_bar 67 = .ok (.invokevirtual 149, 3) := by decide +kernel
theorem dX3_bar_70 : decode cX3_bar 70 = .ok (.istore 6, 2) := by decide +kernel
theorem dX3_bar_72 : decode cX3_bar 72 = .ok (.aload 5, 2) := by decide +kernel
theorem dX3_bar_74 : decode cX3_bar 74 = .ok (.getfield 87, 3) := by decide +kernel
theorem dX3_bar_77 : decode cX3_bar 77 = .ok (.aload 5, 2) := by decide +kernel
theorem dX3_bar_79 : decode cX3_bar 79 = .ok (.iload_n 2, 1) := by decide +kernel
theorem dX3_bar_80 : decode cX3_bar 80 = .ok (.iconst 1, 1) := by decide +kernel
theorem dX3_bar_81 : decode cX3_bar 81 = .ok (.iadd, 1) := by decide +kernel
theorem dX3_bar_82 : decode cX3_bar 82 = .ok (.iload_n 3, 1) := by decide +kernel
theorem dX3_bar_83 : decode cX3_bar 83 = .ok (.invokevirtual 159, 3) := by decide +kernel
theorem dX3_bar_86 : decode cX3_bar 86 = .ok (.iload 6, 2) := by decide +kernel
theorem dX3_bar_88 : decode cX3_bar 88 = .ok (.invokevirtual 149, 3) := by decide +kernel
theorem dX3_bar_91 : decode cX3_bar 91 = .ok (.istore 7, 2) := by decide +kernel
theorem dX3_bar_93 : decode cX3_bar 93 = .ok (.aload_n 0, 1) := by decide +kernel
theorem dX3_bar_94 : decode cX3_bar 94 = .ok (.aload 5, 2) := by decide +kernel
theorem dX3_bar_96 : decode cX3_bar 96 = .ok (.getfield 87, 3) := by decide +kernel
theorem dX3_bar_99 : decode cX3_bar 99 = .ok (.aload 5, 2) := by decide +kernel
theorem dX3_bar_101 : decode cX3_bar 101 = .ok (.getfield 87, 3) := by decide +kernel
theorem dX3_bar_104 : decode cX3_bar 104 = .ok (.getfield 106, 3) := by decide +kernel
theorem dX3_bar_107 : decode cX3_bar 107 = .ok (.iload 6, 2) := by decide +kernel
theorem dX3_bar_109 : decode cX3_bar 109 = .ok (.iaload, 1) := by decide +kernel
theorem dX3_bar_110 : decode cX3_bar 110 = .ok (.aload 5, 2) := by decide +kernel
theorem dX3_bar_112 : decode cX3_bar 112 = .ok (.getfield 87, 3) := by decide +kernel
theorem dX3_bar_115 : decode cX3_bar 115 = .ok (.getfield 106, 3) := by decide +kernel
theorem dX3_bar_118 : decode cX3_bar 118 = .ok (.iload 7, 2) := by decide +kernel
theorem dX3_bar_120 : decode cX3_bar 120 = .ok (.iaload, 1) := by decide +kernel
theorem dX3_bar_121 : decode cX3_bar 121 = .ok (.iload 4, 2) := by decide +kernel
theorem dX3_bar_123 : decode cX3_bar 123 = .ok (.invokevirtual 171, 3) := by decide +kernel
theorem dX3_bar_126 : decode cX3_bar 126 = .ok (.invokevirtual 74, 3) := by decide +kernel
theorem dX3_bar_129 : decode cX3_bar 129 = .ok (.ireturn, 1) := by decide +kernel
theorem dX3_uneven_0 : decode cX3_uneven 0 = .ok (.aload_n 0, 1) := by decide +kernel
theorem dX3_uneven_1 : decode cX3_uneven 1 = .ok (.iload_n 1, 1) := by decide +kernel
theorem dX3_uneven_2 : decode cX3_uneven 2 = .ok (.invokevirtual 80, 3) := by decide +kernel
theorem dX3_uneven_5 : decode cX3_uneven 5 = .ok (.astore_n 3, 1) := by decide +kernel
theorem dX3_uneven_6 : decode cX3_uneven 6 = .ok (.aload_n 3, 1) := by decide +kernel
theorem dX3_uneven_7 : decode cX3_uneven 7 = .ok (.ifnonnull 9, 3) := by decide +kernel
theorem dX3_uneven_10 : decode cX3_uneven 10 = .ok (.aload_n 0, 1) := by decide +kernel
theorem dX3_uneven_11 : decode cX3_uneven 11 = .ok (.iconst 1, 1) := by decide +kernel
theorem dX3_uneven_12 : decode cX3_uneven 12 = .ok (.invokevirtual 58, 3) := by decide +kernel
theorem dX3_uneven_15 : decode cX3_uneven 15 = .ok (.ireturn, 1) := by decide +kernel
theorem dX3_uneven_16 : decode cX3_uneven 16 = .ok (.iload_n 2, 1) := by decide +kernel
theorem dX3_uneven_17 : decode cX3_uneven 17 = .ok (.invokestatic 155, 3) := by decide +kernel
theorem dX3_uneven_20 : decode cX3_uneven 20 = .ok (.ifCond .ne 9, 3) := by decide +kernel
theorem dX3_uneven_23 : decode cX3_uneven 23 = .ok (.aload_n 0, 1) := by decide +kernel
theorem dX3_uneven_24 : decode cX3_uneven 24 = .ok (.iconst 2, 1) := by decide +kernel
theorem dX3_uneven_25 : decode cX3_uneven 25 = .ok (.invokevirtual 58, 3) := by decide +kernel
theorem dX3_uneven_28 : decode cX3_uneven 28 = .ok (.ireturn, 1) := by decide +kernel
theorem dX3_uneven_29 : decode cX3_uneven 29 = .ok (.aload_n 3, 1) := by decide +kernel
theorem dX3_uneven_30 : decode cX3_uneven 30 = .ok (.getfield 84, 3) := by decide +kernel
theorem dX3_uneven_33 : decode cX3_uneven 33 = .ok (.ifCond .ne 9, 3) := by decide +kernel
theorem dX3_uneven_36 : decode cX3_uneven 36 = .ok (.aload_n 0, 1) := by decide +kernel
theorem dX3_uneven_37 : decode cX3_uneven 37 = .ok (.iconst 5, 1) := by decide +kernel
theorem dX3_uneven_38 : decode cX3_uneven 38 = .ok (.invokevirtual 58, 3) := by decide +kernel
theorem dX3_uneven_41 : decode cX3_uneven 41 = .ok (.ireturn, 1) := by decide +kernel
theorem dX3_uneven_42 : decode cX3_uneven 42 = .ok (.aload_n 0, 1) := by decide +kernel
theorem dX3_uneven_43 : decode cX3_uneven 43 = .ok (.aload_n 3, 1) := by decide +kernel
theorem dX3_uneven_44 : decode cX3_uneven 44 = .ok (.iload_n 2, 1) := by decide +kernel
theorem dX3_uneven_45 : decode cX3_uneven 45 = .ok (.invokevirtual 197, 3) := by decide +kernel
theorem dX3_uneven_48 : decode cX3_uneven 48 = .ok (.invokevirtual 74, 3) := by decide +kernel
theorem dX3_uneven_51 : decode cX3_uneven 51 = .ok (.ireturn, 1) := by decide +kernel
theorem dX3_meets_0 : decode cX3_meets 0 = .ok (.aload_n 0, 1) := by decide +kernel
theorem dX3_meets_1 : decode cX3_meets 1 = .ok (.iload_n 1, 1) := by decide +kernel
theorem dX3_meets_2 : decode cX3_meets 2 = .ok (.invokevirtual 80, 3) := by decide +kernel
theorem dX3_meets_5 : decode cX3_meets 5 = .ok (.astore 5, 2) := by decide +kernel
theorem dX3_meets_7 : decode cX3_meets 7 = .ok (.aload_n 0, 1) := by decide +kernel
theorem dX3_meets_8 : decode cX3_meets 8 = .ok (.iload_n 1, 1) := by decide +kernel
theorem dX3_meets_9 : decode cX3_meets 9 = .ok (.iload_n 2, 1) := by decide +kernel
theorem dX3_meets_10 : decode cX3_meets 10 = .ok (.invokevirtual 200, 3) := by decide +kernel
theorem dX3_meets_13 : decode cX3_meets 13 = .ok (.astore 6, 2) := by decide +kernel
theorem dX3_meets_15 : decode cX3_meets 15 = .ok (.aload 5, 2) := by decide +kernel
theorem dX3_meets_17 : decode cX3_meets 17 = .ok (.ifnull 19, 3) := by decide +kernel
theorem dX3_meets_20 : decode cX3_meets 20 = .ok (.aload 6, 2) := by decide +kernel
theorem dX3_meets_22 : decode cX3_meets 22 = .ok (.ifnull 14, 3) := by decide +kernel
theorem dX3_meets_25 : decode cX3_meets 25 = .ok (.iload 4, 2) := by decide +kernel
theorem dX3_meets_27 : decode cX3_meets 27 = .ok (.ifCond .lt 9, 3) := by decide +kernel
theorem dX3_meets_30 : decode cX3_meets 30 = .ok (.iload 4, 2) := by decide +kernel
theorem dX3_meets_32 : decode cX3_meets 32 = .ok (.iconst 2, 1) := by decide +kernel
theorem dX3_meets_33 : decode cX3_meets 33 = .ok (.if_icmp .le 9, 3) := by decide +kernel
theorem dX3_meets_36 : decode cX3_meets 36 = .ok (.aload_n 0, 1) := by decide +kernel
theorem dX3_meets_37 : decode cX3_meets 37 = .ok (.iconst 1, 1) := by decide +kernel
theorem dX3_meets_38 : decode cX3_meets 38 = .ok (.invokevirtual 58, 3) := by decide +kernel
theorem dX3_meets_41 : decode cX3_meets 41 = .ok (.ireturn, 1) := by decide +kernel
theorem dX3_meets_42 : decode cX3_meets 42 = .ok (.iload_n 3, 1) := by decide +kernel
theorem dX3_meets_43 : decode cX3_meets 43 = .ok (.invokestatic 155, 3) := by decide +kernel
theorem dX3_meets_46 : decode cX3_meets 46 = .ok (.ifCond .ne 9, 3) := by decide +kernel
theorem dX3_meets_49 : decode cX3_meets 49 = .ok (.aload_n 0, 1) := by decide +kernel
theorem dX3_meets_50 : decode cX3_meets 50 = .ok (.iconst 2, 1) := by decide +kernel
theorem dX3_meets_51 : decode cX3_meets 51 = .ok (.invokevirtual 58, 3) := by decide +kernel
theorem dX3_meets_54 : decode cX3_meets 54 = .ok (.ireturn, 1) := by decide +kernel
theorem dX3_meets_55 : decode cX3_meets 55 = .ok (.aload 5, 2) := by decide +kernel
theorem dX3_meets_57 : decode cX3_meets 57 = .ok (.getfield 84, 3) := by decide +kernel
theorem dX3_meets_60 : decode cX3_meets 60 = .ok (.ifCond .eq 11, 3) := by decide +kernel
theorem dX3_meets_63 : decode cX3_meets 63 = .ok (.aload 6, 2) := by decide +kernel
theorem dX3_meets_65 : decode cX3_meets 65 = .ok (.getfield 84, 3) := by decide +kernel
theorem dX3_meets_68 : decode cX3_meets 68 = .ok (.ifCond .ne 9, 3) := by decide +kernel
theorem dX3_meets_71 : decode cX3_meets 71 = .ok (.aload_n 0, 1) := by decide +kernel
theorem dX3_meets_72 : decode cX3_meets 72 = .ok (.iconst 5, 1) := by decide +kernel
theorem dX3_meets_73 : decode cX3_meets 73 = .ok (.invokevirtual 58, 3) := by decide +kernel
theorem dX3_meets_76 : decode cX3_meets 76 = .ok (.ireturn, 1) := by decide +kernel
theorem dX3_meets_77 : decode cX3_meets 77 = .ok (.aload_n 0, 1) := by decide +kernel
theorem dX3_meets_78 : decode cX3_meets 78 = .ok (.aload 5, 2) := by decide +kernel
theorem dX3_meets_80 : decode cX3_meets 80 = .ok (.aload 6, 2) := by decide +kernel
theorem dX3_meets_82 : decode cX3_meets 82 = .ok (.iload_n 3, 1) := by decide +kernel
theorem dX3_meets_83 : decode cX3_meets 83 = .ok (.iload 4, 2) := by decide +kernel
theorem dX3_meets_85 : decode cX3_meets 85 = .ok (.invokestatic 204, 3) := by decide +kernel
theorem dX3_meets_88 : decode cX3_meets 88 = .ok (.invokevirtual 74, 3) := by decide +kernel
theorem dX3_meets_91 : decode cX3_meets 91 = .ok (.ireturn, 1) := by decide +kernel
theorem dX3_sum_0 : decode cX3_sum 0 = .ok (.aload_n 0, 1) := by decide +kernel
theorem dX3_sum_1 : decode cX3_sum 1 = .ok (.iload_n 1, 1) := by decide +kernel
theorem dX3_sum_2 : decode cX3_sum 2 = .ok (.invokevirtual 80, 3) := by decide +kernel
theorem dX3_sum_5 : decode cX3_sum 5 = .ok (.astore_n 2, 1) := by decide +kernel
theorem dX3_sum_6 : decode cX3_sum 6 = .ok (.aload_n 2, 1) := by decide +kernel
theorem dX3_sum_7 : decode cX3_sum 7 = .ok (.ifnonnull 9, 3) := by decide +kernel
theorem dX3_sum_10 : decode cX3_sum 10 = .ok (.aload_n 0, 1) := by decide +kernel
theorem dX3_sum_11 : decode cX3_sum 11 = .ok (.iconst 1, 1) := by decide +kernel
theorem dX3_sum_12 : decode cX3_sum 12 = .ok (.invokevirtual 58, 3) := by decide +kernel
theorem dX3_sum_15 : decode cX3_sum 15 = .ok (.ireturn, 1) := by decide +kernel
theorem dX3_sum_16 : decode cX3_sum 16 = .ok (.aload_n 0, 1) := by decide +kernel
theorem dX3_sum_17 : decode cX3_sum 17 = .ok (.aload_n 2, 1) := by decide +kernel
theorem dX3_sum_18 : decode cX3_sum 18 = .ok (.invokevirtual 208, 3) := by decide +kernel
theorem dX3_sum_21 : decode cX3_sum 21 = .ok (.invokevirtual 74, 3) := by decide +kernel
theorem dX3_sum_24 : decode cX3_sum 24 = .ok (.ireturn, 1) := by decide +kernel
theorem dX3_sorted_0 : decode cX3_sorted 0 = .ok (.aload_n 0, 1) := by decide +kernel
theorem dX3_sorted_1 : decode cX3_sorted 1 = .ok (.iload_n 1, 1) := by decide +kernel
theorem dX3_sorted_2 : decode cX3_sorted 2 = .ok (.invokevirtual 80, 3) := by decide +kernel
theorem dX3_sorted_5 : decode cX3_sorted 5 = .ok (.astore_n 3, 1) := by decide +kernel
theorem dX3_sorted_6 : decode cX3_sorted 6 = .ok (.aload_n 3, 1) := by decide +kernel
theorem dX3_sorted_7 : decode cX3_sorted 7 = .ok (.ifnonnull 9, 3) := by decide +kernel
theorem dX3_sorted_10 : decode cX3_sorted 10 = .ok (.aload_n 0, 1) := by decide +kernel
theorem dX3_sorted_11 : decode cX3_sorted 11 = .ok (.iconst 1, 1) := by decide +kernel
theorem dX3_sorted_12 : decode cX3_sorted 12 = .ok (.invokevirtual 58, 3) := by decide +kernel
theorem dX3_sorted_15 : decode cX3_sorted 15 = .ok (.ireturn, 1) := by decide +kernel
theorem dX3_sorted_16 : decode cX3_sorted 16 = .ok (.aload_n 3, 1) := by decide +kernel
theorem dX3_sorted_17 : decode cX3_sorted 17 = .ok (.iload_n 2, 1) := by decide +kernel
theorem dX3_sorted_18 : decode cX3_sorted 18 = .ok (.invokestatic 145, 3) := by decide +kernel
theorem dX3_sorted_21 : decode cX3_sorted 21 = .ok (.ifCond .ne 9, 3) := by decide +kernel
theorem dX3_sorted_24 : decode cX3_sorted 24 = .ok (.aload_n 0, 1) := by decide +kernel
theorem dX3_sorted_25 : decode cX3_sorted 25 = .ok (.iconst 2, 1) := by decide +kernel
theorem dX3_sorted_26 : decode cX3_sorted 26 = .ok (.invokevirtual 58, 3) := by decide +kernel
theorem dX3_sorted_29 : decode cX3_sorted 29 = .ok (.ireturn, 1) := by decide +kernel
theorem dX3_sorted_30 : decode cX3_sorted 30 = .ok (.aload_n 0, 1) := by decide +kernel
theorem dX3_sorted_31 : decode cX3_sorted 31 = .ok (.aload_n 3, 1) := by decide +kernel
theorem dX3_sorted_32 : decode cX3_sorted 32 = .ok (.iload_n 2, 1) := by decide +kernel
theorem dX3_sorted_33 : decode cX3_sorted 33 = .ok (.invokevirtual 211, 3) := by decide +kernel
theorem dX3_sorted_36 : decode cX3_sorted 36 = .ok (.invokevirtual 74, 3) := by decide +kernel
theorem dX3_sorted_39 : decode cX3_sorted 39 = .ok (.ireturn, 1) := by decide +kernel
theorem dX3_times_0 : decode cX3_times 0 = .ok (.aload_n 0, 1) := by decide +kernel
theorem dX3_times_1 : decode cX3_times 1 = .ok (.iload_n 1, 1) := by decide +kernel
theorem dX3_times_2 : decode cX3_times 2 = .ok (.invokevirtual 80, 3) := by decide +kernel
theorem dX3_times_5 : decode cX3_times 5 = .ok (.astore_n 3, 1) := by decide +kernel
theorem dX3_times_6 : decode cX3_times 6 = .ok (.aload_n 3, 1) := by decide +kernel
theorem dX3_times_7 : decode cX3_times 7 = .ok (.ifnonnull 9, 3) := by decide +kernel
theorem dX3_times_10 : decode cX3_times 10 = .ok (.aload_n 0, 1) := by decide +kernel
theorem dX3_times_11 : decode cX3_times 11 = .ok (.iconst 1, 1) := by decide +kernel
theorem dX3_times_12 : decode cX3_times 12 = .ok (.invokevirtual 58, 3) := by decide +kernel
theorem dX3_times_15 : decode cX3_times 15 = .ok (.ireturn, 1) := by decide +kernel
theorem dX3_times_16 : decode cX3_times 16 = .ok (.iload_n 2, 1) := by decide +kernel
theorem dX3_times_17 : decode cX3_times 17 = .ok (.invokestatic 162, 3) := by decide +kernel
theorem dX3_times_20 : decode cX3_times 20 = .ok (.ifCond .ne 9, 3) := by decide +kernel
theorem dX3_times_23 : decode cX3_times 23 = .ok (.aload_n 0, 1) := by decide +kernel
theorem dX3_times_24 : decode cX3_times 24 = .ok (.iconst 2, 1) := by decide +kernel
theorem dX3_times_25 : decode cX3_times 25 = .ok (.invokevirtual 58, 3) := by decide +kernel
theorem dX3_times_28 : decode cX3_times 28 = .ok (.ireturn, 1) := by decide +kernel
theorem dX3_times_29 : decode cX3_times 29 = .ok (.aload_n 0, 1) := by decide +kernel
theorem dX3_times_30 : decode cX3_times 30 = .ok (.aload_n 3, 1) := by decide +kernel
theorem dX3_times_31 : decode cX3_times 31 = .ok (.getfield 214, 3) := by decide +kernel
theorem dX3_times_34 : decode cX3_times 34 = .ok (.iload_n 2, 1) := by decide +kernel
theorem dX3_times_35 : decode cX3_times 35 = .ok (.iaload, 1) := by decide +kernel
theorem dX3_times_36 : decode cX3_times 36 = .ok (.invokevirtual 74, 3) := by decide +kernel
theorem dX3_times_39 : decode cX3_times 39 = .ok (.ireturn, 1) := by decide +kernel
theorem dX3_miss_0 : decode cX3_miss 0 = .ok (.aload_n 0, 1) := by decide +kernel
theorem dX3_miss_1 : decode cX3_miss 1 = .ok (.iload_n 1, 1) := by decide +kernel
theorem dX3_miss_2 : decode cX3_miss 2 = .ok (.invokevirtual 80, 3) := by decide +kernel
theorem dX3_miss_5 : decode cX3_miss 5 = .ok (.astore_n 3, 1) := by decide +kernel
theorem dX3_miss_6 : decode cX3_miss 6 = .ok (.aload_n 3, 1) := by decide +kernel
theorem dX3_miss_7 : decode cX3_miss 7 = .ok (.ifnonnull 9, 3) := by decide +kernel
theorem dX3_miss_10 : decode cX3_miss 10 = .ok (.aload_n 0, 1) := by decide +kernel
theorem dX3_miss_11 : decode cX3_miss 11 = .ok (.iconst 1, 1) := by decide +kernel
theorem dX3_miss_12 : decode cX3_miss 12 = .ok (.invokevirtual 58, 3) := by decide +kernel
theorem dX3_miss_15 : decode cX3_miss 15 = .ok (.ireturn, 1) := by decide +kernel
theorem dX3_miss_16 : decode cX3_miss 16 = .ok (.aload_n 3, 1) := by decide +kernel
theorem dX3_miss_17 : decode cX3_miss 17 = .ok (.iload_n 2, 1) := by decide +kernel
theorem dX3_miss_18 : decode cX3_miss 18 = .ok (.invokestatic 145, 3) := by decide +kernel
theorem dX3_miss_21 : decode cX3_miss 21 = .ok (.ifCond .ne 9, 3) := by decide +kernel
theorem dX3_miss_24 : decode cX3_miss 24 = .ok (.aload_n 0, 1) := by decide +kernel
theorem dX3_miss_25 : decode cX3_miss 25 = .ok (.iconst 2, 1) := by decide +kernel
theorem dX3_miss_26 : decode cX3_miss 26 = .ok (.invokevirtual 58, 3) := by decide +kernel
theorem dX3_miss_29 : decode cX3_miss 29 = .ok (.ireturn, 1) := by decide +kernel
theorem dX3_miss_30 : decode cX3_miss 30 = .ok (.aload_n 0, 1) := by decide +kernel
theorem dX3_miss_31 : decode cX3_miss 31 = .ok (.aload_n 3, 1) := by decide +kernel
theorem dX3_miss_32 : decode cX3_miss 32 = .ok (.iload_n 2, 1) := by decide +kernel
theorem dX3_miss_33 : decode cX3_miss 33 = .ok (.invokevirtual 217, 3) := by decide +kernel
theorem dX3_miss_36 : decode cX3_miss 36 = .ok (.invokevirtual 74, 3) := by decide +kernel
theorem dX3_miss_39 : decode cX3_miss 39 = .ok (.ireturn, 1) := by decide +kernel
theorem dX3_missed_0 : decode cX3_missed 0 = .ok (.aload_n 0, 1) := by decide +kernel
theorem dX3_missed_1 : decode cX3_missed 1 = .ok (.iload_n 1, 1) := by decide +kernel
theorem dX3_missed_2 : decode cX3_missed 2 = .ok (.invokevirtual 80, 3) := by decide +kernel
theorem dX3_missed_5 : decode cX3_missed 5 = .ok (.astore_n 2, 1) := by decide +kernel
theorem dX3_missed_6 : decode cX3_missed 6 = .ok (.aload_n 2, 1) := by decide +kernel
theorem dX3_missed_7 : decode cX3_missed 7 = .ok (.ifnonnull 9, 3) := by decide +kernel
theorem dX3_missed_10 : decode cX3_missed 10 = .ok (.aload_n 0, 1) := by decide +kernel
theorem dX3_missed_11 : decode cX3_missed 11 = .ok (.iconst 1, 1) := by decide +kernel
theorem dX3_missed_12 : decode cX3_missed 12 = .ok (.invokevirtual 58, 3) := by decide +kernel
theorem dX3_missed_15 : decode cX3_missed 15 = .ok (.ireturn, 1) := by decide +kernel
theorem dX3_missed_16 : decode cX3_missed 16 = .ok (.aload_n 0, 1) := by decide +kernel
theorem dX3_missed_17 : decode cX3_missed 17 = .ok (.aload_n 2, 1) := by decide +kernel
theorem dX3_missed_18 : decode cX3_missed 18 = .ok (.getfield 84, 3) := by decide +kernel
theorem dX3_missed_21 : decode cX3_missed 21 = .ok (.ifCond .ne 8, 3) := by decide +kernel
theorem dX3_missed_24 : decode cX3_missed 24 = .ok (.bipush (-2), 2) := by decide +kernel
theorem dX3_missed_26 : decode cX3_missed 26 = .ok (.goto 7, 3) := by decide +kernel
theorem dX3_missed_29 : decode cX3_missed 29 = .ok (.aload_n 2, 1) := by decide +kernel
theorem dX3_missed_30 : decode cX3_missed 30 = .ok (.invokevirtual 220, 3) := by decide +kernel
theorem dX3_missed_33 : decode cX3_missed 33 = .ok (.invokevirtual 74, 3) := by decide +kernel
theorem dX3_missed_36 : decode cX3_missed 36 = .ok (.ireturn, 1) := by decide +kernel
theorem dX3_heavy_0 : decode cX3_heavy 0 = .ok (.aload_n 0, 1) := by decide +kernel
theorem dX3_heavy_1 : decode cX3_heavy 1 = .ok (.iload_n 1, 1) := by decide +kernel
theorem dX3_heavy_2 : decode cX3_heavy 2 = .ok (.invokevirtual 80, 3) := by decide +kernel
theorem dX3_heavy_5 : decode cX3_heavy 5 = .ok (.astore 4, 2) := by decide +kernel
theorem dX3_heavy_7 : decode cX3_heavy 7 = .ok (.aload 4, 2) := by decide +kernel
theorem dX3_heavy_9 : decode cX3_heavy 9 = .ok (.ifnull 7, 3) := by decide +kernel
theorem dX3_heavy_12 : decode cX3_heavy 12 = .ok (.iload_n 3, 1) := by decide +kernel
theorem dX3_heavy_13 : decode cX3_heavy 13 = .ok (.ifCond .ge 9, 3) := by decide +kernel
theorem dX3_heavy_16 : decode cX3_heavy 16 = .ok (.aload_n 0, 1) := by decide +kernel
theorem dX3_heavy_17 : decode cX3_heavy 17 = .ok (.iconst 1, 1) := by decide +kernel
theorem dX3_heavy_18 : decode cX3_heavy 18 = .ok (.invokevirtual 58, 3) := by decide +kernel
theorem dX3_heavy_21 : decode cX3_heavy 21 = .ok (.ireturn, 1) := by decide +kernel
theorem dX3_heavy_22 : decode cX3_heavy 22 = .ok (.iload_n 2, 1) := by decide +kernel
theorem dX3_heavy_23 : decode cX3_heavy 23 = .ok (.invokestatic 155, 3) := by decide +kernel
theorem dX3_heavy_26 : decode cX3_heavy 26 = .ok (.ifCond .ne 9, 3) := by decide +kernel
theorem dX3_heavy_29 : decode cX3_heavy 29 = .ok (.aload_n 0, 1) := by decide +kernel
theorem dX3_heavy_30 : decode cX3_heavy 30 = .ok (.iconst 2, 1) := by decide +kernel
theorem dX3_heavy_31 : decode cX3_heavy 31 = .ok (.invokevirtual 58, 3) := by decide +kernel
theorem dX3_heavy_34 : decode cX3_heavy 34 = .ok (.ireturn, 1) := by decide +kernel
theorem dX3_heavy_35 : decode cX3_heavy 35 = .ok (.aload_n 0, 1) := by decide +kernel
theorem dX3_heavy_36 : decode cX3_heavy 36 = .ok (.aload 4, 2) := by decide +kernel
theorem dX3_heavy_38 : decode cX3_heavy 38 = .ok (.getfield 87, 3) := by decide +kernel
theorem dX3_heavy_41 : decode cX3_heavy 41 = .ok (.iload_n 2, 1) := by decide +kernel
theorem dX3_heavy_42 : decode cX3_heavy 42 = .ok (.iload_n 3, 1) := by decide +kernel
theorem dX3_heavy_43 : decode cX3_heavy 43 = .ok (.invokevirtual 223, 3) := by decide +kernel
theorem dX3_heavy_46 : decode cX3_heavy 46 = .ok (.invokevirtual 74, 3) := by decide +kernel
theorem dX3_heavy_49 : decode cX3_heavy 49 = .ok (.ireturn, 1) := by decide +kernel
theorem dX3_apart_0 : decode cX3_apart 0 = .ok (.aload_n 0, 1) := by decide +kernel
theorem dX3_apart_1 : decode cX3_apart 1 = .ok (.iload_n 1, 1) := by decide +kernel
theorem dX3_apart_2 : decode cX3_apart 2 = .ok (.invokevirtual 80, 3) := by decide +kernel
theorem dX3_apart_5 : decode cX3_apart 5 = .ok (.astore_n 3, 1) := by decide +kernel
theorem dX3_apart_6 : decode cX3_apart 6 = .ok (.aload_n 0, 1) := by decide +kernel
theorem dX3_apart_7 : decode cX3_apart 7 = .ok (.iload_n 1, 1) := by decide +kernel
theorem dX3_apart_8 : decode cX3_apart 8 = .ok (.iload_n 2, 1) := by decide +kernel
theorem dX3_apart_9 : decode cX3_apart 9 = .ok (.invokevirtual 200, 3) := by decide +kernel
theorem dX3_apart_12 : decode cX3_apart 12 = .ok (.astore 4, 2) := by decide +kernel
theorem dX3_apart_14 : decode cX3_apart 14 = .ok (.aload_n 3, 1) := by decide +kernel
theorem dX3_apart_15 : decode cX3_apart 15 = .ok (.ifnull 8, 3) := by decide +kernel
theorem dX3_apart_18 : decode cX3_apart 18 = .ok (.aload 4, 2) := by decide +kernel
theorem dX3_apart_20 : decode cX3_apart 20 = .ok (.ifnonnull 9, 3) := by decide +kernel
theorem dX3_apart_23 : decode cX3_apart 23 = .ok (.aload_n 0, 1) := by decide +kernel
theorem dX3_apart_24 : decode cX3_apart 24 = .ok (.iconst 1, 1) := by decide +kernel
theorem dX3_apart_25 : decode cX3_apart 25 = .ok (.invokevirtual 58, 3) := by decide +kernel
theorem dX3_apart_28 : decode cX3_apart 28 = .ok (.ireturn, 1) := by decide +kernel
theorem dX3_apart_29 : decode cX3_apart 29 = .ok (.aload_n 3, 1) := by decide +kernel
theorem dX3_apart_30 : decode cX3_apart 30 = .ok (.getfield 84, 3) := by decide +kernel
theorem dX3_apart_33 : decode cX3_apart 33 = .ok (.ifCond .eq 11, 3) := by decide +kernel
theorem dX3_apart_36 : decode cX3_apart 36 = .ok (.aload 4, 2) := by decide +kernel
theorem dX3_apart_38 : decode cX3_apart 38 = .ok (.getfield 84, 3) := by decide +kernel
theorem dX3_apart_41 : decode cX3_apart 41 = .ok (.ifCond .ne 9, 3) := by decide +kernel
theorem dX3_apart_44 : decode cX3_apart 44 = .ok (.aload_n 0, 1) := by decide +kernel
theorem dX3_apart_45 : decode cX3_apart 45 = .ok (.iconst 5, 1) := by decide +kernel
theorem dX3_apart_46 : decode cX3_apart 46 = .ok (.invokevirtual 58, 3) := by decide +kernel
theorem dX3_apart_49 : decode cX3_apart 49 = .ok (.ireturn, 1) := by decide +kernel
theorem dX3_apart_50 : decode cX3_apart 50 = .ok (.aload_n 0, 1) := by decide +kernel
theorem dX3_apart_51 : decode cX3_apart 51 = .ok (.aload_n 3, 1) := by decide +kernel
theorem dX3_apart_52 : decode cX3_apart 52 = .ok (.getfield 87, 3) := by decide +kernel
theorem dX3_apart_55 : decode cX3_apart 55 = .ok (.aload_n 3, 1) := by decide +kernel
theorem dX3_apart_56 : decode cX3_apart 56 = .ok (.getfield 87, 3) := by decide +kernel
theorem dX3_apart_59 : decode cX3_apart 59 = .ok (.aload 4, 2) := by decide +kernel
theorem dX3_apart_61 : decode cX3_apart 61 = .ok (.getfield 87, 3) := by decide +kernel
theorem dX3_apart_64 : decode cX3_apart 64 = .ok (.invokestatic 226, 3) := by decide +kernel
theorem dX3_apart_67 : decode cX3_apart 67 = .ok (.aload 4, 2) := by decide +kernel
theorem dX3_apart_69 : decode cX3_apart 69 = .ok (.getfield 87, 3) := by decide +kernel
theorem dX3_apart_72 : decode cX3_apart 72 = .ok (.aload_n 3, 1) := by decide +kernel
theorem dX3_apart_73 : decode cX3_apart 73 = .ok (.getfield 87, 3) := by decide +kernel
theorem dX3_apart_76 : decode cX3_apart 76 = .ok (.aload 4, 2) := by decide +kernel
theorem dX3_apart_78 : decode cX3_apart 78 = .ok (.getfield 87, 3) := by decide +kernel
theorem dX3_apart_81 : decode cX3_apart 81 = .ok (.invokestatic 226, 3) := by decide +kernel
theorem dX3_apart_84 : decode cX3_apart 84 = .ok (.invokestatic 230, 3) := by decide +kernel
theorem dX3_apart_87 : decode cX3_apart 87 = .ok (.invokevirtual 74, 3) := by decide +kernel
theorem dX3_apart_90 : decode cX3_apart 90 = .ok (.ireturn, 1) := by decide +kernel
theorem dX3_would_0 : decode cX3_would 0 = .ok (.aload_n 0, 1) := by decide +kernel
theorem dX3_would_1 : decode cX3_would 1 = .ok (.iload_n 1, 1) := by decide +kernel
theorem dX3_would_2 : decode cX3_would 2 = .ok (.invokevirtual 80, 3) := by decide +kernel
theorem dX3_would_5 : decode cX3_would 5 = .ok (.astore_n 3, 1) := by decide +kernel
theorem dX3_would_6 : decode cX3_would 6 = .ok (.aload_n 0, 1) := by decide +kernel
theorem dX3_would_7 : decode cX3_would 7 = .ok (.iload_n 1, 1) := by decide +kernel
theorem dX3_would_8 : decode cX3_would 8 = .ok (.iload_n 2, 1) := by decide +kernel
theorem dX3_would_9 : decode cX3_would 9 = .ok (.invokevirtual 200, 3) := by decide +kernel
theorem dX3_would_12 : decode cX3_would 12 = .ok (.astore 4, 2) := by decide +kernel
theorem dX3_would_14 : decode cX3_would 14 = .ok (.aload_n 3, 1) := by decide +kernel
theorem dX3_would_15 : decode cX3_would 15 = .ok (.ifnull 8, 3) := by decide +kernel
theorem dX3_would_18 : decode cX3_would 18 = .ok (.aload 4, 2) := by decide +kernel
theorem dX3_would_20 : decode cX3_would 20 = .ok (.ifnonnull 9, 3) := by decide +kernel
theorem dX3_would_23 : decode cX3_would 23 = .ok (.aload_n 0, 1) := by decide +kernel
theorem dX3_would_24 : decode cX3_would 24 = .ok (.iconst 1, 1) := by decide +kernel
theorem dX3_would_25 : decode cX3_would 25 = .ok (.invokevirtual 58, 3) := by decide +kernel
theorem dX3_would_28 : decode cX3_would 28 = .ok (.ireturn, 1) := by decide +kernel
theorem dX3_would_29 : decode cX3_would 29 = .ok (.aload_n 3, 1) := by decide +kernel
theorem dX3_would_30 : decode cX3_would 30 = .ok (.getfield 84, 3) := by decide +kernel
theorem dX3_would_33 : decode cX3_would 33 = .ok (.aload 4, 2) := by decide +kernel
theorem dX3_would_35 : decode cX3_would 35 = .ok (.getfield 84, 3) := by decide +kernel
theorem dX3_would_38 : decode cX3_would 38 = .ok (.iadd, 1) := by decide +kernel
theorem dX3_would_39 : decode cX3_would 39 = .ok (.sipush 1000, 3) := by decide +kernel
theorem dX3_would_42 : decode cX3_would 42 = .ok (.if_icmp .le 9, 3) := by decide +kernel
theorem dX3_would_45 : decode cX3_would 45 = .ok (.aload_n 0, 1) := by decide +kernel
theorem dX3_would_46 : decode cX3_would 46 = .ok (.iconst 3, 1) := by decide +kernel
theorem dX3_would_47 : decode cX3_would 47 = .ok (.invokevirtual 58, 3) := by decide +kernel
theorem dX3_would_50 : decode cX3_would 50 = .ok (.ireturn, 1) := by decide +kernel
theorem dX3_would_51 : decode cX3_would 51 = .ok (.aload_n 0, 1) := by decide +kernel
theorem dX3_would_52 : decode cX3_would 52 = .ok (.getfield 44, 3) := by decide +kernel
theorem dX3_would_55 : decode cX3_would 55 = .ok (.aload_n 3, 1) := by decide +kernel
theorem dX3_would_56 : decode cX3_would 56 = .ok (.getfield 87, 3) := by decide +kernel
theorem dX3_would_59 : decode cX3_would 59 = .ok (.aload 4, 2) := by decide +kernel
theorem dX3_would_61 : decode cX3_would 61 = .ok (.getfield 87, 3) := by decide +kernel
theorem dX3_would_64 : decode cX3_would 64 = .ok (.invokevirtual 235, 3) := by decide +kernel
theorem dX3_would_67 : decode cX3_would 67 = .ok (.aload_n 0, 1) := by decide +kernel
theorem dX3_would_68 : decode cX3_would 68 = .ok (.getfield 44, 3) := by decide +kernel
theorem dX3_would_71 : decode cX3_would 71 = .ok (.aload_n 3, 1) := by decide +kernel
theorem dX3_would_72 : decode cX3_would 72 = .ok (.getfield 84, 3) := by decide +kernel
theorem dX3_would_75 : decode cX3_would 75 = .ok (.aload 4, 2) := by decide +kernel
theorem dX3_would_77 : decode cX3_would 77 = .ok (.getfield 84, 3) := by decide +kernel
theorem dX3_would_80 : decode cX3_would 80 = .ok (.iadd, 1) := by decide +kernel
theorem dX3_would_81 : decode cX3_would 81 = .ok (.aload_n 0, 1) := by decide +kernel
theorem dX3_would_82 : decode cX3_would 82 = .ok (.getfield 26, 3) := by decide +kernel
theorem dX3_would_85 : decode cX3_would 85 = .ok (.invokestatic 93, 3) := by decide +kernel
theorem dX3_would_88 : decode cX3_would 88 = .ok (.invokevirtual 239, 3) := by decide +kernel
theorem dX3_would_91 : decode cX3_would 91 = .ok (.pop, 1) := by decide +kernel
theorem dX3_would_92 : decode cX3_would 92 = .ok (.aload_n 0, 1) := by decide +kernel
theorem dX3_would_93 : decode cX3_would 93 = .ok (.aload_n 0, 1) := by decide +kernel
theorem dX3_would_94 : decode cX3_would 94 = .ok (.getfield 44, 3) := by decide +kernel
theorem dX3_would_97 : decode cX3_would 97 = .ok (.getfield 90, 3) := by decide +kernel
theorem dX3_would_100 : decode cX3_would 100 = .ok (.invokevirtual 74, 3) := by decide +kernel
theorem dX3_would_103 : decode cX3_would 103 = .ok (.ireturn, 1) := by decide +kernel
theorem dX3_wins_0 : decode cX3_wins 0 = .ok (.aload_n 0, 1) := by decide +kernel
theorem dX3_wins_1 : decode cX3_wins 1 = .ok (.iload_n 1, 1) := by decide +kernel
theorem dX3_wins_2 : decode cX3_wins 2 = .ok (.invokevirtual 80, 3) := by decide +kernel
theorem dX3_wins_5 : decode cX3_wins 5 = .ok (.astore 4, 2) := by decide +kernel
theorem dX3_wins_7 : decode cX3_wins 7 = .ok (.aload_n 0, 1) := by decide +kernel
theorem dX3_wins_8 : decode cX3_wins 8 = .ok (.iload_n 1, 1) := by decide +kernel
theorem dX3_wins_9 : decode cX3_wins 9 = .ok (.iload_n 2, 1) := by decide +kernel
theorem dX3_wins_10 : decode cX3_wins 10 = .ok (.invokevirtual 200, 3) := by decide +kernel
theorem dX3_wins_13 : decode cX3_wins 13 = .ok (.astore 5, 2) := by decide +kernel
theorem dX3_wins_15 : decode cX3_wins 15 = .ok (.aload 4, 2) := by decide +kernel
theorem dX3_wins_17 : decode cX3_wins 17 = .ok (.ifnull 8, 3) := by decide +kernel
theorem dX3_wins_20 : decode cX3_wins 20 = .ok (.aload 5, 2) := by decide +kernel
theorem dX3_wins_22 : decode cX3_wins 22 = .ok (.ifnonnull 9, 3) := by decide +kernel
theorem dX3_wins_25 : decode cX3_wins 25 = .ok (.aload_n 0, 1) := by decide +kernel
theorem dX3_wins_26 : decode cX3_wins 26 = .ok (.iconst 1, 1) := by decide +kernel
theorem dX3_wins_27 : decode cX3_wins 27 = .ok (.invokevirtual 58, 3) := by decide +kernel
theorem dX3_wins_30 : decode cX3_wins 30 = .ok (.ireturn, 1) := by decide +kernel
theorem dX3_wins_31 : decode cX3_wins 31 = .ok (.aload_n 0, 1) := by decide +kernel
theorem dX3_wins_32 : decode cX3_wins 32 = .ok (.aload 4, 2) := by decide +kernel
theorem dX3_wins_34 : decode cX3_wins 34 = .ok (.getfield 87, 3) := by decide +kernel
theorem dX3_wins_37 : decode cX3_wins 37 = .ok (.aload 5, 2) := by decide +kernel
theorem dX3_wins_39 : decode cX3_wins 39 = .ok (.getfield 87, 3) := by decide +kernel
theorem dX3_wins_42 : decode cX3_wins 42 = .ok (.iload_n 3, 1) := by decide +kernel
theorem dX3_wins_43 : decode cX3_wins 43 = .ok (.invokestatic 242, 3) := by decide +kernel
theorem dX3_wins_46 : decode cX3_wins 46 = .ok (.invokevirtual 74, 3) := by decide +kernel
theorem dX3_wins_49 : decode cX3_wins 49 = .ok (.ireturn, 1) := by decide +kernel
theorem dX3_whole_0 : decode cX3_whole 0 = .ok (.aload_n 0, 1) := by decide +kernel
theorem dX3_whole_1 : decode cX3_whole 1 = .ok (.getfield 22, 3) := by decide +kernel
theorem dX3_whole_4 : decode cX3_whole 4 = .ok (.ifCond .eq 12, 3) := by decide +kernel
theorem dX3_whole_7 : decode cX3_whole 7 = .ok (.iload_n 1, 1) := by decide +kernel
theorem dX3_whole_8 : decode cX3_whole 8 = .ok (.ifCond .lt 8, 3) := by decide +kernel
theorem dX3_whole_11 : decode cX3_whole 11 = .ok (.iload_n 1, 1) := by decide +kernel
theorem dX3_whole_12 : decode cX3_whole 12 = .ok (.iconst 2, 1) := by decide +kernel
theorem dX3_whole_13 : decode cX3_whole 13 = .ok (.if_icmp .le 9, 3) := by decide +kernel
theorem dX3_whole_16 : decode cX3_whole 16 = .ok (.aload_n 0, 1) := by decide +kernel
theorem dX3_whole_17 : decode cX3_whole 17 = .ok (.iconst 1, 1) := by decide +kernel
theorem dX3_whole_18 : decode cX3_whole 18 = .ok (.invokevirtual 58, 3) := by decide +kernel
theorem dX3_whole_21 : decode cX3_whole 21 = .ok (.ireturn, 1) := by decide +kernel
theorem dX3_whole_22 : decode cX3_whole 22 = .ok (.aload_n 0, 1) := by decide +kernel
theorem dX3_whole_23 : decode cX3_whole 23 = .ok (.invokevirtual 246, 3) := by decide +kernel
theorem dX3_whole_26 : decode cX3_whole 26 = .ok (.istore_n 2, 1) := by decide +kernel
theorem dX3_whole_27 : decode cX3_whole 27 = .ok (.iload_n 2, 1) := by decide +kernel
theorem dX3_whole_28 : decode cX3_whole 28 = .ok (.ifCond .eq 9, 3) := by decide +kernel
theorem dX3_whole_31 : decode cX3_whole 31 = .ok (.aload_n 0, 1) := by decide +kernel
theorem dX3_whole_32 : decode cX3_whole 32 = .ok (.iload_n 2, 1) := by decide +kernel
theorem dX3_whole_33 : decode cX3_whole 33 = .ok (.invokevirtual 58, 3) := by decide +kernel
theorem dX3_whole_36 : decode cX3_whole 36 = .ok (.ireturn, 1) := by decide +kernel
theorem dX3_whole_37 : decode cX3_whole 37 = .ok (.aload_n 0, 1) := by decide +kernel
theorem dX3_whole_38 : decode cX3_whole 38 = .ok (.invokevirtual 249, 3) := by decide +kernel
theorem dX3_whole_41 : decode cX3_whole 41 = .ok (.astore_n 3, 1) := by decide +kernel
theorem dX3_whole_42 : decode cX3_whole 42 = .ok (.iload_n 1, 1) := by decide +kernel
theorem dX3_whole_43 : decode cX3_whole 43 = .ok (.ifCond .ne 12, 3) := by decide +kernel
theorem dX3_whole_46 : decode cX3_whole 46 = .ok (.aload_n 0, 1) := by decide +kernel
theorem dX3_whole_47 : decode cX3_whole 47 = .ok (.aload_n 3, 1) := by decide +kernel
theorem dX3_whole_48 : decode cX3_whole 48 = .ok (.invokevirtual 253, 3) := by decide +kernel
theorem dX3_whole_51 : decode cX3_whole 51 = .ok (.invokevirtual 74, 3) := by decide +kernel
theorem dX3_whole_54 : decode cX3_whole 54 = .ok (.ireturn, 1) := by decide +kernel
theorem dX3_whole_55 : decode cX3_whole 55 = .ok (.aload_n 0, 1) := by decide +kernel
theorem dX3_whole_56 : decode cX3_whole 56 = .ok (.iload_n 1, 1) := by decide +kernel
theorem dX3_whole_57 : decode cX3_whole 57 = .ok (.iconst 1, 1) := by decide +kernel
theorem dX3_whole_58 : decode cX3_whole 58 = .ok (.if_icmp .ne 10, 3) := by decide +kernel
theorem dX3_whole_61 : decode cX3_whole 61 = .ok (.aload_n 3, 1) := by decide +kernel
theorem dX3_whole_62 : decode cX3_whole 62 = .ok (.getfield 90, 3) := by decide +kernel
theorem dX3_whole_65 : decode cX3_whole 65 = .ok (.goto 7, 3) := by decide +kernel
theorem dX3_whole_68 : decode cX3_whole 68 = .ok (.aload_n 3, 1) := by decide +kernel
theorem dX3_whole_69 : decode cX3_whole 69 = .ok (.invokevirtual 178, 3) := by decide +kernel
theorem dX3_whole_72 : decode cX3_whole 72 = .ok (.invokevirtual 74, 3) := by decide +kernel
theorem dX3_whole_75 : decode cX3_whole 75 = .ok (.ireturn, 1) := by decide +kernel
theorem dX3_overall_0 : decode cX3_overall 0 = .ok (.aload_n 0, 1) := by decide +kernel
theorem dX3_overall_1 : decode cX3_overall 1 = .ok (.getfield 22, 3) := by decide +kernel
theorem dX3_overall_4 : decode cX3_overall 4 = .ok (.ifCond .eq 12, 3) := by decide +kernel
theorem dX3_overall_7 : decode cX3_overall 7 = .ok (.iload_n 2, 1) := by decide +kernel
theorem dX3_overall_8 : decode cX3_overall 8 = .ok (.ifCond .lt 8, 3) := by decide +kernel
theorem dX3_overall_11 : decode cX3_overall 11 = .ok (.iload_n 2, 1) := by decide +kernel
theorem dX3_overall_12 : decode cX3_overall 12 = .ok (.iconst 1, 1) := by decide +kernel
theorem dX3_overall_13 : decode cX3_overall 13 = .ok (.if_icmp .le 9, 3) := by decide +kernel
theorem dX3_overall_16 : decode cX3_overall 16 = .ok (.aload_n 0, 1) := by decide +kernel
theorem dX3_overall_17 : decode cX3_overall 17 = .ok (.iconst 1, 1) := by decide +kernel
theorem dX3_overall_18 : decode cX3_overall 18 = .ok (.invokevirtual 58, 3) := by decide +kernel
theorem dX3_overall_21 : decode cX3_overall 21 = .ok (.ireturn, 1) := by decide +kernel
theorem dX3_overall_22 : decode cX3_overall 22 = .ok (.aload_n 0, 1) := by decide +kernel
theorem dX3_overall_23 : decode cX3_overall 23 = .ok (.invokevirtual 246, 3) := by decide +kernel
theorem dX3_overall_26 : decode cX3_overall 26 = .ok (.istore_n 3, 1) := by decide +kernel
theorem dX3_overall_27 : decode cX3_overall 27 = .ok (.iload_n 3, 1) := by decide +kernel
theorem dX3_overall_28 : decode cX3_overall 28 = .ok (.ifCond .eq 9, 3) := by decide +kernel
theorem dX3_overall_31 : decode cX3_overall 31 = .ok (.aload_n 0, 1) := by decide +kernel
theorem dX3_overall_32 : decode cX3_overall 32 = .ok (.iload_n 3, 1) := by decide +kernel
theorem dX3_overall_33 : decode cX3_overall 33 = .ok (.invokevirtual 58, 3) := by decide +kernel
theorem dX3_overall_36 : decode cX3_overall 36 = .ok (.ireturn, 1) := by decide +kernel
theorem dX3_overall_37 : decode cX3_overall 37 = .ok (.aload_n 0, 1) := by decide +kernel
theorem dX3_overall_38 : decode cX3_overall 38 = .ok (.invokevirtual 249, 3) := by decide +kernel
theorem dX3_overall_41 : decode cX3_overall 41 = .ok (.astore 4, 2) := by decide +kernel
theorem dX3_overall_43 : decode cX3_overall 43 = .ok (.iload_n 1, 1) := by decide +kernel
theorem dX3_overall_44 : decode cX3_overall 44 = .ok (.iconst 1, 1) := by decide +kernel
theorem dX3_overall_45 : decode cX3_overall 45 = .ok (.if_icmp .lt 12, 3) := by decide +kernel
theorem dX3_overall_48 : decode cX3_overall 48 = .ok (.iload_n 1, 1) := by decide +kernel
theorem dX3_overall_49 : decode cX3_overall 49 = .ok (.aload 4, 2) := by decide +kernel
theorem dX3_overall_51 : decode cX3_overall 51 = .ok (.invokevirtual 253, 3) := by decide +kernel
theorem dX3_overall_54 : decode cX3_overall 54 = .ok (.if_icmp .le 9, 3) := by decide +kernel
theorem dX3_overall_57 : decode cX3_overall 57 = .ok (.aload_n 0, 1) := by decide +kernel
theorem dX3_overall_58 : decode cX3_overall 58 = .ok (.iconst 2, 1) := by decide +kernel
theorem dX3_overall_59 : decode cX3_overall 59 = .ok (.invokevirtual 58, 3) := by decide +kernel
theorem dX3_overall_62 : decode cX3_overall 62 = .ok (.ireturn, 1) := by decide +kernel
theorem dX3_overall_63 : decode cX3_overall 63 = .ok (.aload 4, 2) := by decide +kernel
theorem dX3_overall_65 : decode cX3_overall 65 = .ok (.iload_n 1, 1) := by decide +kernel
theorem dX3_overall_66 : decode cX3_overall 66 = .ok (.iconst 0, 1) := by decide +kernel
theorem dX3_overall_67 : decode cX3_overall 67 = .ok (.invokevirtual 149, 3) := by decide +kernel
theorem dX3_overall_70 : decode cX3_overall 70 = .ok (.istore 5, 2) := by decide +kernel
theorem dX3_overall_72 : decode cX3_overall 72 = .ok (.aload_n 0, 1) := by decide +kernel
theorem dX3_overall_73 : decode cX3_overall 73 = .ok (.iload_n 2, 1) := by decide +kernel
theorem dX3_overall_74 : decode cX3_overall 74 = .ok (.ifCond .ne 14, 3) := by decide +kernel
theorem dX3_overall_77 : decode cX3_overall 77 = .ok (.aload 4, 2) := by decide +kernel
theorem dX3_overall_79 : decode cX3_overall 79 = .ok (.getfield 106, 3) := by decide +kernel
theorem dX3_overall_82 : decode cX3_overall 82 = .ok (.iload 5, 2) := by decide +kernel
theorem dX3_overall_84 : decode cX3_overall 84 = .ok (.iaload, 1) := by decide +kernel
theorem dX3_overall_85 : decode cX3_overall 85 = .ok (.goto 11, 3) := by decide +kernel
theorem dX3_overall_88 : decode cX3_overall 88 = .ok (.aload 4, 2) := by decide +kernel
theorem dX3_overall_90 : decode cX3_overall 90 = .ok (.iload 5, 2) := by decide +kernel
theorem dX3_overall_92 : decode cX3_overall 92 = .ok (.iload_n 1, 1) := by decide +kernel
theorem dX3_overall_93 : decode cX3_overall 93 = .ok (.invokevirtual 152, 3) := by decide +kernel
theorem dX3_overall_96 : decode cX3_overall 96 = .ok (.invokevirtual 74, 3) := by decide +kernel
theorem dX3_overall_99 : decode cX3_overall 99 = .ok (.ireturn, 1) := by decide +kernel
theorem dX3_rounds_0 : decode cX3_rounds 0 = .ok (.aload_n 0, 1) := by decide +kernel
theorem dX3_rounds_1 : decode cX3_rounds 1 = .ok (.iload_n 1, 1) := by decide +kernel
theorem dX3_rounds_2 : decode cX3_rounds 2 = .ok (.invokevirtual 80, 3) := by decide +kernel
theorem dX3_rounds_5 : decode cX3_rounds 5 = .ok (.astore_n 2, 1) := by decide +kernel
theorem dX3_rounds_6 : decode cX3_rounds 6 = .ok (.aload_n 2, 1) := by decide +kernel
theorem dX3_rounds_7 : decode cX3_rounds 7 = .ok (.ifnonnull 9, 3) := by decide +kernel
theorem dX3_rounds_10 : decode cX3_rounds 10 = .ok (.aload_n 0, 1) := by decide +kernel
theorem dX3_rounds_11 : decode cX3_rounds 11 = .ok (.iconst 1, 1) := by decide +kernel
theorem dX3_rounds_12 : decode cX3_rounds 12 = .ok (.invokevirtual 58, 3) := by decide +kernel
theorem dX3_rounds_15 : decode cX3_rounds 15 = .ok (.ireturn, 1) := by decide +kernel
theorem dX3_rounds_16 : decode cX3_rounds 16 = .ok (.aload_n 0, 1) := by decide +kernel
theorem dX3_rounds_17 : decode cX3_rounds 17 = .ok (.getfield 44, 3) := by decide +kernel
theorem dX3_rounds_20 : decode cX3_rounds 20 = .ok (.aload_n 2, 1) := by decide +kernel
theorem dX3_rounds_21 : decode cX3_rounds 21 = .ok (.getfield 87, 3) := by decide +kernel
theorem dX3_rounds_24 : decode cX3_rounds 24 = .ok (.invokevirtual 256, 3) := by decide +kernel
theorem dX3_rounds_27 : decode cX3_rounds 27 = .ok (.aload_n 0, 1) := by decide +kernel
theorem dX3_rounds_28 : decode cX3_rounds 28 = .ok (.aload_n 0, 1) := by decide +kernel
theorem dX3_rounds_29 : decode cX3_rounds 29 = .ok (.getfield 44, 3) := by decide +kernel
theorem dX3_rounds_32 : decode cX3_rounds 32 = .ok (.aload_n 2, 1) := by decide +kernel
theorem dX3_rounds_33 : decode cX3_rounds 33 = .ok (.getfield 84, 3) := by decide +kernel
theorem dX3_rounds_36 : decode cX3_rounds 36 = .ok (.aload_n 0, 1) := by decide +kernel
theorem dX3_rounds_37 : decode cX3_rounds 37 = .ok (.getfield 26, 3) := by decide +kernel
theorem dX3_rounds_40 : decode cX3_rounds 40 = .ok (.invokestatic 93, 3) := by decide +kernel
theorem dX3_rounds_43 : decode cX3_rounds 43 = .ok (.invokevirtual 260, 3) := by decide +kernel
theorem dX3_rounds_46 : decode cX3_rounds 46 = .ok (.invokevirtual 74, 3) := by decide +kernel
theorem dX3_rounds_49 : decode cX3_rounds 49 = .ok (.ireturn, 1) := by decide +kernel
theorem dX3_coarse_0 : decode cX3_coarse 0 = .ok (.aload_n 0, 1) := by decide +kernel
theorem dX3_coarse_1 : decode cX3_coarse 1 = .ok (.iload_n 1, 1) := by decide +kernel
theorem dX3_coarse_2 : decode cX3_coarse 2 = .ok (.invokevirtual 80, 3) := by decide +kernel
theorem dX3_coarse_5 : decode cX3_coarse 5 = .ok (.astore_n 3, 1) := by decide +kernel
theorem dX3_coarse_6 : decode cX3_coarse 6 = .ok (.aload_n 3, 1) := by decide +kernel
theorem dX3_coarse_7 : decode cX3_coarse 7 = .ok (.ifnonnull 9, 3) := by decide +kernel
theorem dX3_coarse_10 : decode cX3_coarse 10 = .ok (.aload_n 0, 1) := by decide +kernel
theorem dX3_coarse_11 : decode cX3_coarse 11 = .ok (.iconst 1, 1) := by decide +kernel
theorem dX3_coarse_12 : decode cX3_coarse 12 = .ok (.invokevirtual 58, 3) := by decide +kernel
theorem dX3_coarse_15 : decode cX3_coarse 15 = .ok (.ireturn, 1) := by decide +kernel
theorem dX3_coarse_16 : decode cX3_coarse 16 = .ok (.iload_n 2, 1) := by decide +kernel
theorem dX3_coarse_17 : decode cX3_coarse 17 = .ok (.iconst 2, 1) := by decide +kernel
theorem dX3_coarse_18 : decode cX3_coarse 18 = .ok (.if_icmp .lt 11, 3) := by decide +kernel
theorem dX3_coarse_21 : decode cX3_coarse 21 = .ok (.iload_n 2, 1) := by decide +kernel
theorem dX3_coarse_22 : decode cX3_coarse 22 = .ok (.aload_n 0, 1) := by decide +kernel
theorem dX3_coarse_23 : decode cX3_coarse 23 = .ok (.getfield 26, 3) := by decide +kernel
theorem dX3_coarse_26 : decode cX3_coarse 26 = .ok (.if_icmp .le 9, 3) := by decide +kernel
theorem dX3_coarse_29 : decode cX3_coarse 29 = .ok (.aload_n 0, 1) := by decide +kernel
theorem dX3_coarse_30 : decode cX3_coarse 30 = .ok (.iconst 2, 1) := by decide +kernel
theorem dX3_coarse_31 : decode cX3_coarse 31 = .ok (.invokevirtual 58, 3) := by decide +kernel
theorem dX3_coarse_34 : decode cX3_coarse 34 = .ok (.ireturn, 1) := by decide +kernel
theorem dX3_coarse_35 : decode cX3_coarse 35 = .ok (.aload_n 0, 1) := by decide +kernel
theorem dX3_coarse_36 : decode cX3_coarse 36 = .ok (.getfield 44, 3) := by decide +kernel
theorem dX3_coarse_39 : decode cX3_coarse 39 = .ok (.aload_n 3, 1) := by decide +kernel
theorem dX3_coarse_40 : decode cX3_coarse 40 = .ok (.getfield 87, 3) := by decide +kernel
theorem dX3_coarse_43 : decode cX3_coarse 43 = .ok (.invokevirtual 256, 3) := by decide +kernel
theorem dX3_coarse_46 : decode cX3_coarse 46 = .ok (.aload_n 0, 1) := by decide +kernel
theorem dX3_coarse_47 : decode cX3_coarse 47 = .ok (.getfield 44, 3) := by decide +kernel
theorem dX3_coarse_50 : decode cX3_coarse 50 = .ok (.aload_n 3, 1) := by decide +kernel
theorem dX3_coarse_51 : decode cX3_coarse 51 = .ok (.getfield 84, 3) := by decide +kernel
theorem dX3_coarse_54 : decode cX3_coarse 54 = .ok (.iload_n 2, 1) := by decide +kernel
theorem dX3_coarse_55 : decode cX3_coarse 55 = .ok (.invokestatic 93, 3) := by decide +kernel
theorem dX3_coarse_58 : decode cX3_coarse 58 = .ok (.invokevirtual 239, 3) := by decide +kernel
theorem dX3_coarse_61 : decode cX3_coarse 61 = .ok (.pop, 1) := by decide +kernel
theorem dX3_coarse_62 : decode cX3_coarse 62 = .ok (.aload_n 0, 1) := by decide +kernel
theorem dX3_coarse_63 : decode cX3_coarse 63 = .ok (.aload_n 0, 1) := by decide +kernel
theorem dX3_coarse_64 : decode cX3_coarse 64 = .ok (.getfield 44, 3) := by decide +kernel
theorem dX3_coarse_67 : decode cX3_coarse 67 = .ok (.getfield 90, 3) := by decide +kernel
theorem dX3_coarse_70 : decode cX3_coarse 70 = .ok (.invokevirtual 74, 3) := by decide +kernel
theorem dX3_coarse_73 : decode cX3_coarse 73 = .ok (.ireturn, 1) := by decide +kernel
theorem dX3_spread_0 : decode cX3_spread 0 = .ok (.aload_n 0, 1) := by decide +kernel
theorem dX3_spread_1 : decode cX3_spread 1 = .ok (.iload_n 1, 1) := by decide +kernel
theorem dX3_spread_2 : decode cX3_spread 2 = .ok (.invokevirtual 80, 3) := by decide +kernel
theorem dX3_spread_5 : decode cX3_spread 5 = .ok (.astore_n 3, 1) := by decide +kernel
theorem dX3_spread_6 : decode cX3_spread 6 = .ok (.aload_n 3, 1) := by decide +kernel
theorem dX3_spread_7 : decode cX3_spread 7 = .ok (.ifnonnull 9, 3) := by decide +kernel
theorem dX3_spread_10 : decode cX3_spread 10 = .ok (.aload_n 0, 1) := by decide +kernel
theorem dX3_spread_11 : decode cX3_spread 11 = .ok (.iconst 1, 1) := by decide +kernel
theorem dX3_spread_12 : decode cX3_spread 12 = .ok (.invokevirtual 58, 3) := by decide +kernel
theorem dX3_spread_15 : decode cX3_spread 15 = .ok (.ireturn, 1) := by decide +kernel
theorem dX3_spread_16 : decode cX3_spread 16 = .ok (.iload_n 2, 1) := by decide +kernel
theorem dX3_spread_17 : decode cX3_spread 17 = .ok (.invokestatic 162, 3) := by decide +kernel
theorem dX3_spread_20 : decode cX3_spread 20 = .ok (.ifCond .ne 9, 3) := by decide +kernel
theorem dX3_spread_23 : decode cX3_spread 23 = .ok (.aload_n 0, 1) := by decide +kernel
theorem dX3_spread_24 : decode cX3_spread 24 = .ok (.iconst 2, 1) := by decide +kernel
theorem dX3_spread_25 : decode cX3_spread 25 = .ok (.invokevirtual 58, 3) := by decide +kernel
theorem dX3_spread_28 : decode cX3_spread 28 = .ok (.ireturn, 1) := by decide +kernel
theorem dX3_spread_29 : decode cX3_spread 29 = .ok (.aload_n 0, 1) := by decide +kernel
theorem dX3_spread_30 : decode cX3_spread 30 = .ok (.aload_n 3, 1) := by decide +kernel
theorem dX3_spread_31 : decode cX3_spread 31 = .ok (.getfield 87, 3) := by decide +kernel
theorem dX3_spread_34 : decode cX3_spread 34 = .ok (.aload_n 3, 1) := by decide +kernel
theorem dX3_spread_35 : decode cX3_spread 35 = .ok (.getfield 87, 3) := by decide +kernel
theorem dX3_spread_38 : decode cX3_spread 38 = .ok (.iload_n 2, 1) := by decide +kernel
theorem dX3_spread_39 : decode cX3_spread 39 = .ok (.invokevirtual 263, 3) := by decide +kernel
theorem dX3_spread_42 : decode cX3_spread 42 = .ok (.invokevirtual 266, 3) := by decide +kernel
theorem dX3_spread_45 : decode cX3_spread 45 = .ok (.invokevirtual 74, 3) := by decide +kernel
theorem dX3_spread_48 : decode cX3_spread 48 = .ok (.ireturn, 1) := by decide +kernel
theorem dX3_finest_0 : decode cX3_finest 0 = .ok (.aload_n 0, 1) := by decide +kernel
theorem dX3_finest_1 : decode cX3_finest 1 = .ok (.iload_n 1, 1) := by decide +kernel
theorem dX3_finest_2 : decode cX3_finest 2 = .ok (.invokevirtual 80, 3) := by decide +kernel
theorem dX3_finest_5 : decode cX3_finest 5 = .ok (.astore_n 2, 1) := by decide +kernel
theorem dX3_finest_6 : decode cX3_finest 6 = .ok (.aload_n 2, 1) := by decide +kernel
theorem dX3_finest_7 : decode cX3_finest 7 = .ok (.ifnonnull 9, 3) := by decide +kernel
theorem dX3_finest_10 : decode cX3_finest 10 = .ok (.aload_n 0, 1) := by decide +kernel
theorem dX3_finest_11 : decode cX3_finest 11 = .ok (.iconst 1, 1) := by decide +kernel
theorem dX3_finest_12 : decode cX3_finest 12 = .ok (.invokevirtual 58, 3) := by decide +kernel
theorem dX3_finest_15 : decode cX3_finest 15 = .ok (.ireturn, 1) := by decide +kernel
theorem dX3_finest_16 : decode cX3_finest 16 = .ok (.aload_n 2, 1) := by decide +kernel
theorem dX3_finest_17 : decode cX3_finest 17 = .ok (.getfield 87, 3) := by decide +kernel
theorem dX3_finest_20 : decode cX3_finest 20 = .ok (.invokevirtual 110, 3) := by decide +kernel
theorem dX3_finest_23 : decode cX3_finest 23 = .ok (.istore_n 3, 1) := by decide +kernel
theorem dX3_finest_24 : decode cX3_finest 24 = .ok (.bipush 40, 2) := by decide +kernel
theorem dX3_finest_26 : decode cX3_finest 26 = .ok (.istore 4, 2) := by decide +kernel
theorem dX3_finest_28 : decode cX3_finest 28 = .ok (.iload 4, 2) := by decide +kernel
theorem dX3_finest_30 : decode cX3_finest 30 = .ok (.iconst 2, 1) := by decide +kernel
theorem dX3_finest_31 : decode cX3_finest 31 = .ok (.if_icmp .le 29, 3) := by decide +kernel
theorem dX3_finest_34 : decode cX3_finest 34 = .ok (.iload_n 3, 1) := by decide +kernel
theorem dX3_finest_35 : decode cX3_finest 35 = .ok (.aload_n 2, 1) := by decide +kernel
theorem dX3_finest_36 : decode cX3_finest 36 = .ok (.getfield 84, 3) := by decide +kernel
theorem dX3_finest_39 : decode cX3_finest 39 = .ok (.iload 4, 2) := by decide +kernel
theorem dX3_finest_41 : decode cX3_finest 41 = .ok (.invokestatic 93, 3) := by decide +kernel
theorem dX3_finest_44 : decode cX3_finest 44 = .ok (.if_icmp .gt 10, 3) := by decide +kernel
theorem dX3_finest_47 : decode cX3_finest 47 = .ok (.aload_n 0, 1) := by decide +kernel
theorem dX3_finest_48 : decode cX3_finest 48 = .ok (.iload 4, 2) := by decide +kernel
theorem dX3_finest_50 : decode cX3_finest 50 = .ok (.invokevirtual 74, 3) := by decide +kernel
theorem dX3_finest_53 : decode cX3_finest 53 = .ok (.ireturn, 1) := by decide +kernel
theorem dX3_finest_54 : decode cX3_finest 54 = .ok (.iinc 4 (-1), 3) := by decide +kernel
theorem dX3_finest_57 : decode cX3_finest 57 = .ok (.goto (-29), 3) := by decide +kernel
theorem dX3_finest_60 : decode cX3_finest 60 = .ok (.aload_n 0, 1) := by decide +kernel
theorem dX3_finest_61 : decode cX3_finest 61 = .ok (.iconst 2, 1) := by decide +kernel
theorem dX3_finest_62 : decode cX3_finest 62 = .ok (.invokevirtual 74, 3) := by decide +kernel
theorem dX3_finest_65 : decode cX3_finest 65 = .ok (.ireturn, 1) := by decide +kernel
theorem dX3_push_0 : decode cX3_push 0 = .ok (.aload_n 0, 1) := by decide +kernel
theorem dX3_push_1 : decode cX3_push 1 = .ok (.iload_n 1, 1) := by decide +kernel
theorem dX3_push_2 : decode cX3_push 2 = .ok (.invokevirtual 80, 3) := by decide +kernel
theorem dX3_push_5 : decode cX3_push 5 = .ok (.astore_n 3, 1) := by decide +kernel
theorem dX3_push_6 : decode cX3_push 6 = .ok (.aload_n 3, 1) := by decide +kernel
theorem dX3_push_7 : decode cX3_push 7 = .ok (.ifnonnull 9, 3) := by decide +kernel
theorem dX3_push_10 : decode cX3_push 10 = .ok (.aload_n 0, 1) := by decide +kernel
theorem dX3_push_11 : decode cX3_push 11 = .ok (.iconst 1, 1) := by decide +kernel
theorem dX3_push_12 : decode cX3_push 12 = .ok (.invokevirtual 58, 3) := by decide +kernel
theorem dX3_push_15 : decode cX3_push 15 = .ok (.ireturn, 1) := by decide +kernel
theorem dX3_push_16 : decode cX3_push 16 = .ok (.iload_n 2, 1) := by decide +kernel
theorem dX3_push_17 : decode cX3_push 17 = .ok (.invokestatic 162, 3) := by decide +kernel
theorem dX3_push_20 : decode cX3_push 20 = .ok (.ifCond .ne 9, 3) := by decide +kernel
theorem dX3_push_23 : decode cX3_push 23 = .ok (.aload_n 0, 1) := by decide +kernel
theorem dX3_push_24 : decode cX3_push 24 = .ok (.iconst 2, 1) := by decide +kernel
theorem dX3_push_25 : decode cX3_push 25 = .ok (.invokevirtual 58, 3) := by decide +kernel
theorem dX3_push_28 : decode cX3_push 28 = .ok (.ireturn, 1) := by decide +kernel
theorem dX3_push_29 : decode cX3_push 29 = .ok (.aload_n 3, 1) := by decide +kernel
theorem dX3_push_30 : decode cX3_push 30 = .ok (.getfield 84, 3) := by decide +kernel
theorem dX3_push_33 : decode cX3_push 33 = .ok (.sipush 1000, 3) := by decide +kernel
theorem dX3_push_36 : decode cX3_push 36 = .ok (.if_icmp .lt 9, 3) := by decide +kernel
theorem dX3_push_39 : decode cX3_push 39 = .ok (.aload_n 0, 1) := by decide +kernel
theorem dX3_push_40 : decode cX3_push 40 = .ok (.iconst 3, 1) := by decide +kernel
theorem dX3_push_41 : decode cX3_push 41 = .ok (.invokevirtual 58, 3) := by decide +kernel
theorem dX3_push_44 : decode cX3_push 44 = .ok (.ireturn, 1) := by decide +kernel
theorem dX3_push_45 : decode cX3_push 45 = .ok (.aload_n 3, 1) := by decide +kernel
theorem dX3_push_46 : decode cX3_push 46 = .ok (.iload_n 2, 1) := by decide +kernel
theorem dX3_push_47 : decode cX3_push 47 = .ok (.aload_n 0, 1) := by decide +kernel
theorem dX3_push_48 : decode cX3_push 48 = .ok (.getfield 26, 3) := by decide +kernel
theorem dX3_push_51 : decode cX3_push 51 = .ok (.invokevirtual 269, 3) := by decide +kernel
theorem dX3_push_54 : decode cX3_push 54 = .ok (.aload_n 0, 1) := by decide +kernel
theorem dX3_push_55 : decode cX3_push 55 = .ok (.aload_n 3, 1) := by decide +kernel
theorem dX3_push_56 : decode cX3_push 56 = .ok (.getfield 87, 3) := by decide +kernel
theorem dX3_push_59 : decode cX3_push 59 = .ok (.getfield 90, 3) := by decide +kernel
theorem dX3_push_62 : decode cX3_push 62 = .ok (.invokevirtual 74, 3) := by decide +kernel
theorem dX3_push_65 : decode cX3_push 65 = .ok (.ireturn, 1) := by decide +kernel
theorem dX3_draw_0 : decode cX3_draw 0 = .ok (.aload_n 0, 1) := by decide +kernel
theorem dX3_draw_1 : decode cX3_draw 1 = .ok (.iload_n 1, 1) := by decide +kernel
theorem dX3_draw_2 : decode cX3_draw 2 = .ok (.invokevirtual 80, 3) := by decide +kernel
theorem dX3_draw_5 : decode cX3_draw 5 = .ok (.astore 4, 2) := by decide +kernel
theorem dX3_draw_7 : decode cX3_draw 7 = .ok (.aload 4, 2) := by decide +kernel
theorem dX3_draw_9 : decode cX3_draw 9 = .ok (.ifnonnull 9, 3) := by decide +kernel
theorem dX3_draw_12 : decode cX3_draw 12 = .ok (.aload_n 0, 1) := by decide +kernel
theorem dX3_draw_13 : decode cX3_draw 13 = .ok (.iconst 1, 1) := by decide +kernel
theorem dX3_draw_14 : decode cX3_draw 14 = .ok (.invokevirtual 58, 3) := by decide +kernel
theorem dX3_draw_17 : decode cX3_draw 17 = .ok (.ireturn, 1) := by decide +kernel
theorem dX3_draw_18 : decode cX3_draw 18 = .ok (.iload_n 2, 1) := by decide +kernel
theorem dX3_draw_19 : decode cX3_draw 19 = .ok (.iconst 1, 1) := by decide +kernel
theorem dX3_draw_20 : decode cX3_draw 20 = .ok (.if_icmp .lt 22, 3) := by decide +kernel
theorem dX3_draw_23 : decode cX3_draw 23 = .ok (.iload_n 2, 1) := by decide +kernel
theorem dX3_draw_24 : decode cX3_draw 24 = .ok (.sipush 200, 3) := by decide +kernel
theorem dX3_draw_27 : decode cX3_draw 27 = .ok (.if_icmp .gt 15, 3) := by decide +kernel
theorem dX3_draw_30 : decode cX3_draw 30 = .ok (.iload_n 3, 1) := by decide +kernel
theorem dX3_draw_31 : decode cX3_draw 31 = .ok (.iconst 1, 1) := by decide +kernel
theorem dX3_draw_32 : decode cX3_draw 32 = .ok (.if_icmp .lt 10, 3) := by decide +kernel
theorem dX3_draw_35 : decode cX3_draw 35 = .ok (.iload_n 3, 1) := by decide +kernel
theorem dX3_draw_36 : decode cX3_draw 36 = .ok (.sipush 1000, 3) := by decide +kernel
theorem dX3_draw_39 : decode cX3_draw 39 = .ok (.if_icmp .le 9, 3) := by decide +kernel
theorem dX3_draw_42 : decode cX3_draw 42 = .ok (.aload_n 0, 1) := by decide +kernel
theorem dX3_draw_43 : decode cX3_draw 43 = .ok (.iconst 2, 1) := by decide +kernel
theorem dX3_draw_44 : decode cX3_draw 44 = .ok (.invokevirtual 58, 3) := by decide +kernel
theorem dX3_draw_47 : decode cX3_draw 47 = .ok (.ireturn, 1) := by decide +kernel
theorem dX3_draw_48 : decode cX3_draw 48 = .ok (.aload 4, 2) := by decide +kernel
theorem dX3_draw_50 : decode cX3_draw 50 = .ok (.getfield 84, 3) := by decide +kernel
theorem dX3_draw_53 : decode cX3_draw 53 = .ok (.iload_n 2, 1) := by decide +kernel
theorem dX3_draw_54 : decode cX3_draw 54 = .ok (.iadd, 1) := by decide +kernel
theorem dX3_draw_55 : decode cX3_draw 55 = .ok (.sipush 1000, 3) := by decide +kernel
theorem dX3_draw_58 : decode cX3_draw 58 = .ok (.if_icmp .le 9, 3) := by decide +kernel
theorem dX3_draw_61 : decode cX3_draw 61 = .ok (.aload_n 0, 1) := by decide +kernel
theorem dX3_draw_62 : decode cX3_draw 62 = .ok (.iconst 3, 1) := by decide +kernel
theorem dX3_draw_63 : decode cX3_draw 63 = .ok (.invokevirtual 58, 3) := by decide +kernel
theorem dX3_draw_66 : decode cX3_draw 66 = .ok (.ireturn, 1) := by decide +kernel
theorem dX3_draw_67 : decode cX3_draw 67 = .ok (.iconst 0, 1) := by decide +kernel
theorem dX3_draw_68 : decode cX3_draw 68 = .ok (.istore 5, 2) := by decide +kernel
theorem dX3_draw_70 : decode cX3_draw 70 = .ok (.iload 5, 2) := by decide +kernel
theorem dX3_draw_72 : decode cX3_draw 72 = .ok (.iload_n 2, 1) := by decide +kernel
theorem dX3_draw_73 : decode cX3_draw 73 = .ok (.if_icmp .ge 42, 3) := by decide +kernel
theorem dX3_draw_76 : decode cX3_draw 76 = .ok (.aload_n 0, 1) := by decide +kernel
theorem dX3_draw_77 : decode cX3_draw 77 = .ok (.bipush 75, 2) := by decide +kernel
theorem dX3_draw_79 : decode cX3_draw 79 = .ok (.aload_n 0, 1) := by decide +kernel
theorem dX3_draw_80 : decode cX3_draw 80 = .ok (.getfield 29, 3) := by decide +kernel
theorem dX3_draw_83 : decode cX3_draw 83 = .ok (.imul, 1) := by decide +kernel
theorem dX3_draw_84 : decode cX3_draw 84 = .ok (.bipush 74, 2) := by decide +kernel
theorem dX3_draw_86 : decode cX3_draw 86 = .ok (.iadd, 1) := by decide +kernel
theorem dX3_draw_87 : decode cX3_draw 87 = .ok (.ldc_w 273, 3) := by decide +kernel
theorem dX3_draw_90 : decode cX3_draw 90 = .ok (.irem, 1) := by decide +kernel
theorem dX3_draw_91 : decode cX3_draw 91 = .ok (.putfield 29, 3) := by decide +kernel
theorem dX3_draw_94 : decode cX3_draw 94 = .ok (.aload 4, 2) := by decide +kernel
theorem dX3_draw_96 : decode cX3_draw 96 = .ok (.aload_n 0, 1) := by decide +kernel
theorem dX3_draw_97 : decode cX3_draw 97 = .ok (.getfield 29, 3) := by decide +kernel
theorem dX3_draw_100 : decode cX3_draw 100 = .ok (.iload_n 3, 1) := by decide +kernel
theorem dX3_draw_101 : decode cX3_draw 101 = .ok (.irem, 1) := by decide +kernel
theorem dX3_draw_102 : decode cX3_draw 102 = .ok (.aload_n 0, 1) := by decide +kernel
theorem dX3_draw_103 : decode cX3_draw 103 = .ok (.getfield 26, 3) := by decide +kernel
theorem dX3_draw_106 : decode cX3_draw 106 = .ok (.invokevirtual 269, 3) := by decide +kernel
theorem dX3_draw_109 : decode cX3_draw 109 = .ok (.iinc 5 1, 3) := by decide +kernel
theorem dX3_draw_112 : decode cX3_draw 112 = .ok (.goto (-42), 3) := by decide +kernel
theorem dX3_draw_115 : decode cX3_draw 115 = .ok (.aload_n 0, 1) := by decide +kernel
theorem dX3_draw_116 : decode cX3_draw 116 = .ok (.aload 4, 2) := by decide +kernel
theorem dX3_draw_118 : decode cX3_draw 118 = .ok (.getfield 87, 3) := by decide +kernel
theorem dX3_draw_121 : decode cX3_draw 121 = .ok (.getfield 90, 3) := by decide +kernel
theorem dX3_draw_124 : decode cX3_draw 124 = .ok (.invokevirtual 74, 3) := by decide +kernel
theorem dX3_draw_127 : decode cX3_draw 127 = .ok (.ireturn, 1) := by decide +kernel
theorem dX3_seed_0 : decode cX3_seed 0 = .ok (.iload_n 1, 1) := by decide +kernel
theorem dX3_seed_1 : decode cX3_seed 1 = .ok (.ifCond .lt 10, 3) := by decide +kernel
theorem dX3_seed_4 : decode cX3_seed 4 = .ok (.iload_n 1, 1) := by decide +kernel
theorem dX3_seed_5 : decode cX3_seed 5 = .ok (.ldc_w 273, 3) := by decide +kernel
theorem dX3_seed_8 : decode cX3_seed 8 = .ok (.if_icmp .lt 10, 3) := by decide +kernel
theorem dX3_seed_11 : decode cX3_seed 11 = .ok (.aload_n 0, 1) := by decide +kernel
theorem dX3_seed_12 : decode cX3_seed 12 = .ok (.iconst 2, 1) := by decide +kernel
theorem dX3_seed_13 : decode cX3_seed 13 = .ok (.putfield 32, 3) := by decide +kernel
theorem dX3_seed_16 : decode cX3_seed 16 = .ok (.iconst 0, 1) := by decide +kernel
theorem dX3_seed_17 : decode cX3_seed 17 = .ok (.ireturn, 1) := by decide +kernel
theorem dX3_seed_18 : decode cX3_seed 18 = .ok (.aload_n 0, 1) := by decide +kernel
theorem dX3_seed_19 : decode cX3_seed 19 = .ok (.iconst 0, 1) := by decide +kernel
theorem dX3_seed_20 : decode cX3_seed 20 = .ok (.putfield 32, 3) := by decide +kernel
theorem dX3_seed_23 : decode cX3_seed 23 = .ok (.aload_n 0, 1) := by decide +kernel
theorem dX3_seed_24 : decode cX3_seed 24 = .ok (.iload_n 1, 1) := by decide +kernel
theorem dX3_seed_25 : decode cX3_seed 25 = .ok (.putfield 29, 3) := by decide +kernel
theorem dX3_seed_28 : decode cX3_seed 28 = .ok (.iconst 1, 1) := by decide +kernel
theorem dX3_seed_29 : decode cX3_seed 29 = .ok (.ireturn, 1) := by decide +kernel
theorem dX3_compress_0 : decode cX3_compress 0 = .ok (.aload_n 0, 1) := by decide +kernel
theorem dX3_compress_1 : decode cX3_compress 1 = .ok (.iload_n 1, 1) := by decide +kernel
theorem dX3_compress_2 : decode cX3_compress 2 = .ok (.invokevirtual 80, 3) := by decide +kernel
theorem dX3_compress_5 : decode cX3_compress 5 = .ok (.astore_n 2, 1) := by decide +kernel
theorem dX3_compress_6 : decode cX3_compress 6 = .ok (.aload_n 2, 1) := by decide +kernel
theorem dX3_compress_7 : decode cX3_compress 7 = .ok (.ifnonnull 9, 3) := by decide +kernel
theorem dX3_compress_10 : decode cX3_compress 10 = .ok (.aload_n 0, 1) := by decide +kernel
theorem dX3_compress_11 : decode cX3_compress 11 = .ok (.iconst 1, 1) := by decide +kernel
theorem dX3_compress_12 : decode cX3_compress 12 = .ok (.invokevirtual 58, 3) := by decide +kernel
theorem dX3_compress_15 : decode cX3_compress 15 = .ok (.ireturn, 1) := by decide +kernel
theorem dX3_compress_16 : decode cX3_compress 16 = .ok (.aload_n 0, 1) := by decide +kernel
theorem dX3_compress_17 : decode cX3_compress 17 = .ok (.aload_n 2, 1) := by decide +kernel
theorem dX3_compress_18 : decode cX3_compress 18 = .ok (.aload_n 0, 1) := by decide +kernel
theorem dX3_compress_19 : decode cX3_compress 19 = .ok (.getfield 26, 3) := by decide +kernel
theorem dX3_compress_22 : decode cX3_compress 22 = .ok (.invokevirtual 274, 3) := by decide +kernel
theorem dX3_compress_25 : decode cX3_compress 25 = .ok (.invokevirtual 74, 3) := by decide +kernel
theorem dX3_compress_28 : decode cX3_compress 28 = .ok (.ireturn, 1) := by decide +kernel
theorem dX3_merge_0 : decode cX3_merge 0 = .ok (.aload_n 0, 1) := by decide +kernel
theorem dX3_merge_1 : decode cX3_merge 1 = .ok (.iload_n 1, 1) := by decide +kernel
theorem dX3_merge_2 : decode cX3_merge 2 = .ok (.invokevirtual 80, 3) := by decide +kernel
theorem dX3_merge_5 : decode cX3_merge 5 = .ok (.astore_n 3, 1) := by decide +kernel
theorem dX3_merge_6 : decode cX3_merge 6 = .ok (.aload_n 0, 1) := by decide +kernel
theorem dX3_merge_7 : decode cX3_merge 7 = .ok (.iload_n 1, 1) := by decide +kernel
theorem dX3_merge_8 : decode cX3_merge 8 = .ok (.iload_n 2, 1) := by decide +kernel
theorem dX3_merge_9 : decode cX3_merge 9 = .ok (.invokevirtual 200, 3) := by decide +kernel
theorem dX3_merge_12 : decode cX3_merge 12 = .ok (.astore 4, 2) := by decide +kernel
theorem dX3_merge_14 : decode cX3_merge 14 = .ok (.aload_n 3, 1) := by decide +kernel
theorem dX3_merge_15 : decode cX3_merge 15 = .ok (.ifnull 8, 3) := by decide +kernel
theorem dX3_merge_18 : decode cX3_merge 18 = .ok (.aload 4, 2) := by decide +kernel
theorem dX3_merge_20 : decode cX3_merge 20 = .ok (.ifnonnull 9, 3) := by decide +kernel
theorem dX3_merge_23 : decode cX3_merge 23 = .ok (.aload_n 0, 1) := by decide +kernel
theorem dX3_merge_24 : decode cX3_merge 24 = .ok (.iconst 1, 1) := by decide +kernel
theorem dX3_merge_25 : decode cX3_merge 25 = .ok (.invokevirtual 58, 3) := by decide +kernel
theorem dX3_merge_28 : decode cX3_merge 28 = .ok (.ireturn, 1) := by decide +kernel
theorem dX3_merge_29 : decode cX3_merge 29 = .ok (.aload_n 3, 1) := by decide +kernel
theorem dX3_merge_30 : decode cX3_merge 30 = .ok (.getfield 84, 3) := by decide +kernel
theorem dX3_merge_33 : decode cX3_merge 33 = .ok (.aload 4, 2) := by decide +kernel
theorem dX3_merge_35 : decode cX3_merge 35 = .ok (.getfield 84, 3) := by decide +kernel
theorem dX3_merge_38 : decode cX3_merge 38 = .ok (.iadd, 1) := by decide +kernel
theorem dX3_merge_39 : decode cX3_merge 39 = .ok (.sipush 1000, 3) := by decide +kernel
theorem dX3_merge_42 : decode cX3_merge 42 = .ok (.if_icmp .le 9, 3) := by decide +kernel
theorem dX3_merge_45 : decode cX3_merge 45 = .ok (.aload_n 0, 1) := by decide +kernel
theorem dX3_merge_46 : decode cX3_merge 46 = .ok (.iconst 3, 1) := by decide +kernel
theorem dX3_merge_47 : decode cX3_merge 47 = .ok (.invokevirtual 58, 3) := by decide +kernel
theorem dX3_merge_50 : decode cX3_merge 50 = .ok (.ireturn, 1) := by decide +kernel
theorem dX3_merge_51 : decode cX3_merge 51 = .ok (.aload_n 0, 1) := by decide +kernel
theorem dX3_merge_52 : decode cX3_merge 52 = .ok (.getfield 44, 3) := by decide +kernel
theorem dX3_merge_55 : decode cX3_merge 55 = .ok (.aload_n 3, 1) := by decide +kernel
theorem dX3_merge_56 : decode cX3_merge 56 = .ok (.getfield 87, 3) := by decide +kernel
theorem dX3_merge_59 : decode cX3_merge 59 = .ok (.aload 4, 2) := by decide +kernel
theorem dX3_merge_61 : decode cX3_merge 61 = .ok (.getfield 87, 3) := by decide +kernel
theorem dX3_merge_64 : decode cX3_merge 64 = .ok (.invokevirtual 235, 3) := by decide +kernel
theorem dX3_merge_67 : decode cX3_merge 67 = .ok (.aload_n 3, 1) := by decide +kernel
theorem dX3_merge_68 : decode cX3_merge 68 = .ok (.getfield 87, 3) := by decide +kernel
theorem dX3_merge_71 : decode cX3_merge 71 = .ok (.aload_n 0, 1) := by decide +kernel
theorem dX3_merge_72 : decode cX3_merge 72 = .ok (.getfield 44, 3) := by decide +kernel
theorem dX3_merge_75 : decode cX3_merge 75 = .ok (.invokevirtual 256, 3) := by decide +kernel
theorem dX3_merge_78 : decode cX3_merge 78 = .ok (.aload_n 3, 1) := by decide +kernel
theorem dX3_merge_79 : decode cX3_merge 79 = .ok (.aload 4, 2) := by decide +kernel
theorem dX3_merge_81 : decode cX3_merge 81 = .ok (.invokevirtual 277, 3) := by decide +kernel
theorem dX3_merge_84 : decode cX3_merge 84 = .ok (.aload 4, 2) := by decide +kernel
theorem dX3_merge_86 : decode cX3_merge 86 = .ok (.invokevirtual 281, 3) := by decide +kernel
theorem dX3_merge_89 : decode cX3_merge 89 = .ok (.aload_n 3, 1) := by decide +kernel
theorem dX3_merge_90 : decode cX3_merge 90 = .ok (.aload_n 0, 1) := by decide +kernel
theorem dX3_merge_91 : decode cX3_merge 91 = .ok (.getfield 26, 3) := by decide +kernel
theorem dX3_merge_94 : decode cX3_merge 94 = .ok (.invokevirtual 274, 3) := by decide +kernel
theorem dX3_merge_97 : decode cX3_merge 97 = .ok (.pop, 1) := by decide +kernel
theorem dX3_merge_98 : decode cX3_merge 98 = .ok (.aload_n 0, 1) := by decide +kernel
theorem dX3_merge_99 : decode cX3_merge 99 = .ok (.aload_n 3, 1) := by decide +kernel
theorem dX3_merge_100 : decode cX3_merge 100 = .ok (.getfield 87, 3) := by decide +kernel
theorem dX3_merge_103 : decode cX3_merge 103 = .ok (.getfield 90, 3) := by decide +kernel
theorem dX3_merge_106 : decode cX3_merge 106 = .ok (.invokevirtual 74, 3) := by decide +kernel
theorem dX3_merge_109 : decode cX3_merge 109 = .ok (.ireturn, 1) := by decide +kernel
theorem dX3_clear_0 : decode cX3_clear 0 = .ok (.aload_n 0, 1) := by decide +kernel
theorem dX3_clear_1 : decode cX3_clear 1 = .ok (.iload_n 1, 1) := by decide +kernel
theorem dX3_clear_2 : decode cX3_clear 2 = .ok (.invokevirtual 80, 3) := by decide +kernel
theorem dX3_clear_5 : decode cX3_clear 5 = .ok (.astore_n 2, 1) := by decide +kernel
theorem dX3_clear_6 : decode cX3_clear 6 = .ok (.aload_n 2, 1) := by decide +kernel
theorem dX3_clear_7 : decode cX3_clear 7 = .ok (.ifnonnull 9, 3) := by decide +kernel
theorem dX3_clear_10 : decode cX3_clear 10 = .ok (.aload_n 0, 1) := by decide +kernel
theorem dX3_clear_11 : decode cX3_clear 11 = .ok (.iconst 1, 1) := by decide +kernel
theorem dX3_clear_12 : decode cX3_clear 12 = .ok (.invokevirtual 58, 3) := by decide +kernel
theorem dX3_clear_15 : decode cX3_clear 15 = .ok (.ireturn, 1) := by decide +kernel
theorem dX3_clear_16 : decode cX3_clear 16 = .ok (.aload_n 2, 1) := by decide +kernel
theorem dX3_clear_17 : decode cX3_clear 17 = .ok (.getfield 84, 3) := by decide +kernel
theorem dX3_clear_20 : decode cX3_clear 20 = .ok (.istore_n 3, 1) := by decide +kernel
theorem dX3_clear_21 : decode cX3_clear 21 = .ok (.aload_n 2, 1) := by decide +kernel
theorem dX3_clear_22 : decode cX3_clear 22 = .ok (.invokevirtual 281, 3) := by decide +kernel
theorem dX3_clear_25 : decode cX3_clear 25 = .ok (.aload_n 0, 1) := by decide +kernel
theorem dX3_clear_26 : decode cX3_clear 26 = .ok (.iload_n 3, 1) := by decide +kernel
theorem dX3_clear_27 : decode cX3_clear 27 = .ok (.invokevirtual 74, 3) := by decide +kernel
theorem dX3_clear_30 : decode cX3_clear 30 = .ok (.ireturn, 1) := by decide +kernel
theorem dX3_every_0 : decode cX3_every 0 = .ok (.aload_n 0, 1) := by decide +kernel
theorem dX3_every_1 : decode cX3_every 1 = .ok (.iload_n 1, 1) := by decide +kernel
theorem dX3_every_2 : decode cX3_every 2 = .ok (.invokevirtual 80, 3) := by decide +kernel
theorem dX3_every_5 : decode cX3_every 5 = .ok (.astore_n 3, 1) := by decide +kernel
theorem dX3_every_6 : decode cX3_every 6 = .ok (.aload_n 3, 1) := by decide +kernel
theorem dX3_every_7 : decode cX3_every 7 = .ok (.ifnonnull 9, 3) := by decide +kernel
theorem dX3_every_10 : decode cX3_every 10 = .ok (.aload_n 0, 1) := by decide +kernel
theorem dX3_every_11 : decode cX3_every 11 = .ok (.iconst 1, 1) := by decide +kernel
theorem dX3_every_12 : decode cX3_every 12 = .ok (.invokevirtual 58, 3) := by decide +kernel
theorem dX3_every_15 : decode cX3_every 15 = .ok (.ireturn, 1) := by decide +kernel
theorem dX3_every_16 : decode cX3_every 16 = .ok (.iload_n 2, 1) := by decide +kernel
theorem dX3_every_17 : decode cX3_every 17 = .ok (.iconst 1, 1) := by decide +kernel
theorem dX3_every_18 : decode cX3_every 18 = .ok (.if_icmp .lt 9, 3) := by decide +kernel
theorem dX3_every_21 : decode cX3_every 21 = .ok (.iload_n 2, 1) := by decide +kernel
theorem dX3_every_22 : decode cX3_every 22 = .ok (.bipush 60, 2) := by decide +kernel
theorem dX3_every_24 : decode cX3_every 24 = .ok (.if_icmp .le 9, 3) := by decide +kernel
theorem dX3_every_27 : decode cX3_every 27 = .ok (.aload_n 0, 1) := by decide +kernel
theorem dX3_every_28 : decode cX3_every 28 = .ok (.iconst 2, 1) := by decide +kernel
theorem dX3_every_29 : decode cX3_every 29 = .ok (.invokevirtual 58, 3) := by decide +kernel
theorem dX3_every_32 : decode cX3_every 32 = .ok (.ireturn, 1) := by decide +kernel
theorem dX3_every_33 : decode cX3_every 33 = .ok (.aload_n 3, 1) := by decide +kernel
theorem dX3_every_34 : decode cX3_every 34 = .ok (.iload_n 2, 1) := by decide +kernel
theorem dX3_every_35 : decode cX3_every 35 = .ok (.putfield 97, 3) := by decide +kernel
theorem dX3_every_38 : decode cX3_every 38 = .ok (.aload_n 3, 1) := by decide +kernel
theorem dX3_every_39 : decode cX3_every 39 = .ok (.invokevirtual 284, 3) := by decide +kernel
theorem dX3_every_42 : decode cX3_every 42 = .ok (.ifCond .eq 12, 3) := by decide +kernel
theorem dX3_every_45 : decode cX3_every 45 = .ok (.aload_n 3, 1) := by decide +kernel
theorem dX3_every_46 : decode cX3_every 46 = .ok (.aload_n 0, 1) := by decide +kernel
theorem dX3_every_47 : decode cX3_every 47 = .ok (.getfield 26, 3) := by decide +kernel
theorem dX3_every_50 : decode cX3_every 50 = .ok (.invokevirtual 274, 3) := by decide +kernel
theorem dX3_every_53 : decode cX3_every 53 = .ok (.pop, 1) := by decide +kernel
theorem dX3_every_54 : decode cX3_every 54 = .ok (.aload_n 0, 1) := by decide +kernel
theorem dX3_every_55 : decode cX3_every 55 = .ok (.aload_n 3, 1) := by decide +kernel
theorem dX3_every_56 : decode cX3_every 56 = .ok (.getfield 87, 3) := by decide +kernel
theorem dX3_every_59 : decode cX3_every 59 = .ok (.getfield 90, 3) := by decide +kernel
theorem dX3_every_62 : decode cX3_every 62 = .ok (.invokevirtual 74, 3) := by decide +kernel
theorem dX3_every_65 : decode cX3_every 65 = .ok (.ireturn, 1) := by decide +kernel
theorem dX3_error_0 : decode cX3_error 0 = .ok (.aload_n 0, 1) := by decide +kernel
theorem dX3_error_1 : decode cX3_error 1 = .ok (.getfield 22, 3) := by decide +kernel
theorem dX3_error_4 : decode cX3_error 4 = .ok (.ifCond .ne 9, 3) := by decide +kernel
theorem dX3_error_7 : decode cX3_error 7 = .ok (.aload_n 0, 1) := by decide +kernel
theorem dX3_error_8 : decode cX3_error 8 = .ok (.iconst 1, 1) := by decide +kernel
theorem dX3_error_9 : decode cX3_error 9 = .ok (.invokevirtual 58, 3) := by decide +kernel
theorem dX3_error_12 : decode cX3_error 12 = .ok (.ireturn, 1) := by decide +kernel
theorem dX3_error_13 : decode cX3_error 13 = .ok (.iload_n 1, 1) := by decide +kernel
theorem dX3_error_14 : decode cX3_error 14 = .ok (.iconst 2, 1) := by decide +kernel
theorem dX3_error_15 : decode cX3_error 15 = .ok (.if_icmp .lt 9, 3) := by decide +kernel
theorem dX3_error_18 : decode cX3_error 18 = .ok (.iload_n 1, 1) := by decide +kernel
theorem dX3_error_19 : decode cX3_error 19 = .ok (.bipush 40, 2) := by decide +kernel
theorem dX3_error_21 : decode cX3_error 21 = .ok (.if_icmp .le 9, 3) := by decide +kernel
theorem dX3_error_24 : decode cX3_error 24 = .ok (.aload_n 0, 1) := by decide +kernel
theorem dX3_error_25 : decode cX3_error 25 = .ok (.iconst 2, 1) := by decide +kernel
theorem dX3_error_26 : decode cX3_error 26 = .ok (.invokevirtual 58, 3) := by decide +kernel
theorem dX3_error_29 : decode cX3_error 29 = .ok (.ireturn, 1) := by decide +kernel
theorem dX3_error_30 : decode cX3_error 30 = .ok (.iconst 0, 1) := by decide +kernel
theorem dX3_error_31 : decode cX3_error 31 = .ok (.istore_n 2, 1) := by decide +kernel
theorem dX3_error_32 : decode cX3_error 32 = .ok (.iload_n 2, 1) := by decide +kernel
theorem dX3_error_33 : decode cX3_error 33 = .ok (.aload_n 0, 1) := by decide +kernel
theorem dX3_error_34 : decode cX3_error 34 = .ok (.getfield 22, 3) := by decide +kernel
theorem dX3_error_37 : decode cX3_error 37 = .ok (.if_icmp .ge 43, 3) := by decide +kernel
theorem dX3_error_40 : decode cX3_error 40 = .ok (.aload_n 0, 1) := by decide +kernel
theorem dX3_error_41 : decode cX3_error 41 = .ok (.iload_n 2, 1) := by decide +kernel
theorem dX3_error_42 : decode cX3_error 42 = .ok (.invokevirtual 80, 3) := by decide +kernel
theorem dX3_error_45 : decode cX3_error 45 = .ok (.astore_n 3, 1) := by decide +kernel
theorem dX3_error_46 : decode cX3_error 46 = .ok (.aload_n 3, 1) := by decide +kernel
theorem dX3_error_47 : decode cX3_error 47 = .ok (.ifnull 27, 3) := by decide +kernel
theorem dX3_error_50 : decode cX3_error 50 = .ok (.aload_n 3, 1) := by decide +kernel
theorem dX3_error_51 : decode cX3_error 51 = .ok (.getfield 87, 3) := by decide +kernel
theorem dX3_error_54 : decode cX3_error 54 = .ok (.invokevirtual 110, 3) := by decide +kernel
theorem dX3_error_57 : decode cX3_error 57 = .ok (.aload_n 3, 1) := by decide +kernel
theorem dX3_error_58 : decode cX3_error 58 = .ok (.getfield 84, 3) := by decide +kernel
theorem dX3_error_61 : decode cX3_error 61 = .ok (.iload_n 1, 1) := by decide +kernel
theorem dX3_error_62 : decode cX3_error 62 = .ok (.invokestatic 93, 3) := by decide +kernel
theorem dX3_error_65 : decode cX3_error 65 = .ok (.if_icmp .le 9, 3) := by decide +kernel
theorem dX3_error_68 : decode cX3_error 68 = .ok (.aload_n 0, 1) := by decide +kernel
theorem dX3_error_69 : decode cX3_error 69 = .ok (.iconst 5, 1) := by decide +kernel
theorem dX3_error_70 : decode cX3_error 70 = .ok (.invokevirtual 58, 3) := by decide +kernel
theorem dX3_error_73 : decode cX3_error 73 = .ok (.ireturn, 1) := by decide +kernel
theorem dX3_error_74 : decode cX3_error 74 = .ok (.iinc 2 1, 3) := by decide +kernel
theorem dX3_error_77 : decode cX3_error 77 = .ok (.goto (-45), 3) := by decide +kernel
theorem dX3_error_80 : decode cX3_error 80 = .ok (.aload_n 0, 1) := by decide +kernel
theorem dX3_error_81 : decode cX3_error 81 = .ok (.getfield 26, 3) := by decide +kernel
theorem dX3_error_84 : decode cX3_error 84 = .ok (.istore_n 2, 1) := by decide +kernel
theorem dX3_error_85 : decode cX3_error 85 = .ok (.aload_n 0, 1) := by decide +kernel
theorem dX3_error_86 : decode cX3_error 86 = .ok (.iload_n 1, 1) := by decide +kernel
theorem dX3_error_87 : decode cX3_error 87 = .ok (.putfield 26, 3) := by decide +kernel
theorem dX3_error_90 : decode cX3_error 90 = .ok (.aload_n 0, 1) := by decide +kernel
theorem dX3_error_91 : decode cX3_error 91 = .ok (.iload_n 2, 1) := by decide +kernel
theorem dX3_error_92 : decode cX3_error 92 = .ok (.invokevirtual 74, 3) := by decide +kernel
theorem dX3_error_95 : decode cX3_error 95 = .ok (.ireturn, 1) := by decide +kernel
theorem dX3_idle_0 : decode cX3_idle 0 = .ok (.iload_n 1, 1) := by decide +kernel
theorem dX3_idle_1 : decode cX3_idle 1 = .ok (.istore_n 2, 1) := by decide +kernel
theorem dX3_idle_2 : decode cX3_idle 2 = .ok (.iconst 0, 1) := by decide +kernel
theorem dX3_idle_3 : decode cX3_idle 3 = .ok (.istore_n 3, 1) := by decide +kernel
theorem dX3_idle_4 : decode cX3_idle 4 = .ok (.iload_n 3, 1) := by decide +kernel
theorem dX3_idle_5 : decode cX3_idle 5 = .ok (.aload_n 0, 1) := by decide +kernel
theorem dX3_idle_6 : decode cX3_idle 6 = .ok (.getfield 22, 3) := by decide +kernel
theorem dX3_idle_9 : decode cX3_idle 9 = .ok (.if_icmp .ge 38, 3) := by decide +kernel
theorem dX3_idle_12 : decode cX3_idle 12 = .ok (.aload_n 0, 1) := by decide +kernel
theorem dX3_idle_13 : decode cX3_idle 13 = .ok (.iload_n 3, 1) := by decide +kernel
theorem dX3_idle_14 : decode cX3_idle 14 = .ok (.invokevirtual 80, 3) := by decide +kernel
theorem dX3_idle_17 : decode cX3_idle 17 = .ok (.astore 4, 2) := by decide +kernel
theorem dX3_idle_19 : decode cX3_idle 19 = .ok (.aload 4, 2) := by decide +kernel
theorem dX3_idle_21 : decode cX3_idle 21 = .ok (.ifnull 20, 3) := by decide +kernel
theorem dX3_idle_24 : decode cX3_idle 24 = .ok (.aload 4, 2) := by decide +kernel
theorem dX3_idle_26 : decode cX3_idle 26 = .ok (.getfield 84, 3) := by decide +kernel
theorem dX3_idle_29 : decode cX3_idle 29 = .ok (.ifCond .ne 12, 3) := by decide +kernel
theorem dX3_idle_32 : decode cX3_idle 32 = .ok (.iload_n 2, 1) := by decide +kernel
theorem dX3_idle_33 : decode cX3_idle 33 = .ok (.ifCond .ne 5, 3) := by decide +kernel
theorem dX3_idle_36 : decode cX3_idle 36 = .ok (.iload_n 3, 1) := by decide +kernel
theorem dX3_idle_37 : decode cX3_idle 37 = .ok (.ireturn, 1) := by decide +kernel
theorem dX3_idle_38 : decode cX3_idle 38 = .ok (.iinc 2 (-1), 3) := by decide +kernel
theorem dX3_idle_41 : decode cX3_idle 41 = .ok (.iinc 3 1, 3) := by decide +kernel
theorem dX3_idle_44 : decode cX3_idle 44 = .ok (.goto (-40), 3) := by decide +kernel
theorem dX3_idle_47 : decode cX3_idle 47 = .ok (.new 288, 3) := by decide +kernel
theorem dX3_idle_50 : decode cX3_idle 50 = .ok (.dup, 1) := by decide +kernel
theorem dX3_idle_51 : decode cX3_idle 51 = .ok (.ldc_w 290, 3) := by decide +kernel
theorem dX3_idle_54 : decode cX3_idle 54 = .ok (.invokespecial 292, 3) := by decide +kernel
theorem dX3_idle_57 : decode cX3_idle 57 = .ok (.athrow, 1) := by decide +kernel
theorem dX3_size_0 : decode cX3_size 0 = .ok (.aload_n 0, 1) := by decide +kernel
theorem dX3_size_1 : decode cX3_size 1 = .ok (.getfield 10, 3) := by decide +kernel
theorem dX3_size_4 : decode cX3_size 4 = .ok (.getfield 51, 3) := by decide +kernel
theorem dX3_size_7 : decode cX3_size 7 = .ok (.ireturn, 1) := by decide +kernel
theorem dX3_trouble_0 : decode cX3_trouble 0 = .ok (.aload_n 0, 1) := by decide +kernel
theorem dX3_trouble_1 : decode cX3_trouble 1 = .ok (.getfield 32, 3) := by decide +kernel
theorem dX3_trouble_4 : decode cX3_trouble 4 = .ok (.ireturn, 1) := by decide +kernel
theorem dX3_refuse_0 : decode cX3_refuse 0 = .ok (.aload_n 0, 1) := by decide +kernel
theorem dX3_refuse_1 : decode cX3_refuse 1 = .ok (.iload_n 1, 1) := by decide +kernel
theorem dX3_refuse_2 : decode cX3_refuse 2 = .ok (.putfield 32, 3) := by decide +kernel
theorem dX3_refuse_5 : decode cX3_refuse 5 = .ok (.iconst (-1), 1) := by decide +kernel
theorem dX3_refuse_6 : decode cX3_refuse 6 = .ok (.ireturn, 1) := by decide +kernel
theorem dX3_pass_0 : decode cX3_pass 0 = .ok (.aload_n 0, 1) := by decide +kernel
theorem dX3_pass_1 : decode cX3_pass 1 = .ok (.iconst 0, 1) := by decide +kernel
theorem dX3_pass_2 : decode cX3_pass 2 = .ok (.putfield 32, 3) := by decide +kernel
theorem dX3_pass_5 : decode cX3_pass 5 = .ok (.iload_n 1, 1) := by decide +kernel
theorem dX3_pass_6 : decode cX3_pass 6 = .ok (.ireturn, 1) := by decide +kernel
theorem dX3_find_0 : decode cX3_find 0 = .ok (.iload_n 1, 1) := by decide +kernel
theorem dX3_find_1 : decode cX3_find 1 = .ok (.ifCond .lt 25, 3) := by decide +kernel
theorem dX3_find_4 : decode cX3_find 4 = .ok (.iload_n 1, 1) := by decide +kernel
theorem dX3_find_5 : decode cX3_find 5 = .ok (.aload_n 0, 1) := by decide +kernel
theorem dX3_find_6 : decode cX3_find 6 = .ok (.getfield 22, 3) := by decide +kernel
theorem dX3_find_9 : decode cX3_find 9 = .ok (.if_icmp .ge 17, 3) := by decide +kernel
theorem dX3_find_12 : decode cX3_find 12 = .ok (.iload_n 1, 1) := by decide +kernel
theorem dX3_find_13 : decode cX3_find 13 = .ok (.iconst 4, 1) := by decide +kernel
theorem dX3_find_14 : decode cX3_find 14 = .ok (.if_icmp .ge 12, 3) := by decide +kernel
theorem dX3_find_17 : decode cX3_find 17 = .ok (.aload_n 0, 1) := by decide +kernel
theorem dX3_find_18 : decode cX3_find 18 = .ok (.getfield 18, 3) := by decide +kernel
theorem dX3_find_21 : decode cX3_find 21 = .ok (.iload_n 1, 1) := by decide +kernel
theorem dX3_find_22 : decode cX3_find 22 = .ok (.aaload, 1) := by decide +kernel
theorem dX3_find_23 : decode cX3_find 23 = .ok (.goto 4, 3) := by decide +kernel
theorem dX3_find_26 : decode cX3_find 26 = .ok (.aconst_null, 1) := by decide +kernel
theorem dX3_find_27 : decode cX3_find 27 = .ok (.areturn, 1) := by decide +kernel
theorem dX3_findOther_0 : decode cX3_findOther 0 = .ok (.iload_n 1, 1) := by decide +kernel
theorem dX3_findOther_1 : decode cX3_findOther 1 = .ok (.iload_n 2, 1) := by decide +kernel
theorem dX3_findOther_2 : decode cX3_findOther 2 = .ok (.if_icmp .ne 7, 3) := by decide +kernel
theorem dX3_findOther_5 : decode cX3_findOther 5 = .ok (.aconst_null, 1) := by decide +kernel
theorem dX3_findOther_6 : decode cX3_findOther 6 = .ok (.goto 8, 3) := by decide +kernel
theorem dX3_findOther_9 : decode cX3_findOther 9 = .ok (.aload_n 0, 1) := by decide +kernel
theorem dX3_findOther_10 : decode cX3_findOther 10 = .ok (.iload_n 2, 1) := by decide +kernel
theorem dX3_findOther_11 : decode cX3_findOther 11 = .ok (.invokevirtual 80, 3) := by decide +kernel
theorem dX3_findOther_14 : decode cX3_findOther 14 = .ok (.areturn, 1) := by decide +kernel
theorem dX3_isValue_0 : decode cX3_isValue 0 = .ok (.iload_n 0, 1) := by decide +kernel
theorem dX3_isValue_1 : decode cX3_isValue 1 = .ok (.ifCond .lt 14, 3) := by decide +kernel
theorem dX3_isValue_4 : decode cX3_isValue 4 = .ok (.iload_n 0, 1) := by decide +kernel
theorem dX3_isValue_5 : decode cX3_isValue 5 = .ok (.sipush 1000, 3) := by decide +kernel
theorem dX3_isValue_8 : decode cX3_isValue 8 = .ok (.if_icmp .ge 7, 3) := by decide +kernel
theorem dX3_isValue_11 : decode cX3_isValue 11 = .ok (.iconst 1, 1) := by decide +kernel
theorem dX3_isValue_12 : decode cX3_isValue 12 = .ok (.goto 4, 3) := by decide +kernel
theorem dX3_isValue_15 : decode cX3_isValue 15 = .ok (.iconst 0, 1) := by decide +kernel
theorem dX3_isValue_16 : decode cX3_isValue 16 = .ok (.ireturn, 1) := by decide +kernel
theorem dX3_isShare_0 : decode cX3_isShare 0 = .ok (.iload_n 0, 1) := by decide +kernel
theorem dX3_isShare_1 : decode cX3_isShare 1 = .ok (.iconst 1, 1) := by decide +kernel
theorem dX3_isShare_2 : decode cX3_isShare 2 = .ok (.if_icmp .lt 13, 3) := by decide +kernel
theorem dX3_isShare_5 : decode cX3_isShare 5 = .ok (.iload_n 0, 1) := by decide +kernel
theorem dX3_isShare_6 : decode cX3_isShare 6 = .ok (.bipush 100, 2) := by decide +kernel
theorem dX3_isShare_8 : decode cX3_isShare 8 = .ok (.if_icmp .gt 7, 3) := by decide +kernel
theorem dX3_isShare_11 : decode cX3_isShare 11 = .ok (.iconst 1, 1) := by decide +kernel
theorem dX3_isShare_12 : decode cX3_isShare 12 = .ok (.goto 4, 3) := by decide +kernel
theorem dX3_isShare_15 : decode cX3_isShare 15 = .ok (.iconst 0, 1) := by decide +kernel
theorem dX3_isShare_16 : decode cX3_isShare 16 = .ok (.ireturn, 1) := by decide +kernel
theorem dX3_isPlace_0 : decode cX3_isPlace 0 = .ok (.iload_n 1, 1) := by decide +kernel
theorem dX3_isPlace_1 : decode cX3_isPlace 1 = .ok (.iconst 1, 1) := by decide +kernel
theorem dX3_isPlace_2 : decode cX3_isPlace 2 = .ok (.if_icmp .lt 15, 3) := by decide +kernel
theorem dX3_isPlace_5 : decode cX3_isPlace 5 = .ok (.iload_n 1, 1) := by decide +kernel
theorem dX3_isPlace_6 : decode cX3_isPlace 6 = .ok (.aload_n 0, 1) := by decide +kernel
theorem dX3_isPlace_7 : decode cX3_isPlace 7 = .ok (.getfield 84, 3) := by decide +kernel
theorem dX3_isPlace_10 : decode cX3_isPlace 10 = .ok (.if_icmp .gt 7, 3) := by decide +kernel
theorem dX3_isPlace_13 : decode cX3_isPlace 13 = .ok (.iconst 1, 1) := by decide +kernel
theorem dX3_isPlace_14 : decode cX3_isPlace 14 = .ok (.goto 4, 3) := by decide +kernel
theorem dX3_isPlace_17 : decode cX3_isPlace 17 = .ok (.iconst 0, 1) := by decide +kernel
theorem dX3_isPlace_18 : decode cX3_isPlace 18 = .ok (.ireturn, 1) := by decide +kernel
theorem dX3_boundOf_0 : decode cX3_boundOf 0 = .ok (.iload_n 1, 1) := by decide +kernel
theorem dX3_boundOf_1 : decode cX3_boundOf 1 = .ok (.iconst 1, 1) := by decide +kernel
theorem dX3_boundOf_2 : decode cX3_boundOf 2 = .ok (.if_icmp .ge 7, 3) := by decide +kernel
theorem dX3_boundOf_5 : decode cX3_boundOf 5 = .ok (.iconst 1, 1) := by decide +kernel
theorem dX3_boundOf_6 : decode cX3_boundOf 6 = .ok (.goto 12, 3) := by decide +kernel
theorem dX3_boundOf_9 : decode cX3_boundOf 9 = .ok (.iconst 1, 1) := by decide +kernel
theorem dX3_boundOf_10 : decode cX3_boundOf 10 = .ok (.iconst 2, 1) := by decide +kernel
theorem dX3_boundOf_11 : decode cX3_boundOf 11 = .ok (.iload_n 0, 1) := by decide +kernel
theorem dX3_boundOf_12 : decode cX3_boundOf 12 = .ok (.imul, 1) := by decide +kernel
theorem dX3_boundOf_13 : decode cX3_boundOf 13 = .ok (.iload_n 1, 1) := by decide +kernel
theorem dX3_boundOf_14 : decode cX3_boundOf 14 = .ok (.idiv, 1) := by decide +kernel
theorem dX3_boundOf_15 : decode cX3_boundOf 15 = .ok (.invokestatic 230, 3) := by decide +kernel
theorem dX3_boundOf_18 : decode cX3_boundOf 18 = .ok (.ireturn, 1) := by decide +kernel
theorem dX3_bandOf_0 : decode cX3_bandOf 0 = .ok (.iconst 0, 1) := by decide +kernel
theorem dX3_bandOf_1 : decode cX3_bandOf 1 = .ok (.istore_n 2, 1) := by decide +kernel
theorem dX3_bandOf_2 : decode cX3_bandOf 2 = .ok (.iload_n 2, 1) := by decide +kernel
theorem dX3_bandOf_3 : decode cX3_bandOf 3 = .ok (.bipush 12, 2) := by decide +kernel
theorem dX3_bandOf_5 : decode cX3_bandOf 5 = .ok (.if_icmp .ge 20, 3) := by decide +kernel
theorem dX3_bandOf_8 : decode cX3_bandOf 8 = .ok (.iload_n 0, 1) := by decide +kernel
theorem dX3_bandOf_9 : decode cX3_bandOf 9 = .ok (.iload_n 1, 1) := by decide +kernel
theorem dX3_bandOf_10 : decode cX3_bandOf 10 = .ok (.iload_n 2, 1) := by decide +kernel
theorem dX3_bandOf_11 : decode cX3_bandOf 11 = .ok (.ishr, 1) := by decide +kernel
theorem dX3_bandOf_12 : decode cX3_bandOf 12 = .ok (.iconst 1, 1) := by decide +kernel
theorem dX3_bandOf_13 : decode cX3_bandOf 13 = .ok (.isub, 1) := by decide +kernel
theorem dX3_bandOf_14 : decode cX3_bandOf 14 = .ok (.iload_n 2, 1) := by decide +kernel
theorem dX3_bandOf_15 : decode cX3_bandOf 15 = .ok (.ishl, 1) := by decide +kernel
theorem dX3_bandOf_16 : decode cX3_bandOf 16 = .ok (.if_icmp .gt 9, 3) := by decide +kernel
theorem dX3_bandOf_19 : decode cX3_bandOf 19 = .ok (.iinc 2 1, 3) := by decide +kernel
theorem dX3_bandOf_22 : decode cX3_bandOf 22 = .ok (.goto (-20), 3) := by decide +kernel
theorem dX3_bandOf_25 : decode cX3_bandOf 25 = .ok (.iload_n 2, 1) := by decide +kernel
theorem dX3_bandOf_26 : decode cX3_bandOf 26 = .ok (.ireturn, 1) := by decide +kernel
theorem dX3_takeText_0 : decode cX3_takeText 0 = .ok (.aload_n 0, 1) := by decide +kernel
theorem dX3_takeText_1 : decode cX3_takeText 1 = .ok (.aload_n 0, 1) := by decide +kernel
theorem dX3_takeText_2 : decode cX3_takeText 2 = .ok (.getfield 10, 3) := by decide +kernel
theorem dX3_takeText_5 : decode cX3_takeText 5 = .ok (.getfield 295, 3) := by decide +kernel
theorem dX3_takeText_8 : decode cX3_takeText 8 = .ok (.putfield 26, 3) := by decide +kernel
theorem dX3_takeText_11 : decode cX3_takeText 11 = .ok (.aload_n 0, 1) := by decide +kernel
theorem dX3_takeText_12 : decode cX3_takeText 12 = .ok (.aload_n 0, 1) := by decide +kernel
theorem dX3_takeText_13 : decode cX3_takeText 13 = .ok (.getfield 10, 3) := by decide +kernel
theorem dX3_takeText_16 : decode cX3_takeText 16 = .ok (.getfield 298, 3) := by decide +kernel
theorem dX3_takeText_19 : decode cX3_takeText 19 = .ok (.putfield 22, 3) := by decide +kernel
theorem dX3_takeText_22 : decode cX3_takeText 22 = .ok (.iconst 0, 1) := by decide +kernel
theorem dX3_takeText_23 : decode cX3_takeText 23 = .ok (.istore_n 1, 1) := by decide +kernel
theorem dX3_takeText_24 : decode cX3_takeText 24 = .ok (.iload_n 1, 1) := by decide +kernel
theorem dX3_takeText_25 : decode cX3_takeText 25 = .ok (.aload_n 0, 1) := by decide +kernel
theorem dX3_takeText_26 : decode cX3_takeText 26 = .ok (.getfield 22, 3) := by decide +kernel
theorem dX3_takeText_29 : decode cX3_takeText 29 = .ok (.if_icmp .ge 49, 3) := by decide +kernel
theorem dX3_takeText_32 : decode cX3_takeText 32 = .ok (.aload_n 0, 1) := by decide +kernel
theorem dX3_takeText_33 : decode cX3_takeText 33 = .ok (.getfield 18, 3) := by decide +kernel
theorem dX3_takeText_36 : decode cX3_takeText 36 = .ok (.iload_n 1, 1) := by decide +kernel
theorem dX3_takeText_37 : decode cX3_takeText 37 = .ok (.aaload, 1) := by decide +kernel
theorem dX3_takeText_38 : decode cX3_takeText 38 = .ok (.ifnonnull 16, 3) := by decide +kernel
theorem dX3_takeText_41 : decode cX3_takeText 41 = .ok (.aload_n 0, 1) := by decide +kernel
theorem dX3_takeText_42 : decode cX3_takeText 42 = .ok (.getfield 18, 3) := by decide +kernel
theorem dX3_takeText_45 : decode cX3_takeText 45 = .ok (.iload_n 1, 1) := by decide +kernel
theorem dX3_takeText_46 : decode cX3_takeText 46 = .ok (.new 16, 3) := by decide +kernel
theorem dX3_takeText_49 : decode cX3_takeText 49 = .ok (.dup, 1) := by decide +kernel
theorem dX3_takeText_50 : decode cX3_takeText 50 = .ok (.invokespecial 301, 3) := by decide +kernel
theorem dX3_takeText_53 : decode cX3_takeText 53 = .ok (.aastore, 1) := by decide +kernel
theorem dX3_takeText_54 : decode cX3_takeText 54 = .ok (.aload_n 0, 1) := by decide +kernel
theorem dX3_takeText_55 : decode cX3_takeText 55 = .ok (.getfield 18, 3) := by decide +kernel
theorem dX3_takeText_58 : decode cX3_takeText 58 = .ok (.iload_n 1, 1) := by decide +kernel
theorem dX3_takeText_59 : decode cX3_takeText 59 = .ok (.aaload, 1) := by decide +kernel
theorem dX3_takeText_60 : decode cX3_takeText 60 = .ok (.aload_n 0, 1) := by decide +kernel
theorem dX3_takeText_61 : decode cX3_takeText 61 = .ok (.getfield 10, 3) := by decide +kernel
theorem dX3_takeText_64 : decode cX3_takeText 64 = .ok (.getfield 302, 3) := by decide +kernel
theorem dX3_takeText_67 : decode cX3_takeText 67 = .ok (.iload_n 1, 1) := by decide +kernel
theorem dX3_takeText_68 : decode cX3_takeText 68 = .ok (.iaload, 1) := by decide +kernel
theorem dX3_takeText_69 : decode cX3_takeText 69 = .ok (.invokevirtual 305, 3) := by decide +kernel
theorem dX3_takeText_72 : decode cX3_takeText 72 = .ok (.iinc 1 1, 3) := by decide +kernel
theorem dX3_takeText_75 : decode cX3_takeText 75 = .ok (.goto (-51), 3) := by decide +kernel
theorem dX3_takeText_78 : decode cX3_takeText 78 = .ok (.iconst 0, 1) := by decide +kernel
theorem dX3_takeText_79 : decode cX3_takeText 79 = .ok (.istore_n 1, 1) := by decide +kernel
theorem dX3_takeText_80 : decode cX3_takeText 80 = .ok (.iload_n 1, 1) := by decide +kernel
theorem dX3_takeText_81 : decode cX3_takeText 81 = .ok (.aload_n 0, 1) := by decide +kernel
theorem dX3_takeText_82 : decode cX3_takeText 82 = .ok (.getfield 10, 3) := by decide +kernel
theorem dX3_takeText_85 : decode cX3_takeText 85 = .ok (.getfield 308, 3) := by decide +kernel
theorem dX3_takeText_88 : decode cX3_takeText 88 = .ok (.if_icmp .ge 44, 3) := by decide +kernel
theorem dX3_takeText_91 : decode cX3_takeText 91 = .ok (.aload_n 0, 1) := by decide +kernel
theorem dX3_takeText_92 : decode cX3_takeText 92 = .ok (.aload_n 0, 1) := by decide +kernel
theorem dX3_takeText_93 : decode cX3_takeText 93 = .ok (.getfield 10, 3) := by decide +kernel
theorem dX3_takeText_96 : decode cX3_takeText 96 = .ok (.getfield 311, 3) := by decide +kernel
theorem dX3_takeText_99 : decode cX3_takeText 99 = .ok (.iload_n 1, 1) := by decide +kernel
theorem dX3_takeText_100 : decode cX3_takeText 100 = .ok (.iaload, 1) := by decide +kernel
theorem dX3_takeText_101 : decode cX3_takeText 101 = .ok (.invokevirtual 80, 3) := by decide +kernel
theorem dX3_takeText_104 : decode cX3_takeText 104 = .ok (.astore_n 2, 1) := by decide +kernel
theorem dX3_takeText_105 : decode cX3_takeText 105 = .ok (.aload_n 2, 1) := by decide +kernel
theorem dX3_takeText_106 : decode cX3_takeText 106 = .ok (.ifnull 20, 3) := by decide +kernel
theorem dX3_takeText_109 : decode cX3_takeText 109 = .ok (.aload_n 2, 1) := by decide +kernel
theorem dX3_takeText_110 : decode cX3_takeText 110 = .ok (.aload_n 0, 1) := by decide +kernel
theorem dX3_takeText_111 : decode cX3_takeText 111 = .ok (.getfield 10, 3) := by decide +kernel
theorem dX3_takeText_114 : decode cX3_takeText 114 = .ok (.getfield 314, 3) := by decide +kernel
theorem dX3_takeText_117 : decode cX3_takeText 117 = .ok (.iload_n 1, 1) := by decide +kernel
theorem dX3_takeText_118 : decode cX3_takeText 118 = .ok (.iaload, 1) := by decide +kernel
theorem dX3_takeText_119 : decode cX3_takeText 119 = .ok (.aload_n 0, 1) := by decide +kernel
theorem dX3_takeText_120 : decode cX3_takeText 120 = .ok (.getfield 26, 3) := by decide +kernel
theorem dX3_takeText_123 : decode cX3_takeText 123 = .ok (.invokevirtual 269, 3) := by decide +kernel
theorem dX3_takeText_126 : decode cX3_takeText 126 = .ok (.iinc 1 1, 3) := by decide +kernel
theorem dX3_takeText_129 : decode cX3_takeText 129 = .ok (.goto (-49), 3) := by decide +kernel
theorem dX3_takeText_132 : decode cX3_takeText 132 = .ok (.return_, 1) := by decide +kernel
theorem dX3_sumOfAll_0 : decode cX3_sumOfAll 0 = .ok (.iconst 0, 1) := by decide +kernel
theorem dX3_sumOfAll_1 : decode cX3_sumOfAll 1 = .ok (.istore_n 2, 1) := by decide +kernel
theorem dX3_sumOfAll_2 : decode cX3_sumOfAll 2 = .ok (.iconst 0, 1) := by decide +kernel
theorem dX3_sumOfAll_3 : decode cX3_sumOfAll 3 = .ok (.istore_n 3, 1) := by decide +kernel
theorem dX3_sumOfAll_4 : decode cX3_sumOfAll 4 = .ok (.iload_n 3, 1) := by decide +kernel
theorem dX3_sumOfAll_5 : decode cX3_sumOfAll 5 = .ok (.aload_n 0, 1) := by decide +kernel
theorem dX3_sumOfAll_6 : decode cX3_sumOfAll 6 = .ok (.getfield 22, 3) := by decide +kernel
theorem dX3_sumOfAll_9 : decode cX3_sumOfAll 9 = .ok (.if_icmp .ge 58, 3) := by decide +kernel
theorem dX3_sumOfAll_12 : decode cX3_sumOfAll 12 = .ok (.aload_n 0, 1) := by decide +kernel
theorem dX3_sumOfAll_13 : decode cX3_sumOfAll 13 = .ok (.iload_n 3, 1) := by decide +kernel
theorem dX3_sumOfAll_14 : decode cX3_sumOfAll 14 = .ok (.invokevirtual 80, 3) := by decide +kernel
theorem dX3_sumOfAll_17 : decode cX3_sumOfAll 17 = .ok (.astore 4, 2) := by decide +kernel
theorem dX3_sumOfAll_19 : decode cX3_sumOfAll 19 = .ok (.aload 4, 2) := by decide +kernel
theorem dX3_sumOfAll_21 : decode cX3_sumOfAll 21 = .ok (.ifnull 40, 3) := by decide +kernel
theorem dX3_sumOfAll_24 : decode cX3_sumOfAll 24 = .ok (.iload_n 2, 1) := by decide +kernel
theorem dX3_sumOfAll_25 : decode cX3_sumOfAll 25 = .ok (.iload_n 1, 1) := by decide +kernel
theorem dX3_sumOfAll_26 : decode cX3_sumOfAll 26 = .ok (.iconst 2, 1) := by decide +kernel
theorem dX3_sumOfAll_27 : decode cX3_sumOfAll 27 = .ok (.if_icmp .ne 11, 3) := by decide +kernel
theorem dX3_sumOfAll_30 : decode cX3_sumOfAll 30 = .ok (.aload 4, 2) := by decide +kernel
theorem dX3_sumOfAll_32 : decode cX3_sumOfAll 32 = .ok (.getfield 84, 3) := by decide +kernel
theorem dX3_sumOfAll_35 : decode cX3_sumOfAll 35 = .ok (.goto 24, 3) := by decide +kernel
theorem dX3_sumOfAll_38 : decode cX3_sumOfAll 38 = .ok (.iload_n 1, 1) := by decide +kernel
theorem dX3_sumOfAll_39 : decode cX3_sumOfAll 39 = .ok (.iconst 3, 1) := by decide +kernel
theorem dX3_sumOfAll_40 : decode cX3_sumOfAll 40 = .ok (.if_icmp .ne 14, 3) := by decide +kernel
theorem dX3_sumOfAll_43 : decode cX3_sumOfAll 43 = .ok (.aload 4, 2) := by decide +kernel
theorem dX3_sumOfAll_45 : decode cX3_sumOfAll 45 = .ok (.getfield 87, 3) := by decide +kernel
theorem dX3_sumOfAll_48 : decode cX3_sumOfAll 48 = .ok (.getfield 90, 3) := by decide +kernel
theorem dX3_sumOfAll_51 : decode cX3_sumOfAll 51 = .ok (.goto 8, 3) := by decide +kernel
theorem dX3_sumOfAll_54 : decode cX3_sumOfAll 54 = .ok (.aload 4, 2) := by decide +kernel
theorem dX3_sumOfAll_56 : decode cX3_sumOfAll 56 = .ok (.getfield 103, 3) := by decide +kernel
theorem dX3_sumOfAll_59 : decode cX3_sumOfAll 59 = .ok (.iadd, 1) := by decide +kernel
theorem dX3_sumOfAll_60 : decode cX3_sumOfAll 60 = .ok (.istore_n 2, 1) := by decide +kernel
theorem dX3_sumOfAll_61 : decode cX3_sumOfAll 61 = .ok (.iinc 3 1, 3) := by decide +kernel
theorem dX3_sumOfAll_64 : decode cX3_sumOfAll 64 = .ok (.goto (-60), 3) := by decide +kernel
theorem dX3_sumOfAll_67 : decode cX3_sumOfAll 67 = .ok (.iload_n 2, 1) := by decide +kernel
theorem dX3_sumOfAll_68 : decode cX3_sumOfAll 68 = .ok (.ireturn, 1) := by decide +kernel
theorem dX3_countMeets_0 : decode cX3_countMeets 0 = .ok (.iconst 0, 1) := by decide +kernel
theorem dX3_countMeets_1 : decode cX3_countMeets 1 = .ok (.istore 4, 2) := by decide +kernel
theorem dX3_countMeets_3 : decode cX3_countMeets 3 = .ok (.iconst 0, 1) := by decide +kernel
theorem dX3_countMeets_4 : decode cX3_countMeets 4 = .ok (.istore 5, 2) := by decide +kernel
theorem dX3_countMeets_6 : decode cX3_countMeets 6 = .ok (.iconst 0, 1) := by decide +kernel
theorem dX3_countMeets_7 : decode cX3_countMeets 7 = .ok (.istore 6, 2) := by decide +kernel
theorem dX3_countMeets_9 : decode cX3_countMeets 9 = .ok (.iconst 0, 1) := by decide +kernel
theorem dX3_countMeets_10 : decode cX3_countMeets 10 = .ok (.istore 7, 2) := by decide +kernel
theorem dX3_countMeets_12 : decode cX3_countMeets 12 = .ok (.iload 7, 2) := by decide +kernel
theorem dX3_countMeets_14 : decode cX3_countMeets 14 = .ok (.iload_n 2, 1) := by decide +kernel
theorem dX3_countMeets_15 : decode cX3_countMeets 15 = .ok (.if_icmp .gt 103, 3) := by decide +kernel
theorem dX3_countMeets_18 : decode cX3_countMeets 18 = .ok (.aload_n 0, 1) := by decide +kernel
theorem dX3_countMeets_19 : decode cX3_countMeets 19 = .ok (.getfield 87, 3) := by decide +kernel
theorem dX3_countMeets_22 : decode cX3_countMeets 22 = .ok (.aload_n 0, 1) := by decide +kernel
theorem dX3_countMeets_23 : decode cX3_countMeets 23 = .ok (.iload 7, 2) := by decide +kernel
theorem dX3_countMeets_25 : decode cX3_countMeets 25 = .ok (.iload_n 2, 1) := by decide +kernel
theorem dX3_countMeets_26 : decode cX3_countMeets 26 = .ok (.invokevirtual 159, 3) := by decide +kernel
theorem dX3_countMeets_29 : decode cX3_countMeets 29 = .ok (.iload 5, 2) := by decide +kernel
theorem dX3_countMeets_31 : decode cX3_countMeets 31 = .ok (.invokevirtual 149, 3) := by decide +kernel
theorem dX3_countMeets_34 : decode cX3_countMeets 34 = .ok (.istore 5, 2) := by decide +kernel
theorem dX3_countMeets_36 : decode cX3_countMeets 36 = .ok (.aload_n 1, 1) := by decide +kernel
theorem dX3_countMeets_37 : decode cX3_countMeets 37 = .ok (.getfield 87, 3) := by decide +kernel
theorem dX3_countMeets_40 : decode cX3_countMeets 40 = .ok (.aload_n 1, 1) := by decide +kernel
theorem dX3_countMeets_41 : decode cX3_countMeets 41 = .ok (.iload 7, 2) := by decide +kernel
theorem dX3_countMeets_43 : decode cX3_countMeets 43 = .ok (.iload_n 2, 1) := by decide +kernel
theorem dX3_countMeets_44 : decode cX3_countMeets 44 = .ok (.invokevirtual 159, 3) := by decide +kernel
theorem dX3_countMeets_47 : decode cX3_countMeets 47 = .ok (.iload 6, 2) := by decide +kernel
theorem dX3_countMeets_49 : decode cX3_countMeets 49 = .ok (.invokevirtual 149, 3) := by decide +kernel
theorem dX3_countMeets_52 : decode cX3_countMeets 52 = .ok (.istore 6, 2) := by decide +kernel
theorem dX3_countMeets_54 : decode cX3_countMeets 54 = .ok (.aload_n 0, 1) := by decide +kernel
theorem dX3_countMeets_55 : decode cX3_countMeets 55 = .ok (.getfield 87, 3) := by decide +kernel
theorem dX3_countMeets_58 : decode cX3_countMeets 58 = .ok (.getfield 106, 3) := by decide +kernel
theorem dX3_countMeets_61 : decode cX3_countMeets 61 = .ok (.iload 5, 2) := by decide +kernel
theorem dX3_countMeets_63 : decode cX3_countMeets 63 = .ok (.iaload, 1) := by decide +kernel
theorem dX3_countMeets_64 : decode cX3_countMeets 64 = .ok (.istore 8, 2) := by decide +kernel
theorem dX3_countMeets_66 : decode cX3_countMeets 66 = .ok (.aload_n 1, 1) := by decide +kernel
theorem dX3_countMeets_67 : decode cX3_countMeets 67 = .ok (.getfield 87, 3) := by decide +kernel
theorem dX3_countMeets_70 : decode cX3_countMeets 70 = .ok (.getfield 106, 3) := by decide +kernel
theorem dX3_countMeets_73 : decode cX3_countMeets 73 = .ok (.iload 6, 2) := by decide +kernel
theorem dX3_countMeets_75 : decode cX3_countMeets 75 = .ok (.iaload, 1) := by decide +kernel
theorem dX3_countMeets_76 : decode cX3_countMeets 76 = .ok (.istore 9, 2) := by decide +kernel
theorem dX3_countMeets_78 : decode cX3_countMeets 78 = .ok (.iload 8, 2) := by decide +kernel
theorem dX3_countMeets_80 : decode cX3_countMeets 80 = .ok (.iload 9, 2) := by decide +kernel
theorem dX3_countMeets_82 : decode cX3_countMeets 82 = .ok (.if_icmp .ne 7, 3) := by decide +kernel
theorem dX3_countMeets_85 : decode cX3_countMeets 85 = .ok (.iconst 0, 1) := by decide +kernel
theorem dX3_countMeets_86 : decode cX3_countMeets 86 = .ok (.goto 15, 3) := by decide +kernel
theorem dX3_countMeets_89 : decode cX3_countMeets 89 = .ok (.iload 8, 2) := by decide +kernel
theorem dX3_countMeets_91 : decode cX3_countMeets 91 = .ok (.iload 9, 2) := by decide +kernel
theorem dX3_countMeets_93 : decode cX3_countMeets 93 = .ok (.if_icmp .ge 7, 3) := by decide +kernel
theorem dX3_countMeets_96 : decode cX3_countMeets 96 = .ok (.iconst 1, 1) := by decide +kernel
theorem dX3_countMeets_97 : decode cX3_countMeets 97 = .ok (.goto 4, 3) := by decide +kernel
theorem dX3_countMeets_100 : decode cX3_countMeets 100 = .ok (.iconst 2, 1) := by decide +kernel
theorem dX3_countMeets_101 : decode cX3_countMeets 101 = .ok (.istore 10, 2) := by decide +kernel
theorem dX3_countMeets_103 : decode cX3_countMeets 103 = .ok (.iload 10, 2) := by decide +kernel
theorem dX3_countMeets_105 : decode cX3_countMeets 105 = .ok (.iload_n 3, 1) := by decide +kernel
theorem dX3_countMeets_106 : decode cX3_countMeets 106 = .ok (.if_icmp .ne 6, 3) := by decide +kernel
theorem dX3_countMeets_109 : decode cX3_countMeets 109 = .ok (.iinc 4 1, 3) := by decide +kernel
theorem dX3_countMeets_112 : decode cX3_countMeets 112 = .ok (.iinc 7 1, 3) := by decide +kernel
theorem dX3_countMeets_115 : decode cX3_countMeets 115 = .ok (.goto (-103), 3) := by decide +kernel
theorem dX3_countMeets_118 : decode cX3_countMeets 118 = .ok (.iload 4, 2) := by decide +kernel
theorem dX3_countMeets_120 : decode cX3_countMeets 120 = .ok (.ireturn, 1) := by decide +kernel
theorem dX3_apartOver_0 : decode cX3_apartOver 0 = .ok (.iconst 0, 1) := by decide +kernel
theorem dX3_apartOver_1 : decode cX3_apartOver 1 = .ok (.istore_n 3, 1) := by decide +kernel
theorem dX3_apartOver_2 : decode cX3_apartOver 2 = .ok (.iconst 0, 1) := by decide +kernel
theorem dX3_apartOver_3 : decode cX3_apartOver 3 = .ok (.istore 4, 2) := by decide +kernel
theorem dX3_apartOver_5 : decode cX3_apartOver 5 = .ok (.iload 4, 2) := by decide +kernel
theorem dX3_apartOver_7 : decode cX3_apartOver 7 = .ok (.aload_n 0, 1) := by decide +kernel
theorem dX3_apartOver_8 : decode cX3_apartOver 8 = .ok (.getfield 90, 3) := by decide +kernel
theorem dX3_apartOver_11 : decode cX3_apartOver 11 = .ok (.if_icmp .ge 40, 3) := by decide +kernel
theorem dX3_apartOver_14 : decode cX3_apartOver 14 = .ok (.aload_n 0, 1) := by decide +kernel
theorem dX3_apartOver_15 : decode cX3_apartOver 15 = .ok (.getfield 106, 3) := by decide +kernel
theorem dX3_apartOver_18 : decode cX3_apartOver 18 = .ok (.iload 4, 2) := by decide +kernel
theorem dX3_apartOver_20 : decode cX3_apartOver 20 = .ok (.iaload, 1) := by decide +kernel
theorem dX3_apartOver_21 : decode cX3_apartOver 21 = .ok (.istore 5, 2) := by decide +kernel
theorem dX3_apartOver_23 : decode cX3_apartOver 23 = .ok (.iload_n 3, 1) := by decide +kernel
theorem dX3_apartOver_24 : decode cX3_apartOver 24 = .ok (.aload_n 1, 1) := by decide +kernel
theorem dX3_apartOver_25 : decode cX3_apartOver 25 = .ok (.aload_n 2, 1) := by decide +kernel
theorem dX3_apartOver_26 : decode cX3_apartOver 26 = .ok (.iload 5, 2) := by decide +kernel
theorem dX3_apartOver_28 : decode cX3_apartOver 28 = .ok (.invokestatic 316, 3) := by decide +kernel
theorem dX3_apartOver_31 : decode cX3_apartOver 31 = .ok (.aload_n 2, 1) := by decide +kernel
theorem dX3_apartOver_32 : decode cX3_apartOver 32 = .ok (.aload_n 1, 1) := by decide +kernel
theorem dX3_apartOver_33 : decode cX3_apartOver 33 = .ok (.iload 5, 2) := by decide +kernel
theorem dX3_apartOver_35 : decode cX3_apartOver 35 = .ok (.invokestatic 316, 3) := by decide +kernel
theorem dX3_apartOver_38 : decode cX3_apartOver 38 = .ok (.invokestatic 230, 3) := by decide +kernel
theorem dX3_apartOver_41 : decode cX3_apartOver 41 = .ok (.invokestatic 230, 3) := by decide +kernel
theorem dX3_apartOver_44 : decode cX3_apartOver 44 = .ok (.istore_n 3, 1) := by decide +kernel
theorem dX3_apartOver_45 : decode cX3_apartOver 45 = .ok (.iinc 4 1, 3) := by decide +kernel
theorem dX3_apartOver_48 : decode cX3_apartOver 48 = .ok (.goto (-43), 3) := by decide +kernel
theorem dX3_apartOver_51 : decode cX3_apartOver 51 = .ok (.iload_n 3, 1) := by decide +kernel
theorem dX3_apartOver_52 : decode cX3_apartOver 52 = .ok (.ireturn, 1) := by decide +kernel
theorem dX3_hundredthsApart_0 : decode cX3_hundredthsApart 0 = .ok (.aload_n 0, 1) := by decide +kernel
theorem dX3_hundredthsApart_1 : decode cX3_hundredthsApart 1 = .ok (.invokevirtual 253, 3) := by decide +kernel
theorem dX3_hundredthsApart_4 : decode cX3_hundredthsApart 4 = .ok (.istore_n 3, 1) := by decide +kernel
theorem dX3_hundredthsApart_5 : decode cX3_hundredthsApart 5 = .ok (.aload_n 1, 1) := by decide +kernel
theorem dX3_hundredthsApart_6 : decode cX3_hundredthsApart 6 = .ok (.invokevirtual 253, 3) := by decide +kernel
theorem dX3_hundredthsApart_9 : decode cX3_hundredthsApart 9 = .ok (.istore 4, 2) := by decide +kernel
theorem dX3_hundredthsApart_11 : decode cX3_hundredthsApart 11 = .ok (.iload_n 3, 1) := by decide +kernel
theorem dX3_hundredthsApart_12 : decode cX3_hundredthsApart 12 = .ok (.iconst 1, 1) := by decide +kernel
theorem dX3_hundredthsApart_13 : decode cX3_hundredthsApart 13 = .ok (.if_icmp .lt 9, 3) := by decide +kernel
theorem dX3_hundredthsApart_16 : decode cX3_hundredthsApart 16 = .ok (.iload 4, 2) := by decide +kernel
theorem dX3_hundredthsApart_18 : decode cX3_hundredthsApart 18 = .ok (.iconst 1, 1) := by decide +kernel
theorem dX3_hundredthsApart_19 : decode cX3_hundredthsApart 19 = .ok (.if_icmp .ge 5, 3) := by decide +kernel
theorem dX3_hundredthsApart_22 : decode cX3_hundredthsApart 22 = .ok (.iconst 0, 1) := by decide +kernel
theorem dX3_hundredthsApart_23 : decode cX3_hundredthsApart 23 = .ok (.ireturn, 1) := by decide +kernel
theorem dX3_hundredthsApart_24 : decode cX3_hundredthsApart 24 = .ok (.bipush 100, 2) := by decide +kernel
theorem dX3_hundredthsApart_26 : decode cX3_hundredthsApart 26 = .ok (.aload_n 0, 1) := by decide +kernel
theorem dX3_hundredthsApart_27 : decode cX3_hundredthsApart 27 = .ok (.iload_n 2, 1) := by decide +kernel
theorem dX3_hundredthsApart_28 : decode cX3_hundredthsApart 28 = .ok (.invokevirtual 168, 3) := by decide +kernel
theorem dX3_hundredthsApart_31 : decode cX3_hundredthsApart 31 = .ok (.iload 4, 2) := by decide +kernel
theorem dX3_hundredthsApart_33 : decode cX3_hundredthsApart 33 = .ok (.imul, 1) := by decide +kernel
theorem dX3_hundredthsApart_34 : decode cX3_hundredthsApart 34 = .ok (.aload_n 1, 1) := by decide +kernel
theorem dX3_hundredthsApart_35 : decode cX3_hundredthsApart 35 = .ok (.iload_n 2, 1) := by decide +kernel
theorem dX3_hundredthsApart_36 : decode cX3_hundredthsApart 36 = .ok (.invokevirtual 165, 3) := by decide +kernel
theorem dX3_hundredthsApart_39 : decode cX3_hundredthsApart 39 = .ok (.iload_n 3, 1) := by decide +kernel
theorem dX3_hundredthsApart_40 : decode cX3_hundredthsApart 40 = .ok (.imul, 1) := by decide +kernel
theorem dX3_hundredthsApart_41 : decode cX3_hundredthsApart 41 = .ok (.isub, 1) := by decide +kernel
theorem dX3_hundredthsApart_42 : decode cX3_hundredthsApart 42 = .ok (.imul, 1) := by decide +kernel
theorem dX3_hundredthsApart_43 : decode cX3_hundredthsApart 43 = .ok (.iload_n 3, 1) := by decide +kernel
theorem dX3_hundredthsApart_44 : decode cX3_hundredthsApart 44 = .ok (.iload 4, 2) := by decide +kernel
theorem dX3_hundredthsApart_46 : decode cX3_hundredthsApart 46 = .ok (.imul, 1) := by decide +kernel
theorem dX3_hundredthsApart_47 : decode cX3_hundredthsApart 47 = .ok (.idiv, 1) := by decide +kernel
theorem dX3_hundredthsApart_48 : decode cX3_hundredthsApart 48 = .ok (.ireturn, 1) := by decide +kernel
theorem dX3_countWins_0 : decode cX3_countWins 0 = .ok (.aload_n 0, 1) := by decide +kernel
theorem dX3_countWins_1 : decode cX3_countWins 1 = .ok (.invokevirtual 253, 3) := by decide +kernel
theorem dX3_countWins_4 : decode cX3_countWins 4 = .ok (.istore_n 3, 1) := by decide +kernel
theorem dX3_countWins_5 : decode cX3_countWins 5 = .ok (.aload_n 1, 1) := by decide +kernel
theorem dX3_countWins_6 : decode cX3_countWins 6 = .ok (.invokevirtual 253, 3) := by decide +kernel
theorem dX3_countWins_9 : decode cX3_countWins 9 = .ok (.istore 4, 2) := by decide +kernel
theorem dX3_countWins_11 : decode cX3_countWins 11 = .ok (.iconst 0, 1) := by decide +kernel
theorem dX3_countWins_12 : decode cX3_countWins 12 = .ok (.istore 5, 2) := by decide +kernel
theorem dX3_countWins_14 : decode cX3_countWins 14 = .ok (.iconst 0, 1) := by decide +kernel
theorem dX3_countWins_15 : decode cX3_countWins 15 = .ok (.istore 6, 2) := by decide +kernel
theorem dX3_countWins_17 : decode cX3_countWins 17 = .ok (.iconst 1, 1) := by decide +kernel
theorem dX3_countWins_18 : decode cX3_countWins 18 = .ok (.istore 7, 2) := by decide +kernel
theorem dX3_countWins_20 : decode cX3_countWins 20 = .ok (.iload 7, 2) := by decide +kernel
theorem dX3_countWins_22 : decode cX3_countWins 22 = .ok (.iload_n 3, 1) := by decide +kernel
theorem dX3_countWins_23 : decode cX3_countWins 23 = .ok (.if_icmp .gt 70, 3) := by decide +kernel
theorem dX3_countWins_26 : decode cX3_countWins 26 = .ok (.iload_n 2, 1) := by decide +kernel
theorem dX3_countWins_27 : decode cX3_countWins 27 = .ok (.ifCond .eq 14, 3) := by decide +kernel
theorem dX3_countWins_30 : decode cX3_countWins 30 = .ok (.aload_n 0, 1) := by decide +kernel
theorem dX3_countWins_31 : decode cX3_countWins 31 = .ok (.iload 7, 2) := by decide +kernel
theorem dX3_countWins_33 : decode cX3_countWins 33 = .ok (.iload 5, 2) := by decide +kernel
theorem dX3_countWins_35 : decode cX3_countWins 35 = .ok (.invokevirtual 181, 3) := by decide +kernel
theorem dX3_countWins_38 : decode cX3_countWins 38 = .ok (.goto 11, 3) := by decide +kernel
theorem dX3_countWins_41 : decode cX3_countWins 41 = .ok (.aload_n 0, 1) := by decide +kernel
theorem dX3_countWins_42 : decode cX3_countWins 42 = .ok (.iload 7, 2) := by decide +kernel
theorem dX3_countWins_44 : decode cX3_countWins 44 = .ok (.iload 5, 2) := by decide +kernel
theorem dX3_countWins_46 : decode cX3_countWins 46 = .ok (.invokevirtual 184, 3) := by decide +kernel
theorem dX3_countWins_49 : decode cX3_countWins 49 = .ok (.istore 5, 2) := by decide +kernel
theorem dX3_countWins_51 : decode cX3_countWins 51 = .ok (.aload_n 0, 1) := by decide +kernel
theorem dX3_countWins_52 : decode cX3_countWins 52 = .ok (.getfield 106, 3) := by decide +kernel
theorem dX3_countWins_55 : decode cX3_countWins 55 = .ok (.iload 5, 2) := by decide +kernel
theorem dX3_countWins_57 : decode cX3_countWins 57 = .ok (.iaload, 1) := by decide +kernel
theorem dX3_countWins_58 : decode cX3_countWins 58 = .ok (.istore 8, 2) := by decide +kernel
theorem dX3_countWins_60 : decode cX3_countWins 60 = .ok (.iload 6, 2) := by decide +kernel
theorem dX3_countWins_62 : decode cX3_countWins 62 = .ok (.iload 4, 2) := by decide +kernel
theorem dX3_countWins_64 : decode cX3_countWins 64 = .ok (.iload_n 2, 1) := by decide +kernel
theorem dX3_countWins_65 : decode cX3_countWins 65 = .ok (.ifCond .eq 12, 3) := by decide +kernel
theorem dX3_countWins_68 : decode cX3_countWins 68 = .ok (.aload_n 1, 1) := by decide +kernel
theorem dX3_countWins_69 : decode cX3_countWins 69 = .ok (.iload 8, 2) := by decide +kernel
theorem dX3_countWins_71 : decode cX3_countWins 71 = .ok (.invokevirtual 168, 3) := by decide +kernel
theorem dX3_countWins_74 : decode cX3_countWins 74 = .ok (.goto 9, 3) := by decide +kernel
theorem dX3_countWins_77 : decode cX3_countWins 77 = .ok (.aload_n 1, 1) := by decide +kernel
theorem dX3_countWins_78 : decode cX3_countWins 78 = .ok (.iload 8, 2) := by decide +kernel
theorem dX3_countWins_80 : decode cX3_countWins 80 = .ok (.invokevirtual 165, 3) := by decide +kernel
theorem dX3_countWins_83 : decode cX3_countWins 83 = .ok (.isub, 1) := by decide +kernel
theorem dX3_countWins_84 : decode cX3_countWins 84 = .ok (.iadd, 1) := by decide +kernel
theorem dX3_countWins_85 : decode cX3_countWins 85 = .ok (.istore 6, 2) := by decide +kernel
theorem dX3_countWins_87 : decode cX3_countWins 87 = .ok (.iinc 7 1, 3) := by decide +kernel
theorem dX3_countWins_90 : decode cX3_countWins 90 = .ok (.goto (-70), 3) := by decide +kernel
theorem dX3_countWins_93 : decode cX3_countWins 93 = .ok (.iload 6, 2) := by decide +kernel
theorem dX3_countWins_95 : decode cX3_countWins 95 = .ok (.ireturn, 1) := by decide +kernel
theorem dX3_wholeTrouble_0 : decode cX3_wholeTrouble 0 = .ok (.aload_n 0, 1) := by decide +kernel
theorem dX3_wholeTrouble_1 : decode cX3_wholeTrouble 1 = .ok (.iconst 2, 1) := by decide +kernel
theorem dX3_wholeTrouble_2 : decode cX3_wholeTrouble 2 = .ok (.invokevirtual 77, 3) := by decide +kernel
theorem dX3_wholeTrouble_5 : decode cX3_wholeTrouble 5 = .ok (.istore_n 1, 1) := by decide +kernel
theorem dX3_wholeTrouble_6 : decode cX3_wholeTrouble 6 = .ok (.iload_n 1, 1) := by decide +kernel
theorem dX3_wholeTrouble_7 : decode cX3_wholeTrouble 7 = .ok (.ifCond .ne 5, 3) := by decide +kernel
theorem dX3_wholeTrouble_10 : decode cX3_wholeTrouble 10 = .ok (.iconst 5, 1) := by decide +kernel
theorem dX3_wholeTrouble_11 : decode cX3_wholeTrouble 11 = .ok (.ireturn, 1) := by decide +kernel
theorem dX3_wholeTrouble_12 : decode cX3_wholeTrouble 12 = .ok (.iload_n 1, 1) := by decide +kernel
theorem dX3_wholeTrouble_13 : decode cX3_wholeTrouble 13 = .ok (.sipush 1000, 3) := by decide +kernel
theorem dX3_wholeTrouble_16 : decode cX3_wholeTrouble 16 = .ok (.if_icmp .le 7, 3) := by decide +kernel
theorem dX3_wholeTrouble_19 : decode cX3_wholeTrouble 19 = .ok (.iconst 3, 1) := by decide +kernel
theorem dX3_wholeTrouble_20 : decode cX3_wholeTrouble 20 = .ok (.goto 4, 3) := by decide +kernel
theorem dX3_wholeTrouble_23 : decode cX3_wholeTrouble 23 = .ok (.iconst 0, 1) := by decide +kernel
theorem dX3_wholeTrouble_24 : decode cX3_wholeTrouble 24 = .ok (.ireturn, 1) := by decide +kernel
theorem dX3_makeWhole_0 : decode cX3_makeWhole 0 = .ok (.aload_n 0, 1) := by decide +kernel
theorem dX3_makeWhole_1 : decode cX3_makeWhole 1 = .ok (.getfield 44, 3) := by decide +kernel
theorem dX3_makeWhole_4 : decode cX3_makeWhole 4 = .ok (.astore_n 1, 1) := by decide +kernel
theorem dX3_makeWhole_5 : decode cX3_makeWhole 5 = .ok (.aload_n 0, 1) := by decide +kernel
theorem dX3_makeWhole_6 : decode cX3_makeWhole 6 = .ok (.getfield 48, 3) := by decide +kernel
theorem dX3_makeWhole_9 : decode cX3_makeWhole 9 = .ok (.astore_n 2, 1) := by decide +kernel
theorem dX3_makeWhole_10 : decode cX3_makeWhole 10 = .ok (.aload_n 1, 1) := by decide +kernel
theorem dX3_makeWhole_11 : decode cX3_makeWhole 11 = .ok (.iconst 0, 1) := by decide +kernel
theorem dX3_makeWhole_12 : decode cX3_makeWhole 12 = .ok (.putfield 90, 3) := by decide +kernel
theorem dX3_makeWhole_15 : decode cX3_makeWhole 15 = .ok (.iconst 0, 1) := by decide +kernel
theorem dX3_makeWhole_16 : decode cX3_makeWhole 16 = .ok (.istore_n 3, 1) := by decide +kernel
theorem dX3_makeWhole_17 : decode cX3_makeWhole 17 = .ok (.iload_n 3, 1) := by decide +kernel
theorem dX3_makeWhole_18 : decode cX3_makeWhole 18 = .ok (.aload_n 0, 1) := by decide +kernel
theorem dX3_makeWhole_19 : decode cX3_makeWhole 19 = .ok (.getfield 22, 3) := by decide +kernel
theorem dX3_makeWhole_22 : decode cX3_makeWhole 22 = .ok (.if_icmp .ge 85, 3) := by decide +kernel
theorem dX3_makeWhole_25 : decode cX3_makeWhole 25 = .ok (.aload_n 0, 1) := by decide +kernel
theorem dX3_makeWhole_26 : decode cX3_makeWhole 26 = .ok (.iload_n 3, 1) := by decide +kernel
theorem dX3_makeWhole_27 : decode cX3_makeWhole 27 = .ok (.invokevirtual 80, 3) := by decide +kernel
theorem dX3_makeWhole_30 : decode cX3_makeWhole 30 = .ok (.astore 4, 2) := by decide +kernel
theorem dX3_makeWhole_32 : decode cX3_makeWhole 32 = .ok (.aload 4, 2) := by decide +kernel
theorem dX3_makeWhole_34 : decode cX3_makeWhole 34 = .ok (.ifnull 67, 3) := by decide +kernel
theorem dX3_makeWhole_37 : decode cX3_makeWhole 37 = .ok (.aload 4, 2) := by decide +kernel
theorem dX3_makeWhole_39 : decode cX3_makeWhole 39 = .ok (.getfield 84, 3) := by decide +kernel
theorem dX3_makeWhole_42 : decode cX3_makeWhole 42 = .ok (.ifCond .ne 6, 3) := by decide +kernel
theorem dX3_makeWhole_45 : decode cX3_makeWhole 45 = .ok (.goto 56, 3) := by decide +kernel
theorem dX3_makeWhole_48 : decode cX3_makeWhole 48 = .ok (.aload_n 1, 1) := by decide +kernel
theorem dX3_makeWhole_49 : decode cX3_makeWhole 49 = .ok (.getfield 90, 3) := by decide +kernel
theorem dX3_makeWhole_52 : decode cX3_makeWhole 52 = .ok (.ifCond .ne 15, 3) := by decide +kernel
theorem dX3_makeWhole_55 : decode cX3_makeWhole 55 = .ok (.aload_n 1, 1) := by decide +kernel
theorem dX3_makeWhole_56 : decode cX3_makeWhole 56 = .ok (.aload 4, 2) := by decide +kernel
theorem dX3_makeWhole_58 : decode cX3_makeWhole 58 = .ok (.getfield 87, 3) := by decide +kernel
theorem dX3_makeWhole_61 : decode cX3_makeWhole 61 = .ok (.invokevirtual 256, 3) := by decide +kernel
theorem dX3_makeWhole_64 : decode cX3_makeWhole 64 = .ok (.goto 37, 3) := by decide +kernel
theorem dX3_makeWhole_67 : decode cX3_makeWhole 67 = .ok (.aload_n 2, 1) := by decide +kernel
theorem dX3_makeWhole_68 : decode cX3_makeWhole 68 = .ok (.aload_n 1, 1) := by decide +kernel
theorem dX3_makeWhole_69 : decode cX3_makeWhole 69 = .ok (.aload 4, 2) := by decide +kernel
theorem dX3_makeWhole_71 : decode cX3_makeWhole 71 = .ok (.getfield 87, 3) := by decide +kernel
theorem dX3_makeWhole_74 : decode cX3_makeWhole 74 = .ok (.invokevirtual 235, 3) := by decide +kernel
theorem dX3_makeWhole_77 : decode cX3_makeWhole 77 = .ok (.aload_n 2, 1) := by decide +kernel
theorem dX3_makeWhole_78 : decode cX3_makeWhole 78 = .ok (.aload_n 2, 1) := by decide +kernel
theorem dX3_makeWhole_79 : decode cX3_makeWhole 79 = .ok (.invokevirtual 253, 3) := by decide +kernel
theorem dX3_makeWhole_82 : decode cX3_makeWhole 82 = .ok (.aload_n 0, 1) := by decide +kernel
theorem dX3_makeWhole_83 : decode cX3_makeWhole 83 = .ok (.getfield 26, 3) := by decide +kernel
theorem dX3_makeWhole_86 : decode cX3_makeWhole 86 = .ok (.invokestatic 93, 3) := by decide +kernel
theorem dX3_makeWhole_89 : decode cX3_makeWhole 89 = .ok (.invokevirtual 239, 3) := by decide +kernel
theorem dX3_makeWhole_92 : decode cX3_makeWhole 92 = .ok (.pop, 1) := by decide +kernel
theorem dX3_makeWhole_93 : decode cX3_makeWhole 93 = .ok (.aload_n 1, 1) := by decide +kernel
theorem dX3_makeWhole_94 : decode cX3_makeWhole 94 = .ok (.astore 5, 2) := by decide +kernel
theorem dX3_makeWhole_96 : decode cX3_makeWhole 96 = .ok (.aload_n 2, 1) := by decide +kernel
theorem dX3_makeWhole_97 : decode cX3_makeWhole 97 = .ok (.astore_n 1, 1) := by decide +kernel
theorem dX3_makeWhole_98 : decode cX3_makeWhole 98 = .ok (.aload 5, 2) := by decide +kernel
theorem dX3_makeWhole_100 : decode cX3_makeWhole 100 = .ok (.astore_n 2, 1) := by decide +kernel
theorem dX3_makeWhole_101 : decode cX3_makeWhole 101 = .ok (.iinc 3 1, 3) := by decide +kernel
theorem dX3_makeWhole_104 : decode cX3_makeWhole 104 = .ok (.goto (-87), 3) := by decide +kernel
theorem dX3_makeWhole_107 : decode cX3_makeWhole 107 = .ok (.aload_n 1, 1) := by decide +kernel
theorem dX3_makeWhole_108 : decode cX3_makeWhole 108 = .ok (.areturn, 1) := by decide +kernel
theorem dX4_init_0 : decode cX4_init 0 = .ok (.aload_n 0, 1) := by decide +kernel
theorem dX4_init_1 : decode cX4_init 1 = .ok (.invokespecial 1, 3) := by decide +kernel
theorem dX4_init_4 : decode cX4_init 4 = .ok (.aload_n 0, 1) := by decide +kernel
theorem dX4_init_5 : decode cX4_init 5 = .ok (.iconst (-1), 1) := by decide +kernel
theorem dX4_init_6 : decode cX4_init 6 = .ok (.putfield 9, 3) := by decide +kernel
theorem dX4_init_9 : decode cX4_init 9 = .ok (.aload_n 0, 1) := by decide +kernel
theorem dX4_init_10 : decode cX4_init 10 = .ok (.sipush 400, 3) := by decide +kernel
theorem dX4_init_13 : decode cX4_init 13 = .ok (.newarray .byte, 2) := by decide +kernel
theorem dX4_init_15 : decode cX4_init 15 = .ok (.putfield 13, 3) := by decide +kernel
theorem dX4_init_18 : decode cX4_init 18 = .ok (.aload_n 0, 1) := by decide +kernel
theorem dX4_init_19 : decode cX4_init 19 = .ok (.iconst 4, 1) := by decide +kernel
theorem dX4_init_20 : decode cX4_init 20 = .ok (.newarray .long, 2) := by decide +kernel
theorem dX4_init_22 : decode cX4_init 22 = .ok (.putfield 17, 3) := by decide +kernel
theorem dX4_init_25 : decode cX4_init 25 = .ok (.aload_n 0, 1) := by decide +kernel
theorem dX4_init_26 : decode cX4_init 26 = .ok (.iconst 4, 1) := by decide +kernel
theorem dX4_init_27 : decode cX4_init 27 = .ok (.newarray .int, 2) := by decide +kernel
theorem dX4_init_29 : decode cX4_init 29 = .ok (.putfield 21, 3) := by decide +kernel
theorem dX4_init_32 : decode cX4_init 32 = .ok (.aload_n 0, 1) := by decide +kernel
theorem dX4_init_33 : decode cX4_init 33 = .ok (.sipush 400, 3) := by decide +kernel
theorem dX4_init_36 : decode cX4_init 36 = .ok (.newarray .int, 2) := by decide +kernel
theorem dX4_init_38 : decode cX4_init 38 = .ok (.putfield 25, 3) := by decide +kernel
theorem dX4_init_41 : decode cX4_init 41 = .ok (.aload_n 0, 1) := by decide +kernel
theorem dX4_init_42 : decode cX4_init 42 = .ok (.sipush 400, 3) := by decide +kernel
theorem dX4_init_45 : decode cX4_init 45 = .ok (.newarray .int, 2) := by decide +kernel
theorem dX4_init_47 : decode cX4_init 47 = .ok (.putfield 28, 3) := by decide +kernel
theorem dX4_init_50 : decode cX4_init 50 = .ok (.aload_n 0, 1) := by decide +kernel
theorem dX4_init_51 : decode cX4_init 51 = .ok (.sipush 6000, 3) := by decide +kernel
theorem dX4_init_54 : decode cX4_init 54 = .ok (.newarray .int, 2) := by decide +kernel
theorem dX4_init_56 : decode cX4_init 56 = .ok (.putfield 31, 3) := by decide +kernel
theorem dX4_init_59 : decode cX4_init 59 = .ok (.aload_n 0, 1) := by decide +kernel
theorem dX4_init_60 : decode cX4_init 60 = .ok (.sipush 6000, 3) := by decide +kernel
theorem dX4_init_63 : decode cX4_init 63 = .ok (.newarray .int, 2) := by decide +kernel
theorem dX4_init_65 : decode cX4_init 65 = .ok (.putfield 34, 3) := by decide +kernel
theorem dX4_init_68 : decode cX4_init 68 = .ok (.aload_n 0, 1) := by decide +kernel
theorem dX4_init_69 : decode cX4_init 69 = .ok (.sipush 6000, 3) := by decide +kernel
theorem dX4_init_72 : decode cX4_init 72 = .ok (.newarray .int, 2) := by decide +kernel
theorem dX4_init_74 : decode cX4_init 74 = .ok (.putfield 37, 3) := by decide +kernel
theorem dX4_init_77 : decode cX4_init 77 = .ok (.aload_n 0, 1) := by decide +kernel
theorem dX4_init_78 : decode cX4_init 78 = .ok (.bipush 6, 2) := by decide +kernel
theorem dX4_init_80 : decode cX4_init 80 = .ok (.newarray .int, 2) := by decide +kernel
theorem dX4_init_82 : decode cX4_init 82 = .ok (.putfield 40, 3) := by decide +kernel
theorem dX4_init_85 : decode cX4_init 85 = .ok (.aload_n 0, 1) := by decide +kernel
theorem dX4_init_86 : decode cX4_init 86 = .ok (.bipush 6, 2) := by decide +kernel
theorem dX4_init_88 : decode cX4_init 88 = .ok (.newarray .int, 2) := by decide +kernel
theorem dX4_init_90 : decode cX4_init 90 = .ok (.putfield 43, 3) := by decide +kernel
theorem dX4_init_93 : decode cX4_init 93 = .ok (.aload_n 0, 1) := by decide +kernel
theorem dX4_init_94 : decode cX4_init 94 = .ok (.iconst 4, 1) := by decide +kernel
theorem dX4_init_95 : decode cX4_init 95 = .ok (.newarray .int, 2) := by decide +kernel
theorem dX4_init_97 : decode cX4_init 97 = .ok (.putfield 46, 3) := by decide +kernel
theorem dX4_init_100 : decode cX4_init 100 = .ok (.aload_n 0, 1) := by decide +kernel
theorem dX4_init_101 : decode cX4_init 101 = .ok (.iconst 4, 1) := by decide +kernel
theorem dX4_init_102 : decode cX4_init 102 = .ok (.newarray .int, 2) := by decide +kernel
theorem dX4_init_104 : decode cX4_init 104 = .ok (.putfield 49, 3) := by decide +kernel
theorem dX4_init_107 : decode cX4_init 107 = .ok (.aload_n 0, 1) := by decide +kernel
theorem dX4_init_108 : decode cX4_init 108 = .ok (.iconst 4, 1) := by decide +kernel
theorem dX4_init_109 : decode cX4_init 109 = .ok (.newarray .int, 2) := by decide +kernel
theorem dX4_init_111 : decode cX4_init 111 = .ok (.putfield 52, 3) := by decide +kernel
theorem dX4_init_114 : decode cX4_init 114 = .ok (.aload_n 0, 1) := by decide +kernel
theorem dX4_init_115 : decode cX4_init 115 = .ok (.sipush 4000, 3) := by decide +kernel
theorem dX4_init_118 : decode cX4_init 118 = .ok (.newarray .int, 2) := by decide +kernel
theorem dX4_init_120 : decode cX4_init 120 = .ok (.putfield 55, 3) := by decide +kernel
theorem dX4_init_123 : decode cX4_init 123 = .ok (.aload_n 0, 1) := by decide +kernel
theorem dX4_init_124 : decode cX4_init 124 = .ok (.iconst 1, 1) := by decide +kernel
theorem dX4_init_125 : decode cX4_init 125 = .ok (.putfield 58, 3) := by decide +kernel
theorem dX4_init_128 : decode cX4_init 128 = .ok (.return_, 1) := by decide +kernel
theorem dX4_thrown_0 : decode cX4_thrown 0 = .ok (.aload_n 0, 1) := by decide +kernel
theorem dX4_thrown_1 : decode cX4_thrown 1 = .ok (.getfield 61, 3) := by decide +kernel
theorem dX4_thrown_4 : decode cX4_thrown 4 = .ok (.ireturn, 1) := by decide +kernel
theorem dX4_refused_0 : decode cX4_refused 0 = .ok (.aload_n 0, 1) := by decide +kernel
theorem dX4_refused_1 : decode cX4_refused 1 = .ok (.iload_n 1, 1) := by decide +kernel
theorem dX4_refused_2 : decode cX4_refused 2 = .ok (.putfield 64, 3) := by decide +kernel
theorem dX4_refused_5 : decode cX4_refused 5 = .ok (.aload_n 0, 1) := by decide +kernel
theorem dX4_refused_6 : decode cX4_refused 6 = .ok (.iconst (-1), 1) := by decide +kernel
theorem dX4_refused_7 : decode cX4_refused 7 = .ok (.putfield 9, 3) := by decide +kernel
theorem dX4_refused_10 : decode cX4_refused 10 = .ok (.iconst (-1), 1) := by decide +kernel
theorem dX4_refused_11 : decode cX4_refused 11 = .ok (.ireturn, 1) := by decide +kernel
theorem dX4_good_0 : decode cX4_good 0 = .ok (.aload_n 0, 1) := by decide +kernel
theorem dX4_good_1 : decode cX4_good 1 = .ok (.iconst 0, 1) := by decide +kernel
theorem dX4_good_2 : decode cX4_good 2 = .ok (.putfield 64, 3) := by decide +kernel
theorem dX4_good_5 : decode cX4_good 5 = .ok (.aload_n 0, 1) := by decide +kernel
theorem dX4_good_6 : decode cX4_good 6 = .ok (.iconst (-1), 1) := by decide +kernel
theorem dX4_good_7 : decode cX4_good 7 = .ok (.putfield 9, 3) := by decide +kernel
theorem dX4_good_10 : decode cX4_good 10 = .ok (.iload_n 1, 1) := by decide +kernel
theorem dX4_good_11 : decode cX4_good 11 = .ok (.ireturn, 1) := by decide +kernel
theorem dX4_in_0 : decode cX4_in 0 = .ok (.iload_n 0, 1) := by decide +kernel
theorem dX4_in_1 : decode cX4_in 1 = .ok (.iload_n 1, 1) := by decide +kernel
theorem dX4_in_2 : decode cX4_in 2 = .ok (.if_icmp .lt 12, 3) := by decide +kernel
theorem dX4_in_5 : decode cX4_in 5 = .ok (.iload_n 0, 1) := by decide +kernel
theorem dX4_in_6 : decode cX4_in 6 = .ok (.iload_n 2, 1) := by decide +kernel
theorem dX4_in_7 : decode cX4_in 7 = .ok (.if_icmp .gt 7, 3) := by decide +kernel
theorem dX4_in_10 : decode cX4_in 10 = .ok (.iconst 1, 1) := by decide +kernel
theorem dX4_in_11 : decode cX4_in 11 = .ok (.goto 4, 3) := by decide +kernel
theorem dX4_in_14 : decode cX4_in 14 = .ok (.iconst 0, 1) := by decide +kernel
theorem dX4_in_15 : decode cX4_in 15 = .ok (.ireturn, 1) := by decide +kernel
theorem dX4_byteAt_0 : decode cX4_byteAt 0 = .ok (.iload_n 1, 1) := by decide +kernel
theorem dX4_byteAt_1 : decode cX4_byteAt 1 = .ok (.aload_n 0, 1) := by decide +kernel
theorem dX4_byteAt_2 : decode cX4_byteAt 2 = .ok (.getfield 67, 3) := by decide +kernel
theorem dX4_byteAt_5 : decode cX4_byteAt 5 = .ok (.if_icmp .ge 16, 3) := by decide +kernel
theorem dX4_byteAt_8 : decode cX4_byteAt 8 = .ok (.aload_n 0, 1) := by decide +kernel
theorem dX4_byteAt_9 : decode cX4_byteAt 9 = .ok (.getfield 13, 3) := by decide +kernel
theorem dX4_byteAt_12 : decode cX4_byteAt 12 = .ok (.iload_n 1, 1) := by decide +kernel
theorem dX4_byteAt_13 : decode cX4_byteAt 13 = .ok (.baload, 1) := by decide +kernel
theorem dX4_byteAt_14 : decode cX4_byteAt 14 = .ok (.sipush 255, 3) := by decide +kernel
theorem dX4_byteAt_17 : decode cX4_byteAt 17 = .ok (.iand, 1) := by decide +kernel
theorem dX4_byteAt_18 : decode cX4_byteAt 18 = .ok (.goto 4, 3) := by decide +kernel
theorem dX4_byteAt_21 : decode cX4_byteAt 21 = .ok (.iconst (-1), 1) := by decide +kernel
theorem dX4_byteAt_22 : decode cX4_byteAt 22 = .ok (.ireturn, 1) := by decide +kernel
theorem dX4_goOn_0 : decode cX4_goOn 0 = .ok (.aload_n 0, 1) := by decide +kernel
theorem dX4_goOn_1 : decode cX4_goOn 1 = .ok (.getfield 70, 3) := by decide +kernel
theorem dX4_goOn_4 : decode cX4_goOn 4 = .ok (.ifCond .le 4, 3) := by decide +kernel
theorem dX4_goOn_7 : decode cX4_goOn 7 = .ok (.return_, 1) := by decide +kernel
theorem dX4_goOn_8 : decode cX4_goOn 8 = .ok (.aload_n 0, 1) := by decide +kernel
theorem dX4_goOn_9 : decode cX4_goOn 9 = .ok (.aload_n 0, 1) := by decide +kernel
theorem dX4_goOn_10 : decode cX4_goOn 10 = .ok (.getfield 73, 3) := by decide +kernel
theorem dX4_goOn_13 : decode cX4_goOn 13 = .ok (.invokevirtual 76, 3) := by decide +kernel
theorem dX4_goOn_16 : decode cX4_goOn 16 = .ok (.bipush 32, 2) := by decide +kernel
theorem dX4_goOn_18 : decode cX4_goOn 18 = .ok (.if_icmp .ne 16, 3) := by decide +kernel
theorem dX4_goOn_21 : decode cX4_goOn 21 = .ok (.aload_n 0, 1) := by decide +kernel
theorem dX4_goOn_22 : decode cX4_goOn 22 = .ok (.dup, 1) := by decide +kernel
theorem dX4_goOn_23 : decode cX4_goOn 23 = .ok (.getfield 73, 3) := by decide +kernel
theorem dX4_goOn_26 : decode cX4_goOn 26 = .ok (.iconst 1, 1) := by decide +kernel
theorem dX4_goOn_27 : decode cX4_goOn 27 = .ok (.iadd, 1) := by decide +kernel
theorem dX4_goOn_28 : decode cX4_goOn 28 = .ok (.putfield 73, 3) := by decide +kernel
theorem dX4_goOn_31 : decode cX4_goOn 31 = .ok (.goto (-23), 3) := by decide +kernel
theorem dX4_goOn_34 : decode cX4_goOn 34 = .ok (.aload_n 0, 1) := by decide +kernel
theorem dX4_goOn_35 : decode cX4_goOn 35 = .ok (.aload_n 0, 1) := by decide +kernel
theorem dX4_goOn_36 : decode cX4_goOn 36 = .ok (.getfield 73, 3) := by decide +kernel
theorem dX4_goOn_39 : decode cX4_goOn 39 = .ok (.putfield 80, 3) := by decide +kernel
theorem dX4_goOn_42 : decode cX4_goOn 42 = .ok (.aload_n 0, 1) := by decide +kernel
theorem dX4_goOn_43 : decode cX4_goOn 43 = .ok (.aload_n 0, 1) := by decide +kernel
theorem dX4_goOn_44 : decode cX4_goOn 44 = .ok (.getfield 73, 3) := by decide +kernel
theorem dX4_goOn_47 : decode cX4_goOn 47 = .ok (.invokevirtual 76, 3) := by decide +kernel
theorem dX4_goOn_50 : decode cX4_goOn 50 = .ok (.istore_n 1, 1) := by decide +kernel
theorem dX4_goOn_51 : decode cX4_goOn 51 = .ok (.iload_n 1, 1) := by decide +kernel
theorem dX4_goOn_52 : decode cX4_goOn 52 = .ok (.iconst (-1), 1) := by decide +kernel
theorem dX4_goOn_53 : decode cX4_goOn 53 = .ok (.if_icmp .ne 11, 3) := by decide +kernel
theorem dX4_goOn_56 : decode cX4_goOn 56 = .ok (.aload_n 0, 1) := by decide +kernel
theorem dX4_goOn_57 : decode cX4_goOn 57 = .ok (.iconst 1, 1) := by decide +kernel
theorem dX4_goOn_58 : decode cX4_goOn 58 = .ok (.putfield 83, 3) := by decide +kernel
theorem dX4_goOn_61 : decode cX4_goOn 61 = .ok (.goto 64, 3) := by decide +kernel
theorem dX4_goOn_64 : decode cX4_goOn 64 = .ok (.iload_n 1, 1) := by decide +kernel
theorem dX4_goOn_65 : decode cX4_goOn 65 = .ok (.bipush 97, 2) := by decide +kernel
theorem dX4_goOn_67 : decode cX4_goOn 67 = .ok (.bipush 122, 2) := by decide +kernel
theorem dX4_goOn_69 : decode cX4_goOn 69 = .ok (.invokestatic 86, 3) := by decide +kernel
theorem dX4_goOn_72 : decode cX4_goOn 72 = .ok (.ifCond .eq 10, 3) := by decide +kernel
theorem dX4_goOn_75 : decode cX4_goOn 75 = .ok (.aload_n 0, 1) := by decide +kernel
theorem dX4_goOn_76 : decode cX4_goOn 76 = .ok (.invokevirtual 90, 3) := by decide +kernel
theorem dX4_goOn_79 : decode cX4_goOn 79 = .ok (.goto 46, 3) := by decide +kernel
theorem dX4_goOn_82 : decode cX4_goOn 82 = .ok (.iload_n 1, 1) := by decide +kernel
theorem dX4_goOn_83 : decode cX4_goOn 83 = .ok (.bipush 48, 2) := by decide +kernel
theorem dX4_goOn_85 : decode cX4_goOn 85 = .ok (.bipush 57, 2) := by decide +kernel
theorem dX4_goOn_87 : decode cX4_goOn 87 = .ok (.invokestatic 86, 3) := by decide +kernel
theorem dX4_goOn_90 : decode cX4_goOn 90 = .ok (.ifCond .eq 10, 3) := by decide +kernel
theorem dX4_goOn_93 : decode cX4_goOn 93 = .ok (.aload_n 0, 1) := by decide +kernel
theorem dX4_goOn_94 : decode cX4_goOn 94 = .ok (.invokevirtual 93, 3) := by decide +kernel
theorem dX4_goOn_97 : decode cX4_goOn 97 = .ok (.goto 28, 3) := by decide +kernel
theorem dX4_goOn_100 : decode cX4_goOn 100 = .ok (.aload_n 0, 1) := by decide +kernel
theorem dX4_goOn_101 : decode cX4_goOn 101 = .ok (.iload_n 1, 1) := by decide +kernel
theorem dX4_goOn_102 : decode cX4_goOn 102 = .ok (.bipush 59, 2) := by decide +kernel
theorem dX4_goOn_104 : decode cX4_goOn 104 = .ok (.if_icmp .ne 7, 3) := by decide +kernel
theorem dX4_goOn_107 : decode cX4_goOn 107 = .ok (.iconst 4, 1) := by decide +kernel
theorem dX4_goOn_108 : decode cX4_goOn 108 = .ok (.goto 4, 3) := by decide +kernel
theorem dX4_goOn_111 : decode cX4_goOn 111 = .ok (.iconst 0, 1) := by decide +kernel
theorem dX4_goOn_112 : decode cX4_goOn 112 = .ok (.putfield 83, 3) := by decide +kernel
theorem dX4_goOn_115 : decode cX4_goOn 115 = .ok (.aload_n 0, 1) := by decide +kernel
theorem dX4_goOn_116 : decode cX4_goOn 116 = .ok (.dup, 1) := by decide +kernel
theorem dX4_goOn_117 : decode cX4_goOn 117 = .ok (.getfield 73, 3) := by decide +kernel
theorem dX4_goOn_120 : decode cX4_goOn 120 = .ok (.iconst 1, 1) := by decide +kernel
theorem dX4_goOn_121 : decode cX4_goOn 121 = .ok (.iadd, 1) := by decide +kernel
theorem dX4_goOn_122 : decode cX4_goOn 122 = .ok (.putfield 73, 3) := by decide +kernel
theorem dX4_goOn_125 : decode cX4_goOn 125 = .ok (.return_, 1) := by decide +kernel
theorem dX4_goWord_0 : decode cX4_goWord 0 = .ok (.aload_n 0, 1) := by decide +kernel
theorem dX4_goWord_1 : decode cX4_goWord 1 = .ok (.lconst 0, 1) := by decide +kernel
theorem dX4_goWord_2 : decode cX4_goWord 2 = .ok (.putfield 96, 3) := by decide +kernel
theorem dX4_goWord_5 : decode cX4_goWord 5 = .ok (.aload_n 0, 1) := by decide +kernel
theorem dX4_goWord_6 : decode cX4_goWord 6 = .ok (.aload_n 0, 1) := by decide +kernel
theorem dX4_goWord_7 : decode cX4_goWord 7 = .ok (.getfield 73, 3) := by decide +kernel
theorem dX4_goWord_10 : decode cX4_goWord 10 = .ok (.invokevirtual 76, 3) := by decide +kernel
theorem dX4_goWord_13 : decode cX4_goWord 13 = .ok (.bipush 97, 2) := by decide +kernel
theorem dX4_goWord_15 : decode cX4_goWord 15 = .ok (.bipush 122, 2) := by decide +kernel
theorem dX4_goWord_17 : decode cX4_goWord 17 = .ok (.invokestatic 86, 3) := by decide +kernel
theorem dX4_goWord_20 : decode cX4_goWord 20 = .ok (.ifCond .eq 51, 3) := by decide +kernel
theorem dX4_goWord_23 : decode cX4_goWord 23 = .ok (.aload_n 0, 1) := by decide +kernel
theorem dX4_goWord_24 : decode cX4_goWord 24 = .ok (.getfield 73, 3) := by decide +kernel
theorem dX4_goWord_27 : decode cX4_goWord 27 = .ok (.aload_n 0, 1) := by decide +kernel
theorem dX4_goWord_28 : decode cX4_goWord 28 = .ok (.getfield 80, 3) := by decide +kernel
theorem dX4_goWord_31 : decode cX4_goWord 31 = .ok (.isub, 1) := by decide +kernel
theorem dX4_goWord_32 : decode cX4_goWord 32 = .ok (.bipush 6, 2) := by decide +kernel
theorem dX4_goWord_34 : decode cX4_goWord 34 = .ok (.if_icmp .ge 24, 3) := by decide +kernel
theorem dX4_goWord_37 : decode cX4_goWord 37 = .ok (.aload_n 0, 1) := by decide +kernel
theorem dX4_goWord_38 : decode cX4_goWord 38 = .ok (.aload_n 0, 1) := by decide +kernel
theorem dX4_goWord_39 : decode cX4_goWord 39 = .ok (.getfield 96, 3) := by decide +kernel
theorem dX4_goWord_42 : decode cX4_goWord 42 = .ok (.bipush 8, 2) := by decide +kernel
theorem dX4_goWord_44 : decode cX4_goWord 44 = .ok (.lshl, 1) := by decide +kernel
theorem dX4_goWord_45 : decode cX4_goWord 45 = .ok (.aload_n 0, 1) := by decide +kernel
theorem dX4_goWord_46 : decode cX4_goWord 46 = .ok (.aload_n 0, 1) := by decide +kernel
theorem dX4_goWord_47 : decode cX4_goWord 47 = .ok (.getfield 73, 3) := by decide +kernel
theorem dX4_goWord_50 : decode cX4_goWord 50 = .ok (.invokevirtual 76, 3) := by decide +kernel
theorem dX4_goWord_53 : decode cX4_goWord 53 = .ok (.i2l, 1) := by decide +kernel
theorem dX4_goWord_54 : decode cX4_goWord 54 = .ok (.lor, 1) := by decide +kernel
theorem dX4_goWord_55 : decode cX4_goWord 55 = .ok (.putfield 96, 3) := by decide +kernel
theorem dX4_goWord_58 : decode cX4_goWord 58 = .ok (.aload_n 0, 1) := by decide +kernel
theorem dX4_goWord_59 : decode cX4_goWord 59 = .ok (.dup, 1) := by decide +kernel
theorem dX4_goWord_60 : decode cX4_goWord 60 = .ok (.getfield 73, 3) := by decide +kernel
theorem dX4_goWord_63 : decode cX4_goWord 63 = .ok (.iconst 1, 1) := by decide +kernel
theorem dX4_goWord_64 : decode cX4_goWord 64 = .ok (.iadd, 1) := by decide +kernel
theorem dX4_goWord_65 : decode cX4_goWord 65 = .ok (.putfield 73, 3) := by decide +kernel
theorem dX4_goWord_68 : decode cX4_goWord 68 = .ok (.goto (-63), 3) := by decide +kernel
theorem dX4_goWord_71 : decode cX4_goWord 71 = .ok (.aload_n 0, 1) := by decide +kernel
theorem dX4_goWord_72 : decode cX4_goWord 72 = .ok (.aload_n 0, 1) := by decide +kernel
theorem dX4_goWord_73 : decode cX4_goWord 73 = .ok (.getfield 73, 3) := by decide +kernel
theorem dX4_goWord_76 : decode cX4_goWord 76 = .ok (.aload_n 0, 1) := by decide +kernel
theorem dX4_goWord_77 : decode cX4_goWord 77 = .ok (.getfield 80, 3) := by decide +kernel
theorem dX4_goWord_80 : decode cX4_goWord 80 = .ok (.isub, 1) := by decide +kernel
theorem dX4_goWord_81 : decode cX4_goWord 81 = .ok (.bipush 6, 2) := by decide +kernel
theorem dX4_goWord_83 : decode cX4_goWord 83 = .ok (.if_icmp .le 7, 3) := by decide +kernel
theorem dX4_goWord_86 : decode cX4_goWord 86 = .ok (.iconst 0, 1) := by decide +kernel
theorem dX4_goWord_87 : decode cX4_goWord 87 = .ok (.goto 4, 3) := by decide +kernel
theorem dX4_goWord_90 : decode cX4_goWord 90 = .ok (.iconst 2, 1) := by decide +kernel
theorem dX4_goWord_91 : decode cX4_goWord 91 = .ok (.putfield 83, 3) := by decide +kernel
theorem dX4_goWord_94 : decode cX4_goWord 94 = .ok (.return_, 1) := by decide +kernel
theorem dX4_goWhole_0 : decode cX4_goWhole 0 = .ok (.aload_n 0, 1) := by decide +kernel
theorem dX4_goWhole_1 : decode cX4_goWhole 1 = .ok (.iconst 0, 1) := by decide +kernel
theorem dX4_goWhole_2 : decode cX4_goWhole 2 = .ok (.putfield 100, 3) := by decide +kernel
theorem dX4_goWhole_5 : decode cX4_goWhole 5 = .ok (.aload_n 0, 1) := by decide +kernel
theorem dX4_goWhole_6 : decode cX4_goWhole 6 = .ok (.aload_n 0, 1) := by decide +kernel
theorem dX4_goWhole_7 : decode cX4_goWhole 7 = .ok (.getfield 73, 3) := by decide +kernel
theorem dX4_goWhole_10 : decode cX4_goWhole 10 = .ok (.invokevirtual 76, 3) := by decide +kernel
theorem dX4_goWhole_13 : decode cX4_goWhole 13 = .ok (.bipush 48, 2) := by decide +kernel
theorem dX4_goWhole_15 : decode cX4_goWhole 15 = .ok (.bipush 57, 2) := by decide +kernel
theorem dX4_goWhole_17 : decode cX4_goWhole 17 = .ok (.invokestatic 86, 3) := by decide +kernel
theorem dX4_goWhole_20 : decode cX4_goWhole 20 = .ok (.ifCond .eq 52, 3) := by decide +kernel
theorem dX4_goWhole_23 : decode cX4_goWhole 23 = .ok (.aload_n 0, 1) := by decide +kernel
theorem dX4_goWhole_24 : decode cX4_goWhole 24 = .ok (.getfield 73, 3) := by decide +kernel
theorem dX4_goWhole_27 : decode cX4_goWhole 27 = .ok (.aload_n 0, 1) := by decide +kernel
theorem dX4_goWhole_28 : decode cX4_goWhole 28 = .ok (.getfield 80, 3) := by decide +kernel
theorem dX4_goWhole_31 : decode cX4_goWhole 31 = .ok (.isub, 1) := by decide +kernel
theorem dX4_goWhole_32 : decode cX4_goWhole 32 = .ok (.iconst 3, 1) := by decide +kernel
theorem dX4_goWhole_33 : decode cX4_goWhole 33 = .ok (.if_icmp .ge 26, 3) := by decide +kernel
theorem dX4_goWhole_36 : decode cX4_goWhole 36 = .ok (.aload_n 0, 1) := by decide +kernel
theorem dX4_goWhole_37 : decode cX4_goWhole 37 = .ok (.bipush 10, 2) := by decide +kernel
theorem dX4_goWhole_39 : decode cX4_goWhole 39 = .ok (.aload_n 0, 1) := by decide +kernel
theorem dX4_goWhole_40 : decode cX4_goWhole 40 = .ok (.getfield 100, 3) := by decide +kernel
theorem dX4_goWhole_43 : decode cX4_goWhole 43 = .ok (.imul, 1) := by decide +kernel
theorem dX4_goWhole_44 : decode cX4_goWhole 44 = .ok (.aload_n 0, 1) := by decide +kernel
theorem dX4_goWhole_45 : decode cX4_goWhole 45 = .ok (.aload_n 0, 1) := by decide +kernel
theorem dX4_goWhole_46 : decode cX4_goWhole 46 = .ok (.getfield 73, 3) := by decide +kernel
theorem dX4_goWhole_49 : decode cX4_goWhole 49 = .ok (.invokevirtual 76, 3) := by decide +kernel
theorem dX4_goWhole_52 : decode cX4_goWhole 52 = .ok (.iadd, 1) := by decide +kernel
theorem dX4_goWhole_53 : decode cX4_goWhole 53 = .ok (.bipush 48, 2) := by decide +kernel
theorem dX4_goWhole_55 : decode cX4_goWhole 55 = .ok (.isub, 1) := by decide +kernel
theorem dX4_goWhole_56 : decode cX4_goWhole 56 = .ok (.putfield 100, 3) := by decide +kernel
theorem dX4_goWhole_59 : decode cX4_goWhole 59 = .ok (.aload_n 0, 1) := by decide +kernel
theorem dX4_goWhole_60 : decode cX4_goWhole 60 = .ok (.dup, 1) := by decide +kernel
theorem dX4_goWhole_61 : decode cX4_goWhole 61 = .ok (.getfield 73, 3) := by decide +kernel
theorem dX4_goWhole_64 : decode cX4_goWhole 64 = .ok (.iconst 1, 1) := by decide +kernel
theorem dX4_goWhole_65 : decode cX4_goWhole 65 = .ok (.iadd, 1) := by decide +kernel
theorem dX4_goWhole_66 : decode cX4_goWhole 66 = .ok (.putfield 73, 3) := by decide +kernel
theorem dX4_goWhole_69 : decode cX4_goWhole 69 = .ok (.goto (-64), 3) := by decide +kernel
theorem dX4_goWhole_72 : decode cX4_goWhole 72 = .ok (.aload_n 0, 1) := by decide +kernel
theorem dX4_goWhole_73 : decode cX4_goWhole 73 = .ok (.aload_n 0, 1) := by decide +kernel
theorem dX4_goWhole_74 : decode cX4_goWhole 74 = .ok (.getfield 73, 3) := by decide +kernel
theorem dX4_goWhole_77 : decode cX4_goWhole 77 = .ok (.aload_n 0, 1) := by decide +kernel
theorem dX4_goWhole_78 : decode cX4_goWhole 78 = .ok (.getfield 80, 3) := by decide +kernel
theorem dX4_goWhole_81 : decode cX4_goWhole 81 = .ok (.isub, 1) := by decide +kernel
theorem dX4_goWhole_82 : decode cX4_goWhole 82 = .ok (.iconst 3, 1) := by decide +kernel
theorem dX4_goWhole_83 : decode cX4_goWhole 83 = .ok (.if_icmp .le 7, 3) := by decide +kernel
theorem dX4_goWhole_86 : decode cX4_goWhole 86 = .ok (.iconst 0, 1) := by decide +kernel
theorem dX4_goWhole_87 : decode cX4_goWhole 87 = .ok (.goto 4, 3) := by decide +kernel
theorem dX4_goWhole_90 : decode cX4_goWhole 90 = .ok (.iconst 3, 1) := by decide +kernel
theorem dX4_goWhole_91 : decode cX4_goWhole 91 = .ok (.putfield 83, 3) := by decide +kernel
theorem dX4_goWhole_94 : decode cX4_goWhole 94 = .ok (.return_, 1) := by decide +kernel
theorem dX4_flaw_0 : decode cX4_flaw 0 = .ok (.aload_n 0, 1) := by decide +kernel
theorem dX4_flaw_1 : decode cX4_flaw 1 = .ok (.getfield 70, 3) := by decide +kernel
theorem dX4_flaw_4 : decode cX4_flaw 4 = .ok (.ifCond .ne 8, 3) := by decide +kernel
theorem dX4_flaw_7 : decode cX4_flaw 7 = .ok (.aload_n 0, 1) := by decide +kernel
theorem dX4_flaw_8 : decode cX4_flaw 8 = .ok (.iload_n 1, 1) := by decide +kernel
theorem dX4_flaw_9 : decode cX4_flaw 9 = .ok (.putfield 70, 3) := by decide +kernel
theorem dX4_flaw_12 : decode cX4_flaw 12 = .ok (.aload_n 0, 1) := by decide +kernel
theorem dX4_flaw_13 : decode cX4_flaw 13 = .ok (.iconst 0, 1) := by decide +kernel
theorem dX4_flaw_14 : decode cX4_flaw 14 = .ok (.putfield 83, 3) := by decide +kernel
theorem dX4_flaw_17 : decode cX4_flaw 17 = .ok (.return_, 1) := by decide +kernel
theorem dX4_isWord_0 : decode cX4_isWord 0 = .ok (.lconst 0, 1) := by decide +kernel
theorem dX4_isWord_1 : decode cX4_isWord 1 = .ok (.lstore_n 2, 1) := by decide +kernel
theorem dX4_isWord_2 : decode cX4_isWord 2 = .ok (.iconst 0, 1) := by decide +kernel
theorem dX4_isWord_3 : decode cX4_isWord 3 = .ok (.istore 4, 2) := by decide +kernel
theorem dX4_isWord_5 : decode cX4_isWord 5 = .ok (.iload 4, 2) := by decide +kernel
theorem dX4_isWord_7 : decode cX4_isWord 7 = .ok (.aload_n 1, 1) := by decide +kernel
theorem dX4_isWord_8 : decode cX4_isWord 8 = .ok (.invokevirtual 103, 3) := by decide +kernel
theorem dX4_isWord_11 : decode cX4_isWord 11 = .ok (.if_icmp .ge 22, 3) := by decide +kernel
theorem dX4_isWord_14 : decode cX4_isWord 14 = .ok (.lload_n 2, 1) := by decide +kernel
theorem dX4_isWord_15 : decode cX4_isWord 15 = .ok (.bipush 8, 2) := by decide +kernel
theorem dX4_isWord_17 : decode cX4_isWord 17 = .ok (.lshl, 1) := by decide +kernel
theorem dX4_isWord_18 : decode cX4_isWord 18 = .ok (.aload_n 1, 1) := by decide +kernel
theorem dX4_isWord_19 : decode cX4_isWord 19 = .ok (.iload 4, 2) := by decide +kernel
theorem dX4_isWord_21 : decode cX4_isWord 21 = .ok (.invokevirtual 109, 3) := by decide +kernel
theorem dX4_isWord_24 : decode cX4_isWord 24 = .ok (.i2l, 1) := by decide +kernel
theorem dX4_isWord_25 : decode cX4_isWord 25 = .ok (.lor, 1) := by decide +kernel
theorem dX4_isWord_26 : decode cX4_isWord 26 = .ok (.lstore_n 2, 1) := by decide +kernel
theorem dX4_isWord_27 : decode cX4_isWord 27 = .ok (.iinc 4 1, 3) := by decide +kernel
theorem dX4_isWord_30 : decode cX4_isWord 30 = .ok (.goto (-25), 3) := by decide +kernel
theorem dX4_isWord_33 : decode cX4_isWord 33 = .ok (.aload_n 0, 1) := by decide +kernel
theorem dX4_isWord_34 : decode cX4_isWord 34 = .ok (.getfield 83, 3) := by decide +kernel
theorem dX4_isWord_37 : decode cX4_isWord 37 = .ok (.iconst 2, 1) := by decide +kernel
theorem dX4_isWord_38 : decode cX4_isWord 38 = .ok (.if_icmp .ne 16, 3) := by decide +kernel
theorem dX4_isWord_41 : decode cX4_isWord 41 = .ok (.aload_n 0, 1) := by decide +kernel
theorem dX4_isWord_42 : decode cX4_isWord 42 = .ok (.getfield 96, 3) := by decide +kernel
theorem dX4_isWord_45 : decode cX4_isWord 45 = .ok (.lload_n 2, 1) := by decide +kernel
theorem dX4_isWord_46 : decode cX4_isWord 46 = .ok (.lcmp, 1) := by decide +kernel
theorem dX4_isWord_47 : decode cX4_isWord 47 = .ok (.ifCond .ne 7, 3) := by decide +kernel
theorem dX4_isWord_50 : decode cX4_isWord 50 = .ok (.iconst 1, 1) := by decide +kernel
theorem dX4_isWord_51 : decode cX4_isWord 51 = .ok (.goto 4, 3) := by decide +kernel
theorem dX4_isWord_54 : decode cX4_isWord 54 = .ok (.iconst 0, 1) := by decide +kernel
theorem dX4_isWord_55 : decode cX4_isWord 55 = .ok (.ireturn, 1) := by decide +kernel
theorem dX4_needs_0 : decode cX4_needs 0 = .ok (.aload_n 0, 1) := by decide +kernel
theorem dX4_needs_1 : decode cX4_needs 1 = .ok (.aload_n 1, 1) := by decide +kernel
theorem dX4_needs_2 : decode cX4_needs 2 = .ok (.invokevirtual 113, 3) := by decide +kernel
theorem dX4_needs_5 : decode cX4_needs 5 = .ok (.ifCond .ne 8, 3) := by decide +kernel
theorem dX4_needs_8 : decode cX4_needs 8 = .ok (.aload_n 0, 1) := by decide +kernel
theorem dX4_needs_9 : decode cX4_needs 9 = .ok (.iconst 1, 1) := by decide +kernel
theorem dX4_needs_10 : decode cX4_needs 10 = .ok (.invokevirtual 117, 3) := by decide +kernel
theorem dX4_needs_13 : decode cX4_needs 13 = .ok (.aload_n 0, 1) := by decide +kernel
theorem dX4_needs_14 : decode cX4_needs 14 = .ok (.invokevirtual 121, 3) := by decide +kernel
theorem dX4_needs_17 : decode cX4_needs 17 = .ok (.return_, 1) := by decide +kernel
theorem dX4_readWhole_0 : decode cX4_readWhole 0 = .ok (.aload_n 0, 1) := by decide +kernel
theorem dX4_readWhole_1 : decode cX4_readWhole 1 = .ok (.getfield 83, 3) := by decide +kernel
theorem dX4_readWhole_4 : decode cX4_readWhole 4 = .ok (.iconst 3, 1) := by decide +kernel
theorem dX4_readWhole_5 : decode cX4_readWhole 5 = .ok (.if_icmp .eq 11, 3) := by decide +kernel
theorem dX4_readWhole_8 : decode cX4_readWhole 8 = .ok (.aload_n 0, 1) := by decide +kernel
theorem dX4_readWhole_9 : decode cX4_readWhole 9 = .ok (.iconst 1, 1) := by decide +kernel
theorem dX4_readWhole_10 : decode cX4_readWhole 10 = .ok (.invokevirtual 117, 3) := by decide +kernel
theorem dX4_readWhole_13 : decode cX4_readWhole 13 = .ok (.goto 20, 3) := by decide +kernel
theorem dX4_readWhole_16 : decode cX4_readWhole 16 = .ok (.aload_n 0, 1) := by decide +kernel
theorem dX4_readWhole_17 : decode cX4_readWhole 17 = .ok (.getfield 100, 3) := by decide +kernel
theorem dX4_readWhole_20 : decode cX4_readWhole 20 = .ok (.iload_n 1, 1) := by decide +kernel
theorem dX4_readWhole_21 : decode cX4_readWhole 21 = .ok (.iload_n 2, 1) := by decide +kernel
theorem dX4_readWhole_22 : decode cX4_readWhole 22 = .ok (.invokestatic 86, 3) := by decide +kernel
theorem dX4_readWhole_25 : decode cX4_readWhole 25 = .ok (.ifCond .ne 8, 3) := by decide +kernel
theorem dX4_readWhole_28 : decode cX4_readWhole 28 = .ok (.aload_n 0, 1) := by decide +kernel
theorem dX4_readWhole_29 : decode cX4_readWhole 29 = .ok (.iconst 2, 1) := by decide +kernel
theorem dX4_readWhole_30 : decode cX4_readWhole 30 = .ok (.invokevirtual 117, 3) := by decide +kernel
theorem dX4_readWhole_33 : decode cX4_readWhole 33 = .ok (.aload_n 0, 1) := by decide +kernel
theorem dX4_readWhole_34 : decode cX4_readWhole 34 = .ok (.getfield 100, 3) := by decide +kernel
theorem dX4_readWhole_37 : decode cX4_readWhole 37 = .ok (.istore_n 3, 1) := by decide +kernel
theorem dX4_readWhole_38 : decode cX4_readWhole 38 = .ok (.aload_n 0, 1) := by decide +kernel
theorem dX4_readWhole_39 : decode cX4_readWhole 39 = .ok (.invokevirtual 121, 3) := by decide +kernel
theorem dX4_readWhole_42 : decode cX4_readWhole 42 = .ok (.iload_n 3, 1) := by decide +kernel
theorem dX4_readWhole_43 : decode cX4_readWhole 43 = .ok (.ireturn, 1) := by decide +kernel
theorem dX4_readPart_0 : decode cX4_readPart 0 = .ok (.aload_n 0, 1) := by decide +kernel
theorem dX4_readPart_1 : decode cX4_readPart 1 = .ok (.aload_n 1, 1) := by decide +kernel
theorem dX4_readPart_2 : decode cX4_readPart 2 = .ok (.invokevirtual 124, 3) := by decide +kernel
theorem dX4_readPart_5 : decode cX4_readPart 5 = .ok (.aload_n 0, 1) := by decide +kernel
theorem dX4_readPart_6 : decode cX4_readPart 6 = .ok (.iload_n 2, 1) := by decide +kernel
theorem dX4_readPart_7 : decode cX4_readPart 7 = .ok (.iload_n 3, 1) := by decide +kernel
theorem dX4_readPart_8 : decode cX4_readPart 8 = .ok (.invokevirtual 128, 3) := by decide +kernel
theorem dX4_readPart_11 : decode cX4_readPart 11 = .ok (.ireturn, 1) := by decide +kernel
theorem dX4_feed_0 : decode cX4_feed 0 = .ok (.aload_n 0, 1) := by decide +kernel
theorem dX4_feed_1 : decode cX4_feed 1 = .ok (.iconst 0, 1) := by decide +kernel
theorem dX4_feed_2 : decode cX4_feed 2 = .ok (.putfield 61, 3) := by decide +kernel
theorem dX4_feed_5 : decode cX4_feed 5 = .ok (.aload_n 0, 1) := by decide +kernel
theorem dX4_feed_6 : decode cX4_feed 6 = .ok (.getfield 132, 3) := by decide +kernel
theorem dX4_feed_9 : decode cX4_feed 9 = .ok (.bipush 20, 2) := by decide +kernel
theorem dX4_feed_11 : decode cX4_feed 11 = .ok (.iadd, 1) := by decide +kernel
theorem dX4_feed_12 : decode cX4_feed 12 = .ok (.sipush 400, 3) := by decide +kernel
theorem dX4_feed_15 : decode cX4_feed 15 = .ok (.if_icmp .le 5, 3) := by decide +kernel
theorem dX4_feed_18 : decode cX4_feed 18 = .ok (.iconst (-1), 1) := by decide +kernel
theorem dX4_feed_19 : decode cX4_feed 19 = .ok (.ireturn, 1) := by decide +kernel
theorem dX4_feed_20 : decode cX4_feed 20 = .ok (.iconst 0, 1) := by decide +kernel
theorem dX4_feed_21 : decode cX4_feed 21 = .ok (.istore 6, 2) := by decide +kernel
theorem dX4_feed_23 : decode cX4_feed 23 = .ok (.iload 6, 2) := by decide +kernel
theorem dX4_feed_25 : decode cX4_feed 25 = .ok (.bipush 20, 2) := by decide +kernel
theorem dX4_feed_27 : decode cX4_feed 27 = .ok (.if_icmp .ge 90, 3) := by decide +kernel
theorem dX4_feed_30 : decode cX4_feed 30 = .ok (.iload 6, 2) := by decide +kernel
theorem dX4_feed_32 : decode cX4_feed 32 = .ok (.iconst 4, 1) := by decide +kernel
theorem dX4_feed_33 : decode cX4_feed 33 = .ok (.if_icmp .ge 7, 3) := by decide +kernel
theorem dX4_feed_36 : decode cX4_feed 36 = .ok (.iload_n 1, 1) := by decide +kernel
theorem dX4_feed_37 : decode cX4_feed 37 = .ok (.goto 39, 3) := by decide +kernel
theorem dX4_feed_40 : decode cX4_feed 40 = .ok (.iload 6, 2) := by decide +kernel
theorem dX4_feed_42 : decode cX4_feed 42 = .ok (.bipush 8, 2) := by decide +kernel
theorem dX4_feed_44 : decode cX4_feed 44 = .ok (.if_icmp .ge 7, 3) := by decide +kernel
theorem dX4_feed_47 : decode cX4_feed 47 = .ok (.iload_n 2, 1) := by decide +kernel
theorem dX4_feed_48 : decode cX4_feed 48 = .ok (.goto 28, 3) := by decide +kernel
theorem dX4_feed_51 : decode cX4_feed 51 = .ok (.iload 6, 2) := by decide +kernel
theorem dX4_feed_53 : decode cX4_feed 53 = .ok (.bipush 12, 2) := by decide +kernel
theorem dX4_feed_55 : decode cX4_feed 55 = .ok (.if_icmp .ge 7, 3) := by decide +kernel
theorem dX4_feed_58 : decode cX4_feed 58 = .ok (.iload_n 3, 1) := by decide +kernel
theorem dX4_feed_59 : decode cX4_feed 59 = .ok (.goto 17, 3) := by decide +kernel
theorem dX4_feed_62 : decode cX4_feed 62 = .ok (.iload 6, 2) := by decide +kernel
theorem dX4_feed_64 : decode cX4_feed 64 = .ok (.bipush 16, 2) := by decide +kernel
theorem dX4_feed_66 : decode cX4_feed 66 = .ok (.if_icmp .ge 8, 3) := by decide +kernel
theorem dX4_feed_69 : decode cX4_feed 69 = .ok (.iload 4, 2) := by decide +kernel
theorem dX4_feed_71 : decode cX4_feed 71 = .ok (.goto 5, 3) := by decide +kernel
theorem dX4_feed_74 : decode cX4_feed 74 = .ok (.iload 5, 2) := by decide +kernel
theorem dX4_feed_76 : decode cX4_feed 76 = .ok (.istore 7, 2) := by decide +kernel
theorem dX4_feed_78 : decode cX4_feed 78 = .ok (.aload_n 0, 1) := by decide +kernel
theorem dX4_feed_79 : decode cX4_feed 79 = .ok (.getfield 13, 3) := by decide +kernel
theorem dX4_feed_82 : decode cX4_feed 82 = .ok (.aload_n 0, 1) := by decide +kernel
theorem dX4_feed_83 : decode cX4_feed 83 = .ok (.getfield 132, 3) := by decide +kernel
theorem dX4_feed_86 : decode cX4_feed 86 = .ok (.iload 7, 2) := by decide +kernel
theorem dX4_feed_88 : decode cX4_feed 88 = .ok (.bipush 24, 2) := by decide +kernel
theorem dX4_feed_90 : decode cX4_feed 90 = .ok (.bipush 8, 2) := by decide +kernel
theorem dX4_feed_92 : decode cX4_feed 92 = .ok (.iload 6, 2) := by decide +kernel
theorem dX4_feed_94 : decode cX4_feed 94 = .ok (.iconst 4, 1) := by decide +kernel
theorem dX4_feed_95 : decode cX4_feed 95 = .ok (.irem, 1) := by decide +kernel
theorem dX4_feed_96 : decode cX4_feed 96 = .ok (.imul, 1) := by decide +kernel
theorem dX4_feed_97 : decode cX4_feed 97 = .ok (.isub, 1) := by decide +kernel
theorem dX4_feed_98 : decode cX4_feed 98 = .ok (.ishr, 1) := by decide +kernel
theorem dX4_feed_99 : decode cX4_feed 99 = .ok (.i2b, 1) := by decide +kernel
theorem dX4_feed_100 : decode cX4_feed 100 = .ok (.bastore, 1) := by decide +kernel
theorem dX4_feed_101 : decode cX4_feed 101 = .ok (.aload_n 0, 1) := by decide +kernel
theorem dX4_feed_102 : decode cX4_feed 102 = .ok (.dup, 1) := by decide +kernel
theorem dX4_feed_103 : decode cX4_feed 103 = .ok (.getfield 132, 3) := by decide +kernel
theorem dX4_feed_106 : decode cX4_feed 106 = .ok (.iconst 1, 1) := by decide +kernel
theorem dX4_feed_107 : decode cX4_feed 107 = .ok (.iadd, 1) := by decide +kernel
theorem dX4_feed_108 : decode cX4_feed 108 = .ok (.putfield 132, 3) := by decide +kernel
theorem dX4_feed_111 : decode cX4_feed 111 = .ok (.iinc 6 1, 3) := by decide +kernel
theorem dX4_feed_114 : decode cX4_feed 114 = .ok (.goto (-91), 3) := by decide +kernel
theorem dX4_feed_117 : decode cX4_feed 117 = .ok (.aload_n 0, 1) := by decide +kernel
theorem dX4_feed_118 : decode cX4_feed 118 = .ok (.getfield 132, 3) := by decide +kernel
theorem dX4_feed_121 : decode cX4_feed 121 = .ok (.ireturn, 1) := by decide +kernel
theorem dX4_readAll_0 : decode cX4_readAll 0 = .ok (.aload_n 0, 1) := by decide +kernel
theorem dX4_readAll_1 : decode cX4_readAll 1 = .ok (.iconst 0, 1) := by decide +kernel
theorem dX4_readAll_2 : decode cX4_readAll 2 = .ok (.putfield 135, 3) := by decide +kernel
theorem dX4_readAll_5 : decode cX4_readAll 5 = .ok (.aload_n 0, 1) := by decide +kernel
theorem dX4_readAll_6 : decode cX4_readAll 6 = .ok (.iconst 0, 1) := by decide +kernel
theorem dX4_readAll_7 : decode cX4_readAll 7 = .ok (.putfield 138, 3) := by decide +kernel
theorem dX4_readAll_10 : decode cX4_readAll 10 = .ok (.aload_n 0, 1) := by decide +kernel
theorem dX4_readAll_11 : decode cX4_readAll 11 = .ok (.iconst 0, 1) := by decide +kernel
theorem dX4_readAll_12 : decode cX4_readAll 12 = .ok (.putfield 141, 3) := by decide +kernel
theorem dX4_readAll_15 : decode cX4_readAll 15 = .ok (.aload_n 0, 1) := by decide +kernel
theorem dX4_readAll_16 : decode cX4_readAll 16 = .ok (.invokevirtual 121, 3) := by decide +kernel
theorem dX4_readAll_19 : decode cX4_readAll 19 = .ok (.aload_n 0, 1) := by decide +kernel
theorem dX4_readAll_20 : decode cX4_readAll 20 = .ok (.invokevirtual 144, 3) := by decide +kernel
theorem dX4_readAll_23 : decode cX4_readAll 23 = .ok (.aload_n 0, 1) := by decide +kernel
theorem dX4_readAll_24 : decode cX4_readAll 24 = .ok (.getfield 83, 3) := by decide +kernel
theorem dX4_readAll_27 : decode cX4_readAll 27 = .ok (.iconst 4, 1) := by decide +kernel
theorem dX4_readAll_28 : decode cX4_readAll 28 = .ok (.if_icmp .ne 14, 3) := by decide +kernel
theorem dX4_readAll_31 : decode cX4_readAll 31 = .ok (.aload_n 0, 1) := by decide +kernel
theorem dX4_readAll_32 : decode cX4_readAll 32 = .ok (.invokevirtual 121, 3) := by decide +kernel
theorem dX4_readAll_35 : decode cX4_readAll 35 = .ok (.aload_n 0, 1) := by decide +kernel
theorem dX4_readAll_36 : decode cX4_readAll 36 = .ok (.invokevirtual 144, 3) := by decide +kernel
theorem dX4_readAll_39 : decode cX4_readAll 39 = .ok (.goto (-16), 3) := by decide +kernel
theorem dX4_readAll_42 : decode cX4_readAll 42 = .ok (.aload_n 0, 1) := by decide +kernel
theorem dX4_readAll_43 : decode cX4_readAll 43 = .ok (.getfield 83, 3) := by decide +kernel
theorem dX4_readAll_46 : decode cX4_readAll 46 = .ok (.iconst 1, 1) := by decide +kernel
theorem dX4_readAll_47 : decode cX4_readAll 47 = .ok (.if_icmp .eq 8, 3) := by decide +kernel
theorem dX4_readAll_50 : decode cX4_readAll 50 = .ok (.aload_n 0, 1) := by decide +kernel
theorem dX4_readAll_51 : decode cX4_readAll 51 = .ok (.iconst 1, 1) := by decide +kernel
theorem dX4_readAll_52 : decode cX4_readAll 52 = .ok (.invokevirtual 117, 3) := by decide +kernel
theorem dX4_readAll_55 : decode cX4_readAll 55 = .ok (.aload_n 0, 1) := by decide +kernel
theorem dX4_readAll_56 : decode cX4_readAll 56 = .ok (.getfield 70, 3) := by decide +kernel
theorem dX4_readAll_59 : decode cX4_readAll 59 = .ok (.ifCond .ne 16, 3) := by decide +kernel
theorem dX4_readAll_62 : decode cX4_readAll 62 = .ok (.aload_n 0, 1) := by decide +kernel
theorem dX4_readAll_63 : decode cX4_readAll 63 = .ok (.getfield 138, 3) := by decide +kernel
theorem dX4_readAll_66 : decode cX4_readAll 66 = .ok (.ifCond .ne 9, 3) := by decide +kernel
theorem dX4_readAll_69 : decode cX4_readAll 69 = .ok (.aload_n 0, 1) := by decide +kernel
theorem dX4_readAll_70 : decode cX4_readAll 70 = .ok (.bipush 6, 2) := by decide +kernel
theorem dX4_readAll_72 : decode cX4_readAll 72 = .ok (.invokevirtual 117, 3) := by decide +kernel
theorem dX4_readAll_75 : decode cX4_readAll 75 = .ok (.return_, 1) := by decide +kernel
theorem dX4_readLine_0 : decode cX4_readLine 0 = .ok (.aload_n 0, 1) := by decide +kernel
theorem dX4_readLine_1 : decode cX4_readLine 1 = .ok (.ldc 147, 2) := by decide +kernel
theorem dX4_readLine_3 : decode cX4_readLine 3 = .ok (.invokevirtual 113, 3) := by decide +kernel
theorem dX4_readLine_6 : decode cX4_readLine 6 = .ok (.ifCond .eq 10, 3) := by decide +kernel
theorem dX4_readLine_9 : decode cX4_readLine 9 = .ok (.aload_n 0, 1) := by decide +kernel
theorem dX4_readLine_10 : decode cX4_readLine 10 = .ok (.invokevirtual 149, 3) := by decide +kernel
theorem dX4_readLine_13 : decode cX4_readLine 13 = .ok (.goto 40, 3) := by decide +kernel
theorem dX4_readLine_16 : decode cX4_readLine 16 = .ok (.aload_n 0, 1) := by decide +kernel
theorem dX4_readLine_17 : decode cX4_readLine 17 = .ok (.ldc 152, 2) := by decide +kernel
theorem dX4_readLine_19 : decode cX4_readLine 19 = .ok (.invokevirtual 113, 3) := by decide +kernel
theorem dX4_readLine_22 : decode cX4_readLine 22 = .ok (.ifCond .eq 10, 3) := by decide +kernel
theorem dX4_readLine_25 : decode cX4_readLine 25 = .ok (.aload_n 0, 1) := by decide +kernel
theorem dX4_readLine_26 : decode cX4_readLine 26 = .ok (.invokevirtual 154, 3) := by decide +kernel
theorem dX4_readLine_29 : decode cX4_readLine 29 = .ok (.goto 24, 3) := by decide +kernel
theorem dX4_readLine_32 : decode cX4_readLine 32 = .ok (.aload_n 0, 1) := by decide +kernel
theorem dX4_readLine_33 : decode cX4_readLine 33 = .ok (.ldc 157, 2) := by decide +kernel
theorem dX4_readLine_35 : decode cX4_readLine 35 = .ok (.invokevirtual 113, 3) := by decide +kernel
theorem dX4_readLine_38 : decode cX4_readLine 38 = .ok (.ifCond .eq 10, 3) := by decide +kernel
theorem dX4_readLine_41 : decode cX4_readLine 41 = .ok (.aload_n 0, 1) := by decide +kernel
theorem dX4_readLine_42 : decode cX4_readLine 42 = .ok (.invokevirtual 159, 3) := by decide +kernel
theorem dX4_readLine_45 : decode cX4_readLine 45 = .ok (.goto 8, 3) := by decide +kernel
theorem dX4_readLine_48 : decode cX4_readLine 48 = .ok (.aload_n 0, 1) := by decide +kernel
theorem dX4_readLine_49 : decode cX4_readLine 49 = .ok (.iconst 1, 1) := by decide +kernel
theorem dX4_readLine_50 : decode cX4_readLine 50 = .ok (.invokevirtual 117, 3) := by decide +kernel
theorem dX4_readLine_53 : decode cX4_readLine 53 = .ok (.return_, 1) := by decide +kernel
theorem dX4_readRanks_0 : decode cX4_readRanks 0 = .ok (.aload_n 0, 1) := by decide +kernel
theorem dX4_readRanks_1 : decode cX4_readRanks 1 = .ok (.getfield 135, 3) := by decide +kernel
theorem dX4_readRanks_4 : decode cX4_readRanks 4 = .ok (.ifCond .le 8, 3) := by decide +kernel
theorem dX4_readRanks_7 : decode cX4_readRanks 7 = .ok (.aload_n 0, 1) := by decide +kernel
theorem dX4_readRanks_8 : decode cX4_readRanks 8 = .ok (.iconst 4, 1) := by decide +kernel
theorem dX4_readRanks_9 : decode cX4_readRanks 9 = .ok (.invokevirtual 117, 3) := by decide +kernel
theorem dX4_readRanks_12 : decode cX4_readRanks 12 = .ok (.aload_n 0, 1) := by decide +kernel
theorem dX4_readRanks_13 : decode cX4_readRanks 13 = .ok (.invokevirtual 121, 3) := by decide +kernel
theorem dX4_readRanks_16 : decode cX4_readRanks 16 = .ok (.aload_n 0, 1) := by decide +kernel
theorem dX4_readRanks_17 : decode cX4_readRanks 17 = .ok (.ldc 162, 2) := by decide +kernel
theorem dX4_readRanks_19 : decode cX4_readRanks 19 = .ok (.iconst 2, 1) := by decide +kernel
theorem dX4_readRanks_20 : decode cX4_readRanks 20 = .ok (.bipush 40, 2) := by decide +kernel
theorem dX4_readRanks_22 : decode cX4_readRanks 22 = .ok (.invokevirtual 164, 3) := by decide +kernel
theorem dX4_readRanks_25 : decode cX4_readRanks 25 = .ok (.istore_n 1, 1) := by decide +kernel
theorem dX4_readRanks_26 : decode cX4_readRanks 26 = .ok (.aload_n 0, 1) := by decide +kernel
theorem dX4_readRanks_27 : decode cX4_readRanks 27 = .ok (.getfield 70, 3) := by decide +kernel
theorem dX4_readRanks_30 : decode cX4_readRanks 30 = .ok (.ifCond .ne 8, 3) := by decide +kernel
theorem dX4_readRanks_33 : decode cX4_readRanks 33 = .ok (.aload_n 0, 1) := by decide +kernel
theorem dX4_readRanks_34 : decode cX4_readRanks 34 = .ok (.iload_n 1, 1) := by decide +kernel
theorem dX4_readRanks_35 : decode cX4_readRanks 35 = .ok (.putfield 135, 3) := by decide +kernel
theorem dX4_readRanks_38 : decode cX4_readRanks 38 = .ok (.return_, 1) := by decide +kernel
theorem dX4_named_0 : decode cX4_named 0 = .ok (.iconst 0, 1) := by decide +kernel
theorem dX4_named_1 : decode cX4_named 1 = .ok (.istore_n 1, 1) := by decide +kernel
theorem dX4_named_2 : decode cX4_named 2 = .ok (.iload_n 1, 1) := by decide +kernel
theorem dX4_named_3 : decode cX4_named 3 = .ok (.aload_n 0, 1) := by decide +kernel
theorem dX4_named_4 : decode cX4_named 4 = .ok (.getfield 138, 3) := by decide +kernel
theorem dX4_named_7 : decode cX4_named 7 = .ok (.if_icmp .ge 25, 3) := by decide +kernel
theorem dX4_named_10 : decode cX4_named 10 = .ok (.aload_n 0, 1) := by decide +kernel
theorem dX4_named_11 : decode cX4_named 11 = .ok (.getfield 17, 3) := by decide +kernel
theorem dX4_named_14 : decode cX4_named 14 = .ok (.iload_n 1, 1) := by decide +kernel
theorem dX4_named_15 : decode cX4_named 15 = .ok (.laload, 1) := by decide +kernel
theorem dX4_named_16 : decode cX4_named 16 = .ok (.aload_n 0, 1) := by decide +kernel
theorem dX4_named_17 : decode cX4_named 17 = .ok (.getfield 96, 3) := by decide +kernel
theorem dX4_named_20 : decode cX4_named 20 = .ok (.lcmp, 1) := by decide +kernel
theorem dX4_named_21 : decode cX4_named 21 = .ok (.ifCond .ne 5, 3) := by decide +kernel
theorem dX4_named_24 : decode cX4_named 24 = .ok (.iload_n 1, 1) := by decide +kernel
theorem dX4_named_25 : decode cX4_named 25 = .ok (.ireturn, 1) := by decide +kernel
theorem dX4_named_26 : decode cX4_named 26 = .ok (.iinc 1 1, 3) := by decide +kernel
theorem dX4_named_29 : decode cX4_named 29 = .ok (.goto (-27), 3) := by decide +kernel
theorem dX4_named_32 : decode cX4_named 32 = .ok (.iconst (-1), 1) := by decide +kernel
theorem dX4_named_33 : decode cX4_named 33 = .ok (.ireturn, 1) := by decide +kernel
theorem dX4_needsName_0 : decode cX4_needsName 0 = .ok (.aload_n 0, 1) := by decide +kernel
theorem dX4_needsName_1 : decode cX4_needsName 1 = .ok (.getfield 83, 3) := by decide +kernel
theorem dX4_needsName_4 : decode cX4_needsName 4 = .ok (.iconst 2, 1) := by decide +kernel
theorem dX4_needsName_5 : decode cX4_needsName 5 = .ok (.if_icmp .ne 30, 3) := by decide +kernel
theorem dX4_needsName_8 : decode cX4_needsName 8 = .ok (.aload_n 0, 1) := by decide +kernel
theorem dX4_needsName_9 : decode cX4_needsName 9 = .ok (.ldc 147, 2) := by decide +kernel
theorem dX4_needsName_11 : decode cX4_needsName 11 = .ok (.invokevirtual 113, 3) := by decide +kernel
theorem dX4_needsName_14 : decode cX4_needsName 14 = .ok (.ifCond .ne 21, 3) := by decide +kernel
theorem dX4_needsName_17 : decode cX4_needsName 17 = .ok (.aload_n 0, 1) := by decide +kernel
theorem dX4_needsName_18 : decode cX4_needsName 18 = .ok (.ldc 152, 2) := by decide +kernel
theorem dX4_needsName_20 : decode cX4_needsName 20 = .ok (.invokevirtual 113, 3) := by decide +kernel
theorem dX4_needsName_23 : decode cX4_needsName 23 = .ok (.ifCond .ne 12, 3) := by decide +kernel
theorem dX4_needsName_26 : decode cX4_needsName 26 = .ok (.aload_n 0, 1) := by decide +kernel
theorem dX4_needsName_27 : decode cX4_needsName 27 = .ok (.ldc 157, 2) := by decide +kernel
theorem dX4_needsName_29 : decode cX4_needsName 29 = .ok (.invokevirtual 113, 3) := by decide +kernel
theorem dX4_needsName_32 : decode cX4_needsName 32 = .ok (.ifCond .eq 8, 3) := by decide +kernel
theorem dX4_needsName_35 : decode cX4_needsName 35 = .ok (.aload_n 0, 1) := by decide +kernel
theorem dX4_needsName_36 : decode cX4_needsName 36 = .ok (.iconst 1, 1) := by decide +kernel
theorem dX4_needsName_37 : decode cX4_needsName 37 = .ok (.invokevirtual 117, 3) := by decide +kernel
theorem dX4_needsName_40 : decode cX4_needsName 40 = .ok (.return_, 1) := by decide +kernel
theorem dX4_readStream_0 : decode cX4_readStream 0 = .ok (.aload_n 0, 1) := by decide +kernel
theorem dX4_readStream_1 : decode cX4_readStream 1 = .ok (.getfield 138, 3) := by decide +kernel
theorem dX4_readStream_4 : decode cX4_readStream 4 = .ok (.iconst 4, 1) := by decide +kernel
theorem dX4_readStream_5 : decode cX4_readStream 5 = .ok (.if_icmp .ne 8, 3) := by decide +kernel
theorem dX4_readStream_8 : decode cX4_readStream 8 = .ok (.aload_n 0, 1) := by decide +kernel
theorem dX4_readStream_9 : decode cX4_readStream 9 = .ok (.iconst 5, 1) := by decide +kernel
theorem dX4_readStream_10 : decode cX4_readStream 10 = .ok (.invokevirtual 117, 3) := by decide +kernel
theorem dX4_readStream_13 : decode cX4_readStream 13 = .ok (.aload_n 0, 1) := by decide +kernel
theorem dX4_readStream_14 : decode cX4_readStream 14 = .ok (.getfield 135, 3) := by decide +kernel
theorem dX4_readStream_17 : decode cX4_readStream 17 = .ok (.ifCond .ne 9, 3) := by decide +kernel
theorem dX4_readStream_20 : decode cX4_readStream 20 = .ok (.aload_n 0, 1) := by decide +kernel
theorem dX4_readStream_21 : decode cX4_readStream 21 = .ok (.bipush 6, 2) := by decide +kernel
theorem dX4_readStream_23 : decode cX4_readStream 23 = .ok (.invokevirtual 117, 3) := by decide +kernel
theorem dX4_readStream_26 : decode cX4_readStream 26 = .ok (.aload_n 0, 1) := by decide +kernel
theorem dX4_readStream_27 : decode cX4_readStream 27 = .ok (.invokevirtual 121, 3) := by decide +kernel
theorem dX4_readStream_30 : decode cX4_readStream 30 = .ok (.aload_n 0, 1) := by decide +kernel
theorem dX4_readStream_31 : decode cX4_readStream 31 = .ok (.invokevirtual 168, 3) := by decide +kernel
theorem dX4_readStream_34 : decode cX4_readStream 34 = .ok (.aload_n 0, 1) := by decide +kernel
theorem dX4_readStream_35 : decode cX4_readStream 35 = .ok (.getfield 70, 3) := by decide +kernel
theorem dX4_readStream_38 : decode cX4_readStream 38 = .ok (.ifCond .ne 16, 3) := by decide +kernel
theorem dX4_readStream_41 : decode cX4_readStream 41 = .ok (.aload_n 0, 1) := by decide +kernel
theorem dX4_readStream_42 : decode cX4_readStream 42 = .ok (.invokevirtual 171, 3) := by decide +kernel
theorem dX4_readStream_45 : decode cX4_readStream 45 = .ok (.iconst (-1), 1) := by decide +kernel
theorem dX4_readStream_46 : decode cX4_readStream 46 = .ok (.if_icmp .eq 8, 3) := by decide +kernel
theorem dX4_readStream_49 : decode cX4_readStream 49 = .ok (.aload_n 0, 1) := by decide +kernel
theorem dX4_readStream_50 : decode cX4_readStream 50 = .ok (.iconst 3, 1) := by decide +kernel
theorem dX4_readStream_51 : decode cX4_readStream 51 = .ok (.invokevirtual 117, 3) := by decide +kernel
theorem dX4_readStream_54 : decode cX4_readStream 54 = .ok (.aload_n 0, 1) := by decide +kernel
theorem dX4_readStream_55 : decode cX4_readStream 55 = .ok (.getfield 96, 3) := by decide +kernel
theorem dX4_readStream_58 : decode cX4_readStream 58 = .ok (.lstore_n 1, 1) := by decide +kernel
theorem dX4_readStream_59 : decode cX4_readStream 59 = .ok (.aload_n 0, 1) := by decide +kernel
theorem dX4_readStream_60 : decode cX4_readStream 60 = .ok (.invokevirtual 121, 3) := by decide +kernel
theorem dX4_readStream_63 : decode cX4_readStream 63 = .ok (.aload_n 0, 1) := by decide +kernel
theorem dX4_readStream_64 : decode cX4_readStream 64 = .ok (.ldc 174, 2) := by decide +kernel
theorem dX4_readStream_66 : decode cX4_readStream 66 = .ok (.iconst 1, 1) := by decide +kernel
theorem dX4_readStream_67 : decode cX4_readStream 67 = .ok (.bipush 60, 2) := by decide +kernel
theorem dX4_readStream_69 : decode cX4_readStream 69 = .ok (.invokevirtual 164, 3) := by decide +kernel
theorem dX4_readStream_72 : decode cX4_readStream 72 = .ok (.istore_n 3, 1) := by decide +kernel
theorem dX4_readStream_73 : decode cX4_readStream 73 = .ok (.aload_n 0, 1) := by decide +kernel
theorem dX4_readStream_74 : decode cX4_readStream 74 = .ok (.getfield 70, 3) := by decide +kernel
theorem dX4_readStream_77 : decode cX4_readStream 77 = .ok (.ifCond .le 4, 3) := by decide +kernel
theorem dX4_readStream_80 : decode cX4_readStream 80 = .ok (.return_, 1) := by decide +kernel
theorem dX4_readStream_81 : decode cX4_readStream 81 = .ok (.aload_n 0, 1) := by decide +kernel
theorem dX4_readStream_82 : decode cX4_readStream 82 = .ok (.getfield 17, 3) := by decide +kernel
theorem dX4_readStream_85 : decode cX4_readStream 85 = .ok (.aload_n 0, 1) := by decide +kernel
theorem dX4_readStream_86 : decode cX4_readStream 86 = .ok (.getfield 138, 3) := by decide +kernel
theorem dX4_readStream_89 : decode cX4_readStream 89 = .ok (.lload_n 1, 1) := by decide +kernel
theorem dX4_readStream_90 : decode cX4_readStream 90 = .ok (.lastore, 1) := by decide +kernel
theorem dX4_readStream_91 : decode cX4_readStream 91 = .ok (.aload_n 0, 1) := by decide +kernel
theorem dX4_readStream_92 : decode cX4_readStream 92 = .ok (.getfield 21, 3) := by decide +kernel
theorem dX4_readStream_95 : decode cX4_readStream 95 = .ok (.aload_n 0, 1) := by decide +kernel
theorem dX4_readStream_96 : decode cX4_readStream 96 = .ok (.getfield 138, 3) := by decide +kernel
theorem dX4_readStream_99 : decode cX4_readStream 99 = .ok (.iload_n 3, 1) := by decide +kernel
theorem dX4_readStream_100 : decode cX4_readStream 100 = .ok (.iastore, 1) := by decide +kernel
theorem dX4_readStream_101 : decode cX4_readStream 101 = .ok (.aload_n 0, 1) := by decide +kernel
theorem dX4_readStream_102 : decode cX4_readStream 102 = .ok (.dup, 1) := by decide +kernel
theorem dX4_readStream_103 : decode cX4_readStream 103 = .ok (.getfield 138, 3) := by decide +kernel
theorem dX4_readStream_106 : decode cX4_readStream 106 = .ok (.iconst 1, 1) := by decide +kernel
theorem dX4_readStream_107 : decode cX4_readStream 107 = .ok (.iadd, 1) := by decide +kernel
theorem dX4_readStream_108 : decode cX4_readStream 108 = .ok (.putfield 138, 3) := by decide +kernel
theorem dX4_readStream_111 : decode cX4_readStream 111 = .ok (.return_, 1) := by decide +kernel
theorem dX4_readPush_0 : decode cX4_readPush 0 = .ok (.aload_n 0, 1) := by decide +kernel
theorem dX4_readPush_1 : decode cX4_readPush 1 = .ok (.getfield 135, 3) := by decide +kernel
theorem dX4_readPush_4 : decode cX4_readPush 4 = .ok (.ifCond .ne 9, 3) := by decide +kernel
theorem dX4_readPush_7 : decode cX4_readPush 7 = .ok (.aload_n 0, 1) := by decide +kernel
theorem dX4_readPush_8 : decode cX4_readPush 8 = .ok (.bipush 6, 2) := by decide +kernel
theorem dX4_readPush_10 : decode cX4_readPush 10 = .ok (.invokevirtual 117, 3) := by decide +kernel
theorem dX4_readPush_13 : decode cX4_readPush 13 = .ok (.aload_n 0, 1) := by decide +kernel
theorem dX4_readPush_14 : decode cX4_readPush 14 = .ok (.invokevirtual 121, 3) := by decide +kernel
theorem dX4_readPush_17 : decode cX4_readPush 17 = .ok (.aload_n 0, 1) := by decide +kernel
theorem dX4_readPush_18 : decode cX4_readPush 18 = .ok (.invokevirtual 168, 3) := by decide +kernel
theorem dX4_readPush_21 : decode cX4_readPush 21 = .ok (.aload_n 0, 1) := by decide +kernel
theorem dX4_readPush_22 : decode cX4_readPush 22 = .ok (.getfield 70, 3) := by decide +kernel
theorem dX4_readPush_25 : decode cX4_readPush 25 = .ok (.ifCond .ne 16, 3) := by decide +kernel
theorem dX4_readPush_28 : decode cX4_readPush 28 = .ok (.aload_n 0, 1) := by decide +kernel
theorem dX4_readPush_29 : decode cX4_readPush 29 = .ok (.invokevirtual 171, 3) := by decide +kernel
theorem dX4_readPush_32 : decode cX4_readPush 32 = .ok (.iconst (-1), 1) := by decide +kernel
theorem dX4_readPush_33 : decode cX4_readPush 33 = .ok (.if_icmp .ne 8, 3) := by decide +kernel
theorem dX4_readPush_36 : decode cX4_readPush 36 = .ok (.aload_n 0, 1) := by decide +kernel
theorem dX4_readPush_37 : decode cX4_readPush 37 = .ok (.iconst 3, 1) := by decide +kernel
theorem dX4_readPush_38 : decode cX4_readPush 38 = .ok (.invokevirtual 117, 3) := by decide +kernel
theorem dX4_readPush_41 : decode cX4_readPush 41 = .ok (.aload_n 0, 1) := by decide +kernel
theorem dX4_readPush_42 : decode cX4_readPush 42 = .ok (.getfield 70, 3) := by decide +kernel
theorem dX4_readPush_45 : decode cX4_readPush 45 = .ok (.ifCond .ne 10, 3) := by decide +kernel
theorem dX4_readPush_48 : decode cX4_readPush 48 = .ok (.aload_n 0, 1) := by decide +kernel
theorem dX4_readPush_49 : decode cX4_readPush 49 = .ok (.invokevirtual 171, 3) := by decide +kernel
theorem dX4_readPush_52 : decode cX4_readPush 52 = .ok (.goto 4, 3) := by decide +kernel
theorem dX4_readPush_55 : decode cX4_readPush 55 = .ok (.iconst (-1), 1) := by decide +kernel
theorem dX4_readPush_56 : decode cX4_readPush 56 = .ok (.istore_n 1, 1) := by decide +kernel
theorem dX4_readPush_57 : decode cX4_readPush 57 = .ok (.aload_n 0, 1) := by decide +kernel
theorem dX4_readPush_58 : decode cX4_readPush 58 = .ok (.invokevirtual 121, 3) := by decide +kernel
theorem dX4_readPush_61 : decode cX4_readPush 61 = .ok (.aload_n 0, 1) := by decide +kernel
theorem dX4_readPush_62 : decode cX4_readPush 62 = .ok (.iload_n 1, 1) := by decide +kernel
theorem dX4_readPush_63 : decode cX4_readPush 63 = .ok (.aload_n 0, 1) := by decide +kernel
theorem dX4_readPush_64 : decode cX4_readPush 64 = .ok (.iconst 0, 1) := by decide +kernel
theorem dX4_readPush_65 : decode cX4_readPush 65 = .ok (.sipush 999, 3) := by decide +kernel
theorem dX4_readPush_68 : decode cX4_readPush 68 = .ok (.invokevirtual 128, 3) := by decide +kernel
theorem dX4_readPush_71 : decode cX4_readPush 71 = .ok (.invokevirtual 175, 3) := by decide +kernel
theorem dX4_readPush_74 : decode cX4_readPush 74 = .ok (.aload_n 0, 1) := by decide +kernel
theorem dX4_readPush_75 : decode cX4_readPush 75 = .ok (.getfield 70, 3) := by decide +kernel
theorem dX4_readPush_78 : decode cX4_readPush 78 = .ok (.ifCond .ne 27, 3) := by decide +kernel
theorem dX4_readPush_81 : decode cX4_readPush 81 = .ok (.aload_n 0, 1) := by decide +kernel
theorem dX4_readPush_82 : decode cX4_readPush 82 = .ok (.getfield 83, 3) := by decide +kernel
theorem dX4_readPush_85 : decode cX4_readPush 85 = .ok (.iconst 3, 1) := by decide +kernel
theorem dX4_readPush_86 : decode cX4_readPush 86 = .ok (.if_icmp .ne 19, 3) := by decide +kernel
theorem dX4_readPush_89 : decode cX4_readPush 89 = .ok (.aload_n 0, 1) := by decide +kernel
theorem dX4_readPush_90 : decode cX4_readPush 90 = .ok (.iload_n 1, 1) := by decide +kernel
theorem dX4_readPush_91 : decode cX4_readPush 91 = .ok (.aload_n 0, 1) := by decide +kernel
theorem dX4_readPush_92 : decode cX4_readPush 92 = .ok (.iconst 0, 1) := by decide +kernel
theorem dX4_readPush_93 : decode cX4_readPush 93 = .ok (.sipush 999, 3) := by decide +kernel
theorem dX4_readPush_96 : decode cX4_readPush 96 = .ok (.invokevirtual 128, 3) := by decide +kernel
theorem dX4_readPush_99 : decode cX4_readPush 99 = .ok (.invokevirtual 175, 3) := by decide +kernel
theorem dX4_readPush_102 : decode cX4_readPush 102 = .ok (.goto (-28), 3) := by decide +kernel
theorem dX4_readPush_105 : decode cX4_readPush 105 = .ok (.return_, 1) := by decide +kernel
theorem dX4_pushed_0 : decode cX4_pushed 0 = .ok (.aload_n 0, 1) := by decide +kernel
theorem dX4_pushed_1 : decode cX4_pushed 1 = .ok (.getfield 70, 3) := by decide +kernel
theorem dX4_pushed_4 : decode cX4_pushed 4 = .ok (.ifCond .le 4, 3) := by decide +kernel
theorem dX4_pushed_7 : decode cX4_pushed 7 = .ok (.return_, 1) := by decide +kernel
theorem dX4_pushed_8 : decode cX4_pushed 8 = .ok (.aload_n 0, 1) := by decide +kernel
theorem dX4_pushed_9 : decode cX4_pushed 9 = .ok (.getfield 25, 3) := by decide +kernel
theorem dX4_pushed_12 : decode cX4_pushed 12 = .ok (.aload_n 0, 1) := by decide +kernel
theorem dX4_pushed_13 : decode cX4_pushed 13 = .ok (.getfield 141, 3) := by decide +kernel
theorem dX4_pushed_16 : decode cX4_pushed 16 = .ok (.iload_n 1, 1) := by decide +kernel
theorem dX4_pushed_17 : decode cX4_pushed 17 = .ok (.iastore, 1) := by decide +kernel
theorem dX4_pushed_18 : decode cX4_pushed 18 = .ok (.aload_n 0, 1) := by decide +kernel
theorem dX4_pushed_19 : decode cX4_pushed 19 = .ok (.getfield 28, 3) := by decide +kernel
theorem dX4_pushed_22 : decode cX4_pushed 22 = .ok (.aload_n 0, 1) := by decide +kernel
theorem dX4_pushed_23 : decode cX4_pushed 23 = .ok (.getfield 141, 3) := by decide +kernel
theorem dX4_pushed_26 : decode cX4_pushed 26 = .ok (.iload_n 2, 1) := by decide +kernel
theorem dX4_pushed_27 : decode cX4_pushed 27 = .ok (.iastore, 1) := by decide +kernel
theorem dX4_pushed_28 : decode cX4_pushed 28 = .ok (.aload_n 0, 1) := by decide +kernel
theorem dX4_pushed_29 : decode cX4_pushed 29 = .ok (.dup, 1) := by decide +kernel
theorem dX4_pushed_30 : decode cX4_pushed 30 = .ok (.getfield 141, 3) := by decide +kernel
theorem dX4_pushed_33 : decode cX4_pushed 33 = .ok (.iconst 1, 1) := by decide +kernel
theorem dX4_pushed_34 : decode cX4_pushed 34 = .ok (.iadd, 1) := by decide +kernel
theorem dX4_pushed_35 : decode cX4_pushed 35 = .ok (.putfield 141, 3) := by decide +kernel
theorem dX4_pushed_38 : decode cX4_pushed 38 = .ok (.return_, 1) := by decide +kernel
theorem dX4_ranks_0 : decode cX4_ranks 0 = .ok (.aload_n 0, 1) := by decide +kernel
theorem dX4_ranks_1 : decode cX4_ranks 1 = .ok (.iconst 0, 1) := by decide +kernel
theorem dX4_ranks_2 : decode cX4_ranks 2 = .ok (.putfield 61, 3) := by decide +kernel
theorem dX4_ranks_5 : decode cX4_ranks 5 = .ok (.iload_n 1, 1) := by decide +kernel
theorem dX4_ranks_6 : decode cX4_ranks 6 = .ok (.ifCond .lt 11, 3) := by decide +kernel
theorem dX4_ranks_9 : decode cX4_ranks 9 = .ok (.iload_n 1, 1) := by decide +kernel
theorem dX4_ranks_10 : decode cX4_ranks 10 = .ok (.aload_n 0, 1) := by decide +kernel
theorem dX4_ranks_11 : decode cX4_ranks 11 = .ok (.getfield 132, 3) := by decide +kernel
theorem dX4_ranks_14 : decode cX4_ranks 14 = .ok (.if_icmp .le 9, 3) := by decide +kernel
theorem dX4_ranks_17 : decode cX4_ranks 17 = .ok (.aload_n 0, 1) := by decide +kernel
theorem dX4_ranks_18 : decode cX4_ranks 18 = .ok (.iconst 2, 1) := by decide +kernel
theorem dX4_ranks_19 : decode cX4_ranks 19 = .ok (.invokevirtual 179, 3) := by decide +kernel
theorem dX4_ranks_22 : decode cX4_ranks 22 = .ok (.ireturn, 1) := by decide +kernel
theorem dX4_ranks_23 : decode cX4_ranks 23 = .ok (.aload_n 0, 1) := by decide +kernel
theorem dX4_ranks_24 : decode cX4_ranks 24 = .ok (.iload_n 1, 1) := by decide +kernel
theorem dX4_ranks_25 : decode cX4_ranks 25 = .ok (.putfield 67, 3) := by decide +kernel
theorem dX4_ranks_28 : decode cX4_ranks 28 = .ok (.aload_n 0, 1) := by decide +kernel
theorem dX4_ranks_29 : decode cX4_ranks 29 = .ok (.iconst 0, 1) := by decide +kernel
theorem dX4_ranks_30 : decode cX4_ranks 30 = .ok (.putfield 132, 3) := by decide +kernel
theorem dX4_ranks_33 : decode cX4_ranks 33 = .ok (.aload_n 0, 1) := by decide +kernel
theorem dX4_ranks_34 : decode cX4_ranks 34 = .ok (.iconst 0, 1) := by decide +kernel
theorem dX4_ranks_35 : decode cX4_ranks 35 = .ok (.putfield 73, 3) := by decide +kernel
theorem dX4_ranks_38 : decode cX4_ranks 38 = .ok (.aload_n 0, 1) := by decide +kernel
theorem dX4_ranks_39 : decode cX4_ranks 39 = .ok (.iconst 0, 1) := by decide +kernel
theorem dX4_ranks_40 : decode cX4_ranks 40 = .ok (.putfield 70, 3) := by decide +kernel
theorem dX4_ranks_43 : decode cX4_ranks 43 = .ok (.aload_n 0, 1) := by decide +kernel
theorem dX4_ranks_44 : decode cX4_ranks 44 = .ok (.invokevirtual 182, 3) := by decide +kernel
theorem dX4_ranks_47 : decode cX4_ranks 47 = .ok (.aload_n 0, 1) := by decide +kernel
theorem dX4_ranks_48 : decode cX4_ranks 48 = .ok (.getfield 70, 3) := by decide +kernel
theorem dX4_ranks_51 : decode cX4_ranks 51 = .ok (.ifCond .le 18, 3) := by decide +kernel
theorem dX4_ranks_54 : decode cX4_ranks 54 = .ok (.aload_n 0, 1) := by decide +kernel
theorem dX4_ranks_55 : decode cX4_ranks 55 = .ok (.iconst 4, 1) := by decide +kernel
theorem dX4_ranks_56 : decode cX4_ranks 56 = .ok (.putfield 64, 3) := by decide +kernel
theorem dX4_ranks_59 : decode cX4_ranks 59 = .ok (.aload_n 0, 1) := by decide +kernel
theorem dX4_ranks_60 : decode cX4_ranks 60 = .ok (.aload_n 0, 1) := by decide +kernel
theorem dX4_ranks_61 : decode cX4_ranks 61 = .ok (.getfield 80, 3) := by decide +kernel
theorem dX4_ranks_64 : decode cX4_ranks 64 = .ok (.putfield 9, 3) := by decide +kernel
theorem dX4_ranks_67 : decode cX4_ranks 67 = .ok (.iconst (-1), 1) := by decide +kernel
theorem dX4_ranks_68 : decode cX4_ranks 68 = .ok (.ireturn, 1) := by decide +kernel
theorem dX4_ranks_69 : decode cX4_ranks 69 = .ok (.aload_n 0, 1) := by decide +kernel
theorem dX4_ranks_70 : decode cX4_ranks 70 = .ok (.aload_n 0, 1) := by decide +kernel
theorem dX4_ranks_71 : decode cX4_ranks 71 = .ok (.getfield 135, 3) := by decide +kernel
theorem dX4_ranks_74 : decode cX4_ranks 74 = .ok (.putfield 185, 3) := by decide +kernel
theorem dX4_ranks_77 : decode cX4_ranks 77 = .ok (.aload_n 0, 1) := by decide +kernel
theorem dX4_ranks_78 : decode cX4_ranks 78 = .ok (.aload_n 0, 1) := by decide +kernel
theorem dX4_ranks_79 : decode cX4_ranks 79 = .ok (.getfield 138, 3) := by decide +kernel
theorem dX4_ranks_82 : decode cX4_ranks 82 = .ok (.putfield 187, 3) := by decide +kernel
theorem dX4_ranks_85 : decode cX4_ranks 85 = .ok (.iconst 0, 1) := by decide +kernel
theorem dX4_ranks_86 : decode cX4_ranks 86 = .ok (.istore_n 2, 1) := by decide +kernel
theorem dX4_ranks_87 : decode cX4_ranks 87 = .ok (.iload_n 2, 1) := by decide +kernel
theorem dX4_ranks_88 : decode cX4_ranks 88 = .ok (.aload_n 0, 1) := by decide +kernel
theorem dX4_ranks_89 : decode cX4_ranks 89 = .ok (.getfield 187, 3) := by decide +kernel
theorem dX4_ranks_92 : decode cX4_ranks 92 = .ok (.if_icmp .ge 33, 3) := by decide +kernel
theorem dX4_ranks_95 : decode cX4_ranks 95 = .ok (.aload_n 0, 1) := by decide +kernel
theorem dX4_ranks_96 : decode cX4_ranks 96 = .ok (.getfield 46, 3) := by decide +kernel
theorem dX4_ranks_99 : decode cX4_ranks 99 = .ok (.iload_n 2, 1) := by decide +kernel
theorem dX4_ranks_100 : decode cX4_ranks 100 = .ok (.aload_n 0, 1) := by decide +kernel
theorem dX4_ranks_101 : decode cX4_ranks 101 = .ok (.getfield 21, 3) := by decide +kernel
theorem dX4_ranks_104 : decode cX4_ranks 104 = .ok (.iload_n 2, 1) := by decide +kernel
theorem dX4_ranks_105 : decode cX4_ranks 105 = .ok (.iaload, 1) := by decide +kernel
theorem dX4_ranks_106 : decode cX4_ranks 106 = .ok (.iastore, 1) := by decide +kernel
theorem dX4_ranks_107 : decode cX4_ranks 107 = .ok (.aload_n 0, 1) := by decide +kernel
theorem dX4_ranks_108 : decode cX4_ranks 108 = .ok (.getfield 52, 3) := by decide +kernel
theorem dX4_ranks_111 : decode cX4_ranks 111 = .ok (.iload_n 2, 1) := by decide +kernel
theorem dX4_ranks_112 : decode cX4_ranks 112 = .ok (.iconst 0, 1) := by decide +kernel
theorem dX4_ranks_113 : decode cX4_ranks 113 = .ok (.iastore, 1) := by decide +kernel
theorem dX4_ranks_114 : decode cX4_ranks 114 = .ok (.aload_n 0, 1) := by decide +kernel
theorem dX4_ranks_115 : decode cX4_ranks 115 = .ok (.iload_n 2, 1) := by decide +kernel
theorem dX4_ranks_116 : decode cX4_ranks 116 = .ok (.invokevirtual 190, 3) := by decide +kernel
theorem dX4_ranks_119 : decode cX4_ranks 119 = .ok (.iinc 2 1, 3) := by decide +kernel
theorem dX4_ranks_122 : decode cX4_ranks 122 = .ok (.goto (-35), 3) := by decide +kernel
theorem dX4_ranks_125 : decode cX4_ranks 125 = .ok (.iconst 0, 1) := by decide +kernel
theorem dX4_ranks_126 : decode cX4_ranks 126 = .ok (.istore_n 2, 1) := by decide +kernel
theorem dX4_ranks_127 : decode cX4_ranks 127 = .ok (.iload_n 2, 1) := by decide +kernel
theorem dX4_ranks_128 : decode cX4_ranks 128 = .ok (.aload_n 0, 1) := by decide +kernel
theorem dX4_ranks_129 : decode cX4_ranks 129 = .ok (.getfield 141, 3) := by decide +kernel
theorem dX4_ranks_132 : decode cX4_ranks 132 = .ok (.if_icmp .ge 25, 3) := by decide +kernel
theorem dX4_ranks_135 : decode cX4_ranks 135 = .ok (.aload_n 0, 1) := by decide +kernel
theorem dX4_ranks_136 : decode cX4_ranks 136 = .ok (.aload_n 0, 1) := by decide +kernel
theorem dX4_ranks_137 : decode cX4_ranks 137 = .ok (.getfield 25, 3) := by decide +kernel
theorem dX4_ranks_140 : decode cX4_ranks 140 = .ok (.iload_n 2, 1) := by decide +kernel
theorem dX4_ranks_141 : decode cX4_ranks 141 = .ok (.iaload, 1) := by decide +kernel
theorem dX4_ranks_142 : decode cX4_ranks 142 = .ok (.aload_n 0, 1) := by decide +kernel
theorem dX4_ranks_143 : decode cX4_ranks 143 = .ok (.getfield 28, 3) := by decide +kernel
theorem dX4_ranks_146 : decode cX4_ranks 146 = .ok (.iload_n 2, 1) := by decide +kernel
theorem dX4_ranks_147 : decode cX4_ranks 147 = .ok (.iaload, 1) := by decide +kernel
theorem dX4_ranks_148 : decode cX4_ranks 148 = .ok (.invokevirtual 193, 3) := by decide +kernel
theorem dX4_ranks_151 : decode cX4_ranks 151 = .ok (.iinc 2 1, 3) := by decide +kernel
theorem dX4_ranks_154 : decode cX4_ranks 154 = .ok (.goto (-27), 3) := by decide +kernel
theorem dX4_ranks_157 : decode cX4_ranks 157 = .ok (.aload_n 0, 1) := by decide +kernel
theorem dX4_ranks_158 : decode cX4_ranks 158 = .ok (.aload_n 0, 1) := by decide +kernel
theorem dX4_ranks_159 : decode cX4_ranks 159 = .ok (.getfield 187, 3) := by decide +kernel
theorem dX4_ranks_162 : decode cX4_ranks 162 = .ok (.invokevirtual 195, 3) := by decide +kernel
theorem dX4_ranks_165 : decode cX4_ranks 165 = .ok (.ireturn, 1) := by decide +kernel
theorem dX4_fault_0 : decode cX4_fault 0 = .ok (.aload_n 0, 1) := by decide +kernel
theorem dX4_fault_1 : decode cX4_fault 1 = .ok (.iconst 0, 1) := by decide +kernel
theorem dX4_fault_2 : decode cX4_fault 2 = .ok (.putfield 61, 3) := by decide +kernel
theorem dX4_fault_5 : decode cX4_fault 5 = .ok (.aload_n 0, 1) := by decide +kernel
theorem dX4_fault_6 : decode cX4_fault 6 = .ok (.getfield 70, 3) := by decide +kernel
theorem dX4_fault_9 : decode cX4_fault 9 = .ok (.ireturn, 1) := by decide +kernel
theorem dX4_where_0 : decode cX4_where 0 = .ok (.aload_n 0, 1) := by decide +kernel
theorem dX4_where_1 : decode cX4_where 1 = .ok (.iconst 0, 1) := by decide +kernel
theorem dX4_where_2 : decode cX4_where 2 = .ok (.putfield 61, 3) := by decide +kernel
theorem dX4_where_5 : decode cX4_where 5 = .ok (.aload_n 0, 1) := by decide +kernel
theorem dX4_where_6 : decode cX4_where 6 = .ok (.getfield 9, 3) := by decide +kernel
theorem dX4_where_9 : decode cX4_where 9 = .ok (.ireturn, 1) := by decide +kernel
theorem dX4_empties_0 : decode cX4_empties 0 = .ok (.aload_n 0, 1) := by decide +kernel
theorem dX4_empties_1 : decode cX4_empties 1 = .ok (.getfield 40, 3) := by decide +kernel
theorem dX4_empties_4 : decode cX4_empties 4 = .ok (.iload_n 1, 1) := by decide +kernel
theorem dX4_empties_5 : decode cX4_empties 5 = .ok (.iconst 0, 1) := by decide +kernel
theorem dX4_empties_6 : decode cX4_empties 6 = .ok (.iastore, 1) := by decide +kernel
theorem dX4_empties_7 : decode cX4_empties 7 = .ok (.aload_n 0, 1) := by decide +kernel
theorem dX4_empties_8 : decode cX4_empties 8 = .ok (.getfield 43, 3) := by decide +kernel
theorem dX4_empties_11 : decode cX4_empties 11 = .ok (.iload_n 1, 1) := by decide +kernel
theorem dX4_empties_12 : decode cX4_empties 12 = .ok (.iconst 0, 1) := by decide +kernel
theorem dX4_empties_13 : decode cX4_empties 13 = .ok (.iastore, 1) := by decide +kernel
theorem dX4_empties_14 : decode cX4_empties 14 = .ok (.aload_n 0, 1) := by decide +kernel
theorem dX4_empties_15 : decode cX4_empties 15 = .ok (.getfield 49, 3) := by decide +kernel
