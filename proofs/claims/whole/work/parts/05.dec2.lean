theorem dX4_empties_18 : decode cX4_empties 18 = .ok (.iload_n 1, 1) := by decide +kernel
theorem dX4_empties_19 : decode cX4_empties 19 = .ok (.iconst 0, 1) := by decide +kernel
theorem dX4_empties_20 : decode cX4_empties 20 = .ok (.iastore, 1) := by decide +kernel
theorem dX4_empties_21 : decode cX4_empties 21 = .ok (.iconst 0, 1) := by decide +kernel
theorem dX4_empties_22 : decode cX4_empties 22 = .ok (.istore_n 2, 1) := by decide +kernel
theorem dX4_empties_23 : decode cX4_empties 23 = .ok (.iload_n 2, 1) := by decide +kernel
theorem dX4_empties_24 : decode cX4_empties 24 = .ok (.sipush 1000, 3) := by decide +kernel
theorem dX4_empties_27 : decode cX4_empties 27 = .ok (.if_icmp .ge 22, 3) := by decide +kernel
theorem dX4_empties_30 : decode cX4_empties 30 = .ok (.aload_n 0, 1) := by decide +kernel
theorem dX4_empties_31 : decode cX4_empties 31 = .ok (.getfield 55, 3) := by decide +kernel
theorem dX4_empties_34 : decode cX4_empties 34 = .ok (.sipush 1000, 3) := by decide +kernel
theorem dX4_empties_37 : decode cX4_empties 37 = .ok (.iload_n 1, 1) := by decide +kernel
theorem dX4_empties_38 : decode cX4_empties 38 = .ok (.imul, 1) := by decide +kernel
theorem dX4_empties_39 : decode cX4_empties 39 = .ok (.iload_n 2, 1) := by decide +kernel
theorem dX4_empties_40 : decode cX4_empties 40 = .ok (.iadd, 1) := by decide +kernel
theorem dX4_empties_41 : decode cX4_empties 41 = .ok (.iconst 0, 1) := by decide +kernel
theorem dX4_empties_42 : decode cX4_empties 42 = .ok (.iastore, 1) := by decide +kernel
theorem dX4_empties_43 : decode cX4_empties 43 = .ok (.iinc 2 1, 3) := by decide +kernel
theorem dX4_empties_46 : decode cX4_empties 46 = .ok (.goto (-23), 3) := by decide +kernel
theorem dX4_empties_49 : decode cX4_empties 49 = .ok (.return_, 1) := by decide +kernel
theorem dX4_boundBy_0 : decode cX4_boundBy 0 = .ok (.iconst 2, 1) := by decide +kernel
theorem dX4_boundBy_1 : decode cX4_boundBy 1 = .ok (.iload_n 0, 1) := by decide +kernel
theorem dX4_boundBy_2 : decode cX4_boundBy 2 = .ok (.imul, 1) := by decide +kernel
theorem dX4_boundBy_3 : decode cX4_boundBy 3 = .ok (.iload_n 1, 1) := by decide +kernel
theorem dX4_boundBy_4 : decode cX4_boundBy 4 = .ok (.idiv, 1) := by decide +kernel
theorem dX4_boundBy_5 : decode cX4_boundBy 5 = .ok (.iconst 1, 1) := by decide +kernel
theorem dX4_boundBy_6 : decode cX4_boundBy 6 = .ok (.if_icmp .le 11, 3) := by decide +kernel
theorem dX4_boundBy_9 : decode cX4_boundBy 9 = .ok (.iconst 2, 1) := by decide +kernel
theorem dX4_boundBy_10 : decode cX4_boundBy 10 = .ok (.iload_n 0, 1) := by decide +kernel
theorem dX4_boundBy_11 : decode cX4_boundBy 11 = .ok (.imul, 1) := by decide +kernel
theorem dX4_boundBy_12 : decode cX4_boundBy 12 = .ok (.iload_n 1, 1) := by decide +kernel
theorem dX4_boundBy_13 : decode cX4_boundBy 13 = .ok (.idiv, 1) := by decide +kernel
theorem dX4_boundBy_14 : decode cX4_boundBy 14 = .ok (.goto 4, 3) := by decide +kernel
theorem dX4_boundBy_17 : decode cX4_boundBy 17 = .ok (.iconst 1, 1) := by decide +kernel
theorem dX4_boundBy_18 : decode cX4_boundBy 18 = .ok (.ireturn, 1) := by decide +kernel
theorem dX4_boundOf_0 : decode cX4_boundOf 0 = .ok (.aload_n 0, 1) := by decide +kernel
theorem dX4_boundOf_1 : decode cX4_boundOf 1 = .ok (.getfield 43, 3) := by decide +kernel
theorem dX4_boundOf_4 : decode cX4_boundOf 4 = .ok (.iload_n 1, 1) := by decide +kernel
theorem dX4_boundOf_5 : decode cX4_boundOf 5 = .ok (.iaload, 1) := by decide +kernel
theorem dX4_boundOf_6 : decode cX4_boundOf 6 = .ok (.aload_n 0, 1) := by decide +kernel
theorem dX4_boundOf_7 : decode cX4_boundOf 7 = .ok (.getfield 185, 3) := by decide +kernel
theorem dX4_boundOf_10 : decode cX4_boundOf 10 = .ok (.invokestatic 198, 3) := by decide +kernel
theorem dX4_boundOf_13 : decode cX4_boundOf 13 = .ok (.ireturn, 1) := by decide +kernel
theorem dX4_bandOf_0 : decode cX4_bandOf 0 = .ok (.iconst 0, 1) := by decide +kernel
theorem dX4_bandOf_1 : decode cX4_bandOf 1 = .ok (.istore_n 2, 1) := by decide +kernel
theorem dX4_bandOf_2 : decode cX4_bandOf 2 = .ok (.iload_n 0, 1) := by decide +kernel
theorem dX4_bandOf_3 : decode cX4_bandOf 3 = .ok (.iload_n 1, 1) := by decide +kernel
theorem dX4_bandOf_4 : decode cX4_bandOf 4 = .ok (.iconst 1, 1) := by decide +kernel
theorem dX4_bandOf_5 : decode cX4_bandOf 5 = .ok (.iload_n 2, 1) := by decide +kernel
theorem dX4_bandOf_6 : decode cX4_bandOf 6 = .ok (.ishl, 1) := by decide +kernel
theorem dX4_bandOf_7 : decode cX4_bandOf 7 = .ok (.isub, 1) := by decide +kernel
theorem dX4_bandOf_8 : decode cX4_bandOf 8 = .ok (.iload_n 1, 1) := by decide +kernel
theorem dX4_bandOf_9 : decode cX4_bandOf 9 = .ok (.iconst 1, 1) := by decide +kernel
theorem dX4_bandOf_10 : decode cX4_bandOf 10 = .ok (.iload_n 2, 1) := by decide +kernel
theorem dX4_bandOf_11 : decode cX4_bandOf 11 = .ok (.ishl, 1) := by decide +kernel
theorem dX4_bandOf_12 : decode cX4_bandOf 12 = .ok (.irem, 1) := by decide +kernel
theorem dX4_bandOf_13 : decode cX4_bandOf 13 = .ok (.isub, 1) := by decide +kernel
theorem dX4_bandOf_14 : decode cX4_bandOf 14 = .ok (.if_icmp .gt 9, 3) := by decide +kernel
theorem dX4_bandOf_17 : decode cX4_bandOf 17 = .ok (.iinc 2 1, 3) := by decide +kernel
theorem dX4_bandOf_20 : decode cX4_bandOf 20 = .ok (.goto (-18), 3) := by decide +kernel
theorem dX4_bandOf_23 : decode cX4_bandOf 23 = .ok (.iload_n 2, 1) := by decide +kernel
theorem dX4_bandOf_24 : decode cX4_bandOf 24 = .ok (.ireturn, 1) := by decide +kernel
theorem dX4_place_0 : decode cX4_place 0 = .ok (.iconst 0, 1) := by decide +kernel
theorem dX4_place_1 : decode cX4_place 1 = .ok (.istore_n 3, 1) := by decide +kernel
theorem dX4_place_2 : decode cX4_place 2 = .ok (.iload_n 3, 1) := by decide +kernel
theorem dX4_place_3 : decode cX4_place 3 = .ok (.aload_n 0, 1) := by decide +kernel
theorem dX4_place_4 : decode cX4_place 4 = .ok (.getfield 40, 3) := by decide +kernel
theorem dX4_place_7 : decode cX4_place 7 = .ok (.iload_n 1, 1) := by decide +kernel
theorem dX4_place_8 : decode cX4_place 8 = .ok (.iaload, 1) := by decide +kernel
theorem dX4_place_9 : decode cX4_place 9 = .ok (.if_icmp .ge 25, 3) := by decide +kernel
theorem dX4_place_12 : decode cX4_place 12 = .ok (.aload_n 0, 1) := by decide +kernel
theorem dX4_place_13 : decode cX4_place 13 = .ok (.getfield 31, 3) := by decide +kernel
theorem dX4_place_16 : decode cX4_place 16 = .ok (.sipush 1000, 3) := by decide +kernel
theorem dX4_place_19 : decode cX4_place 19 = .ok (.iload_n 1, 1) := by decide +kernel
theorem dX4_place_20 : decode cX4_place 20 = .ok (.imul, 1) := by decide +kernel
theorem dX4_place_21 : decode cX4_place 21 = .ok (.iload_n 3, 1) := by decide +kernel
theorem dX4_place_22 : decode cX4_place 22 = .ok (.iadd, 1) := by decide +kernel
theorem dX4_place_23 : decode cX4_place 23 = .ok (.iaload, 1) := by decide +kernel
theorem dX4_place_24 : decode cX4_place 24 = .ok (.iload_n 2, 1) := by decide +kernel
theorem dX4_place_25 : decode cX4_place 25 = .ok (.if_icmp .gt 9, 3) := by decide +kernel
theorem dX4_place_28 : decode cX4_place 28 = .ok (.iinc 3 1, 3) := by decide +kernel
theorem dX4_place_31 : decode cX4_place 31 = .ok (.goto (-29), 3) := by decide +kernel
theorem dX4_place_34 : decode cX4_place 34 = .ok (.iload_n 3, 1) := by decide +kernel
theorem dX4_place_35 : decode cX4_place 35 = .ok (.ireturn, 1) := by decide +kernel
theorem dX4_spreadAt_0 : decode cX4_spreadAt 0 = .ok (.iload_n 2, 1) := by decide +kernel
theorem dX4_spreadAt_1 : decode cX4_spreadAt 1 = .ok (.ifCond .eq 13, 3) := by decide +kernel
theorem dX4_spreadAt_4 : decode cX4_spreadAt 4 = .ok (.iload_n 2, 1) := by decide +kernel
theorem dX4_spreadAt_5 : decode cX4_spreadAt 5 = .ok (.aload_n 0, 1) := by decide +kernel
theorem dX4_spreadAt_6 : decode cX4_spreadAt 6 = .ok (.getfield 40, 3) := by decide +kernel
theorem dX4_spreadAt_9 : decode cX4_spreadAt 9 = .ok (.iload_n 1, 1) := by decide +kernel
theorem dX4_spreadAt_10 : decode cX4_spreadAt 10 = .ok (.iaload, 1) := by decide +kernel
theorem dX4_spreadAt_11 : decode cX4_spreadAt 11 = .ok (.if_icmp .ne 7, 3) := by decide +kernel
theorem dX4_spreadAt_14 : decode cX4_spreadAt 14 = .ok (.iconst 0, 1) := by decide +kernel
theorem dX4_spreadAt_15 : decode cX4_spreadAt 15 = .ok (.goto 30, 3) := by decide +kernel
theorem dX4_spreadAt_18 : decode cX4_spreadAt 18 = .ok (.aload_n 0, 1) := by decide +kernel
theorem dX4_spreadAt_19 : decode cX4_spreadAt 19 = .ok (.getfield 34, 3) := by decide +kernel
theorem dX4_spreadAt_22 : decode cX4_spreadAt 22 = .ok (.sipush 1000, 3) := by decide +kernel
theorem dX4_spreadAt_25 : decode cX4_spreadAt 25 = .ok (.iload_n 1, 1) := by decide +kernel
theorem dX4_spreadAt_26 : decode cX4_spreadAt 26 = .ok (.imul, 1) := by decide +kernel
theorem dX4_spreadAt_27 : decode cX4_spreadAt 27 = .ok (.iload_n 2, 1) := by decide +kernel
theorem dX4_spreadAt_28 : decode cX4_spreadAt 28 = .ok (.iadd, 1) := by decide +kernel
theorem dX4_spreadAt_29 : decode cX4_spreadAt 29 = .ok (.iaload, 1) := by decide +kernel
theorem dX4_spreadAt_30 : decode cX4_spreadAt 30 = .ok (.aload_n 0, 1) := by decide +kernel
theorem dX4_spreadAt_31 : decode cX4_spreadAt 31 = .ok (.getfield 37, 3) := by decide +kernel
theorem dX4_spreadAt_34 : decode cX4_spreadAt 34 = .ok (.sipush 1000, 3) := by decide +kernel
theorem dX4_spreadAt_37 : decode cX4_spreadAt 37 = .ok (.iload_n 1, 1) := by decide +kernel
theorem dX4_spreadAt_38 : decode cX4_spreadAt 38 = .ok (.imul, 1) := by decide +kernel
theorem dX4_spreadAt_39 : decode cX4_spreadAt 39 = .ok (.iload_n 2, 1) := by decide +kernel
theorem dX4_spreadAt_40 : decode cX4_spreadAt 40 = .ok (.iadd, 1) := by decide +kernel
theorem dX4_spreadAt_41 : decode cX4_spreadAt 41 = .ok (.iaload, 1) := by decide +kernel
theorem dX4_spreadAt_42 : decode cX4_spreadAt 42 = .ok (.iadd, 1) := by decide +kernel
theorem dX4_spreadAt_43 : decode cX4_spreadAt 43 = .ok (.iconst 1, 1) := by decide +kernel
theorem dX4_spreadAt_44 : decode cX4_spreadAt 44 = .ok (.isub, 1) := by decide +kernel
theorem dX4_spreadAt_45 : decode cX4_spreadAt 45 = .ok (.ireturn, 1) := by decide +kernel
theorem dX4_shifts_0 : decode cX4_shifts 0 = .ok (.iload_n 3, 1) := by decide +kernel
theorem dX4_shifts_1 : decode cX4_shifts 1 = .ok (.ifCond .le 39, 3) := by decide +kernel
theorem dX4_shifts_4 : decode cX4_shifts 4 = .ok (.aload_n 0, 1) := by decide +kernel
theorem dX4_shifts_5 : decode cX4_shifts 5 = .ok (.getfield 40, 3) := by decide +kernel
theorem dX4_shifts_8 : decode cX4_shifts 8 = .ok (.iload_n 1, 1) := by decide +kernel
theorem dX4_shifts_9 : decode cX4_shifts 9 = .ok (.iaload, 1) := by decide +kernel
theorem dX4_shifts_10 : decode cX4_shifts 10 = .ok (.iconst 1, 1) := by decide +kernel
theorem dX4_shifts_11 : decode cX4_shifts 11 = .ok (.isub, 1) := by decide +kernel
theorem dX4_shifts_12 : decode cX4_shifts 12 = .ok (.istore 4, 2) := by decide +kernel
theorem dX4_shifts_14 : decode cX4_shifts 14 = .ok (.iload 4, 2) := by decide +kernel
theorem dX4_shifts_16 : decode cX4_shifts 16 = .ok (.iload_n 2, 1) := by decide +kernel
theorem dX4_shifts_17 : decode cX4_shifts 17 = .ok (.if_icmp .lt 20, 3) := by decide +kernel
theorem dX4_shifts_20 : decode cX4_shifts 20 = .ok (.aload_n 0, 1) := by decide +kernel
theorem dX4_shifts_21 : decode cX4_shifts 21 = .ok (.iload_n 1, 1) := by decide +kernel
theorem dX4_shifts_22 : decode cX4_shifts 22 = .ok (.iload 4, 2) := by decide +kernel
theorem dX4_shifts_24 : decode cX4_shifts 24 = .ok (.iload 4, 2) := by decide +kernel
theorem dX4_shifts_26 : decode cX4_shifts 26 = .ok (.iload_n 3, 1) := by decide +kernel
theorem dX4_shifts_27 : decode cX4_shifts 27 = .ok (.iadd, 1) := by decide +kernel
theorem dX4_shifts_28 : decode cX4_shifts 28 = .ok (.invokevirtual 201, 3) := by decide +kernel
theorem dX4_shifts_31 : decode cX4_shifts 31 = .ok (.iinc 4 (-1), 3) := by decide +kernel
theorem dX4_shifts_34 : decode cX4_shifts 34 = .ok (.goto (-20), 3) := by decide +kernel
theorem dX4_shifts_37 : decode cX4_shifts 37 = .ok (.goto 34, 3) := by decide +kernel
theorem dX4_shifts_40 : decode cX4_shifts 40 = .ok (.iload_n 2, 1) := by decide +kernel
theorem dX4_shifts_41 : decode cX4_shifts 41 = .ok (.istore 4, 2) := by decide +kernel
theorem dX4_shifts_43 : decode cX4_shifts 43 = .ok (.iload 4, 2) := by decide +kernel
theorem dX4_shifts_45 : decode cX4_shifts 45 = .ok (.aload_n 0, 1) := by decide +kernel
theorem dX4_shifts_46 : decode cX4_shifts 46 = .ok (.getfield 40, 3) := by decide +kernel
theorem dX4_shifts_49 : decode cX4_shifts 49 = .ok (.iload_n 1, 1) := by decide +kernel
theorem dX4_shifts_50 : decode cX4_shifts 50 = .ok (.iaload, 1) := by decide +kernel
theorem dX4_shifts_51 : decode cX4_shifts 51 = .ok (.if_icmp .ge 20, 3) := by decide +kernel
theorem dX4_shifts_54 : decode cX4_shifts 54 = .ok (.aload_n 0, 1) := by decide +kernel
theorem dX4_shifts_55 : decode cX4_shifts 55 = .ok (.iload_n 1, 1) := by decide +kernel
theorem dX4_shifts_56 : decode cX4_shifts 56 = .ok (.iload 4, 2) := by decide +kernel
theorem dX4_shifts_58 : decode cX4_shifts 58 = .ok (.iload 4, 2) := by decide +kernel
theorem dX4_shifts_60 : decode cX4_shifts 60 = .ok (.iload_n 3, 1) := by decide +kernel
theorem dX4_shifts_61 : decode cX4_shifts 61 = .ok (.iadd, 1) := by decide +kernel
theorem dX4_shifts_62 : decode cX4_shifts 62 = .ok (.invokevirtual 201, 3) := by decide +kernel
theorem dX4_shifts_65 : decode cX4_shifts 65 = .ok (.iinc 4 1, 3) := by decide +kernel
theorem dX4_shifts_68 : decode cX4_shifts 68 = .ok (.goto (-25), 3) := by decide +kernel
theorem dX4_shifts_71 : decode cX4_shifts 71 = .ok (.aload_n 0, 1) := by decide +kernel
theorem dX4_shifts_72 : decode cX4_shifts 72 = .ok (.getfield 40, 3) := by decide +kernel
theorem dX4_shifts_75 : decode cX4_shifts 75 = .ok (.iload_n 1, 1) := by decide +kernel
theorem dX4_shifts_76 : decode cX4_shifts 76 = .ok (.dup2, 1) := by decide +kernel
theorem dX4_shifts_77 : decode cX4_shifts 77 = .ok (.iaload, 1) := by decide +kernel
theorem dX4_shifts_78 : decode cX4_shifts 78 = .ok (.iload_n 3, 1) := by decide +kernel
theorem dX4_shifts_79 : decode cX4_shifts 79 = .ok (.iadd, 1) := by decide +kernel
theorem dX4_shifts_80 : decode cX4_shifts 80 = .ok (.iastore, 1) := by decide +kernel
theorem dX4_shifts_81 : decode cX4_shifts 81 = .ok (.return_, 1) := by decide +kernel
theorem dX4_copies_0 : decode cX4_copies 0 = .ok (.aload_n 0, 1) := by decide +kernel
theorem dX4_copies_1 : decode cX4_copies 1 = .ok (.getfield 31, 3) := by decide +kernel
theorem dX4_copies_4 : decode cX4_copies 4 = .ok (.sipush 1000, 3) := by decide +kernel
theorem dX4_copies_7 : decode cX4_copies 7 = .ok (.iload_n 1, 1) := by decide +kernel
theorem dX4_copies_8 : decode cX4_copies 8 = .ok (.imul, 1) := by decide +kernel
theorem dX4_copies_9 : decode cX4_copies 9 = .ok (.iload_n 3, 1) := by decide +kernel
theorem dX4_copies_10 : decode cX4_copies 10 = .ok (.iadd, 1) := by decide +kernel
theorem dX4_copies_11 : decode cX4_copies 11 = .ok (.aload_n 0, 1) := by decide +kernel
theorem dX4_copies_12 : decode cX4_copies 12 = .ok (.getfield 31, 3) := by decide +kernel
theorem dX4_copies_15 : decode cX4_copies 15 = .ok (.sipush 1000, 3) := by decide +kernel
theorem dX4_copies_18 : decode cX4_copies 18 = .ok (.iload_n 1, 1) := by decide +kernel
theorem dX4_copies_19 : decode cX4_copies 19 = .ok (.imul, 1) := by decide +kernel
theorem dX4_copies_20 : decode cX4_copies 20 = .ok (.iload_n 2, 1) := by decide +kernel
theorem dX4_copies_21 : decode cX4_copies 21 = .ok (.iadd, 1) := by decide +kernel
theorem dX4_copies_22 : decode cX4_copies 22 = .ok (.iaload, 1) := by decide +kernel
theorem dX4_copies_23 : decode cX4_copies 23 = .ok (.iastore, 1) := by decide +kernel
theorem dX4_copies_24 : decode cX4_copies 24 = .ok (.aload_n 0, 1) := by decide +kernel
theorem dX4_copies_25 : decode cX4_copies 25 = .ok (.getfield 34, 3) := by decide +kernel
theorem dX4_copies_28 : decode cX4_copies 28 = .ok (.sipush 1000, 3) := by decide +kernel
theorem dX4_copies_31 : decode cX4_copies 31 = .ok (.iload_n 1, 1) := by decide +kernel
theorem dX4_copies_32 : decode cX4_copies 32 = .ok (.imul, 1) := by decide +kernel
theorem dX4_copies_33 : decode cX4_copies 33 = .ok (.iload_n 3, 1) := by decide +kernel
theorem dX4_copies_34 : decode cX4_copies 34 = .ok (.iadd, 1) := by decide +kernel
theorem dX4_copies_35 : decode cX4_copies 35 = .ok (.aload_n 0, 1) := by decide +kernel
theorem dX4_copies_36 : decode cX4_copies 36 = .ok (.getfield 34, 3) := by decide +kernel
theorem dX4_copies_39 : decode cX4_copies 39 = .ok (.sipush 1000, 3) := by decide +kernel
theorem dX4_copies_42 : decode cX4_copies 42 = .ok (.iload_n 1, 1) := by decide +kernel
theorem dX4_copies_43 : decode cX4_copies 43 = .ok (.imul, 1) := by decide +kernel
theorem dX4_copies_44 : decode cX4_copies 44 = .ok (.iload_n 2, 1) := by decide +kernel
theorem dX4_copies_45 : decode cX4_copies 45 = .ok (.iadd, 1) := by decide +kernel
theorem dX4_copies_46 : decode cX4_copies 46 = .ok (.iaload, 1) := by decide +kernel
theorem dX4_copies_47 : decode cX4_copies 47 = .ok (.iastore, 1) := by decide +kernel
theorem dX4_copies_48 : decode cX4_copies 48 = .ok (.aload_n 0, 1) := by decide +kernel
theorem dX4_copies_49 : decode cX4_copies 49 = .ok (.getfield 37, 3) := by decide +kernel
theorem dX4_copies_52 : decode cX4_copies 52 = .ok (.sipush 1000, 3) := by decide +kernel
theorem dX4_copies_55 : decode cX4_copies 55 = .ok (.iload_n 1, 1) := by decide +kernel
theorem dX4_copies_56 : decode cX4_copies 56 = .ok (.imul, 1) := by decide +kernel
theorem dX4_copies_57 : decode cX4_copies 57 = .ok (.iload_n 3, 1) := by decide +kernel
theorem dX4_copies_58 : decode cX4_copies 58 = .ok (.iadd, 1) := by decide +kernel
theorem dX4_copies_59 : decode cX4_copies 59 = .ok (.aload_n 0, 1) := by decide +kernel
theorem dX4_copies_60 : decode cX4_copies 60 = .ok (.getfield 37, 3) := by decide +kernel
theorem dX4_copies_63 : decode cX4_copies 63 = .ok (.sipush 1000, 3) := by decide +kernel
theorem dX4_copies_66 : decode cX4_copies 66 = .ok (.iload_n 1, 1) := by decide +kernel
theorem dX4_copies_67 : decode cX4_copies 67 = .ok (.imul, 1) := by decide +kernel
theorem dX4_copies_68 : decode cX4_copies 68 = .ok (.iload_n 2, 1) := by decide +kernel
theorem dX4_copies_69 : decode cX4_copies 69 = .ok (.iadd, 1) := by decide +kernel
theorem dX4_copies_70 : decode cX4_copies 70 = .ok (.iaload, 1) := by decide +kernel
theorem dX4_copies_71 : decode cX4_copies 71 = .ok (.iastore, 1) := by decide +kernel
theorem dX4_copies_72 : decode cX4_copies 72 = .ok (.return_, 1) := by decide +kernel
theorem dX4_lays_0 : decode cX4_lays 0 = .ok (.aload_n 0, 1) := by decide +kernel
theorem dX4_lays_1 : decode cX4_lays 1 = .ok (.getfield 31, 3) := by decide +kernel
theorem dX4_lays_4 : decode cX4_lays 4 = .ok (.sipush 1000, 3) := by decide +kernel
theorem dX4_lays_7 : decode cX4_lays 7 = .ok (.iload_n 1, 1) := by decide +kernel
theorem dX4_lays_8 : decode cX4_lays 8 = .ok (.imul, 1) := by decide +kernel
theorem dX4_lays_9 : decode cX4_lays 9 = .ok (.iload_n 2, 1) := by decide +kernel
theorem dX4_lays_10 : decode cX4_lays 10 = .ok (.iadd, 1) := by decide +kernel
theorem dX4_lays_11 : decode cX4_lays 11 = .ok (.iload_n 3, 1) := by decide +kernel
theorem dX4_lays_12 : decode cX4_lays 12 = .ok (.iastore, 1) := by decide +kernel
theorem dX4_lays_13 : decode cX4_lays 13 = .ok (.aload_n 0, 1) := by decide +kernel
theorem dX4_lays_14 : decode cX4_lays 14 = .ok (.getfield 34, 3) := by decide +kernel
theorem dX4_lays_17 : decode cX4_lays 17 = .ok (.sipush 1000, 3) := by decide +kernel
theorem dX4_lays_20 : decode cX4_lays 20 = .ok (.iload_n 1, 1) := by decide +kernel
theorem dX4_lays_21 : decode cX4_lays 21 = .ok (.imul, 1) := by decide +kernel
theorem dX4_lays_22 : decode cX4_lays 22 = .ok (.iload_n 2, 1) := by decide +kernel
theorem dX4_lays_23 : decode cX4_lays 23 = .ok (.iadd, 1) := by decide +kernel
theorem dX4_lays_24 : decode cX4_lays 24 = .ok (.iload 4, 2) := by decide +kernel
theorem dX4_lays_26 : decode cX4_lays 26 = .ok (.iastore, 1) := by decide +kernel
theorem dX4_lays_27 : decode cX4_lays 27 = .ok (.aload_n 0, 1) := by decide +kernel
theorem dX4_lays_28 : decode cX4_lays 28 = .ok (.getfield 37, 3) := by decide +kernel
theorem dX4_lays_31 : decode cX4_lays 31 = .ok (.sipush 1000, 3) := by decide +kernel
theorem dX4_lays_34 : decode cX4_lays 34 = .ok (.iload_n 1, 1) := by decide +kernel
theorem dX4_lays_35 : decode cX4_lays 35 = .ok (.imul, 1) := by decide +kernel
theorem dX4_lays_36 : decode cX4_lays 36 = .ok (.iload_n 2, 1) := by decide +kernel
theorem dX4_lays_37 : decode cX4_lays 37 = .ok (.iadd, 1) := by decide +kernel
theorem dX4_lays_38 : decode cX4_lays 38 = .ok (.iload 5, 2) := by decide +kernel
theorem dX4_lays_40 : decode cX4_lays 40 = .ok (.iastore, 1) := by decide +kernel
theorem dX4_lays_41 : decode cX4_lays 41 = .ok (.return_, 1) := by decide +kernel
theorem dX4_pushes_0 : decode cX4_pushes 0 = .ok (.aload_n 0, 1) := by decide +kernel
theorem dX4_pushes_1 : decode cX4_pushes 1 = .ok (.iload_n 1, 1) := by decide +kernel
theorem dX4_pushes_2 : decode cX4_pushes 2 = .ok (.iload_n 2, 1) := by decide +kernel
theorem dX4_pushes_3 : decode cX4_pushes 3 = .ok (.invokevirtual 205, 3) := by decide +kernel
theorem dX4_pushes_6 : decode cX4_pushes 6 = .ok (.istore_n 3, 1) := by decide +kernel
theorem dX4_pushes_7 : decode cX4_pushes 7 = .ok (.aload_n 0, 1) := by decide +kernel
theorem dX4_pushes_8 : decode cX4_pushes 8 = .ok (.iload_n 1, 1) := by decide +kernel
theorem dX4_pushes_9 : decode cX4_pushes 9 = .ok (.iload_n 3, 1) := by decide +kernel
theorem dX4_pushes_10 : decode cX4_pushes 10 = .ok (.invokevirtual 208, 3) := by decide +kernel
theorem dX4_pushes_13 : decode cX4_pushes 13 = .ok (.istore 4, 2) := by decide +kernel
theorem dX4_pushes_15 : decode cX4_pushes 15 = .ok (.aload_n 0, 1) := by decide +kernel
theorem dX4_pushes_16 : decode cX4_pushes 16 = .ok (.iload_n 1, 1) := by decide +kernel
theorem dX4_pushes_17 : decode cX4_pushes 17 = .ok (.iload_n 3, 1) := by decide +kernel
theorem dX4_pushes_18 : decode cX4_pushes 18 = .ok (.iconst 1, 1) := by decide +kernel
theorem dX4_pushes_19 : decode cX4_pushes 19 = .ok (.invokevirtual 211, 3) := by decide +kernel
theorem dX4_pushes_22 : decode cX4_pushes 22 = .ok (.aload_n 0, 1) := by decide +kernel
theorem dX4_pushes_23 : decode cX4_pushes 23 = .ok (.iload_n 1, 1) := by decide +kernel
theorem dX4_pushes_24 : decode cX4_pushes 24 = .ok (.iload_n 3, 1) := by decide +kernel
theorem dX4_pushes_25 : decode cX4_pushes 25 = .ok (.iload_n 2, 1) := by decide +kernel
theorem dX4_pushes_26 : decode cX4_pushes 26 = .ok (.iconst 1, 1) := by decide +kernel
theorem dX4_pushes_27 : decode cX4_pushes 27 = .ok (.iload 4, 2) := by decide +kernel
theorem dX4_pushes_29 : decode cX4_pushes 29 = .ok (.invokevirtual 214, 3) := by decide +kernel
theorem dX4_pushes_32 : decode cX4_pushes 32 = .ok (.aload_n 0, 1) := by decide +kernel
theorem dX4_pushes_33 : decode cX4_pushes 33 = .ok (.getfield 43, 3) := by decide +kernel
theorem dX4_pushes_36 : decode cX4_pushes 36 = .ok (.iload_n 1, 1) := by decide +kernel
theorem dX4_pushes_37 : decode cX4_pushes 37 = .ok (.dup2, 1) := by decide +kernel
theorem dX4_pushes_38 : decode cX4_pushes 38 = .ok (.iaload, 1) := by decide +kernel
theorem dX4_pushes_39 : decode cX4_pushes 39 = .ok (.iconst 1, 1) := by decide +kernel
theorem dX4_pushes_40 : decode cX4_pushes 40 = .ok (.iadd, 1) := by decide +kernel
theorem dX4_pushes_41 : decode cX4_pushes 41 = .ok (.iastore, 1) := by decide +kernel
theorem dX4_pushes_42 : decode cX4_pushes 42 = .ok (.aload_n 0, 1) := by decide +kernel
theorem dX4_pushes_43 : decode cX4_pushes 43 = .ok (.getfield 55, 3) := by decide +kernel
theorem dX4_pushes_46 : decode cX4_pushes 46 = .ok (.sipush 1000, 3) := by decide +kernel
theorem dX4_pushes_49 : decode cX4_pushes 49 = .ok (.iload_n 1, 1) := by decide +kernel
theorem dX4_pushes_50 : decode cX4_pushes 50 = .ok (.imul, 1) := by decide +kernel
theorem dX4_pushes_51 : decode cX4_pushes 51 = .ok (.iload_n 2, 1) := by decide +kernel
theorem dX4_pushes_52 : decode cX4_pushes 52 = .ok (.iadd, 1) := by decide +kernel
theorem dX4_pushes_53 : decode cX4_pushes 53 = .ok (.dup2, 1) := by decide +kernel
theorem dX4_pushes_54 : decode cX4_pushes 54 = .ok (.iaload, 1) := by decide +kernel
theorem dX4_pushes_55 : decode cX4_pushes 55 = .ok (.iconst 1, 1) := by decide +kernel
theorem dX4_pushes_56 : decode cX4_pushes 56 = .ok (.iadd, 1) := by decide +kernel
theorem dX4_pushes_57 : decode cX4_pushes 57 = .ok (.iastore, 1) := by decide +kernel
theorem dX4_pushes_58 : decode cX4_pushes 58 = .ok (.aload_n 0, 1) := by decide +kernel
theorem dX4_pushes_59 : decode cX4_pushes 59 = .ok (.getfield 49, 3) := by decide +kernel
theorem dX4_pushes_62 : decode cX4_pushes 62 = .ok (.iload_n 1, 1) := by decide +kernel
theorem dX4_pushes_63 : decode cX4_pushes 63 = .ok (.dup2, 1) := by decide +kernel
theorem dX4_pushes_64 : decode cX4_pushes 64 = .ok (.iaload, 1) := by decide +kernel
theorem dX4_pushes_65 : decode cX4_pushes 65 = .ok (.iconst 1, 1) := by decide +kernel
theorem dX4_pushes_66 : decode cX4_pushes 66 = .ok (.iadd, 1) := by decide +kernel
theorem dX4_pushes_67 : decode cX4_pushes 67 = .ok (.iastore, 1) := by decide +kernel
theorem dX4_pushes_68 : decode cX4_pushes 68 = .ok (.aload_n 0, 1) := by decide +kernel
theorem dX4_pushes_69 : decode cX4_pushes 69 = .ok (.getfield 49, 3) := by decide +kernel
theorem dX4_pushes_72 : decode cX4_pushes 72 = .ok (.iload_n 1, 1) := by decide +kernel
theorem dX4_pushes_73 : decode cX4_pushes 73 = .ok (.iaload, 1) := by decide +kernel
theorem dX4_pushes_74 : decode cX4_pushes 74 = .ok (.aload_n 0, 1) := by decide +kernel
theorem dX4_pushes_75 : decode cX4_pushes 75 = .ok (.getfield 46, 3) := by decide +kernel
theorem dX4_pushes_78 : decode cX4_pushes 78 = .ok (.iload_n 1, 1) := by decide +kernel
theorem dX4_pushes_79 : decode cX4_pushes 79 = .ok (.iaload, 1) := by decide +kernel
theorem dX4_pushes_80 : decode cX4_pushes 80 = .ok (.if_icmp .lt 9, 3) := by decide +kernel
theorem dX4_pushes_83 : decode cX4_pushes 83 = .ok (.aload_n 0, 1) := by decide +kernel
theorem dX4_pushes_84 : decode cX4_pushes 84 = .ok (.iload_n 1, 1) := by decide +kernel
theorem dX4_pushes_85 : decode cX4_pushes 85 = .ok (.invokevirtual 218, 3) := by decide +kernel
theorem dX4_pushes_88 : decode cX4_pushes 88 = .ok (.pop, 1) := by decide +kernel
theorem dX4_pushes_89 : decode cX4_pushes 89 = .ok (.return_, 1) := by decide +kernel
theorem dX4_bandAt_0 : decode cX4_bandAt 0 = .ok (.aload_n 0, 1) := by decide +kernel
theorem dX4_bandAt_1 : decode cX4_bandAt 1 = .ok (.getfield 37, 3) := by decide +kernel
theorem dX4_bandAt_4 : decode cX4_bandAt 4 = .ok (.sipush 1000, 3) := by decide +kernel
theorem dX4_bandAt_7 : decode cX4_bandAt 7 = .ok (.iload_n 1, 1) := by decide +kernel
theorem dX4_bandAt_8 : decode cX4_bandAt 8 = .ok (.imul, 1) := by decide +kernel
theorem dX4_bandAt_9 : decode cX4_bandAt 9 = .ok (.iload_n 2, 1) := by decide +kernel
theorem dX4_bandAt_10 : decode cX4_bandAt 10 = .ok (.iadd, 1) := by decide +kernel
theorem dX4_bandAt_11 : decode cX4_bandAt 11 = .ok (.iaload, 1) := by decide +kernel
theorem dX4_bandAt_12 : decode cX4_bandAt 12 = .ok (.iload_n 3, 1) := by decide +kernel
theorem dX4_bandAt_13 : decode cX4_bandAt 13 = .ok (.invokestatic 221, 3) := by decide +kernel
theorem dX4_bandAt_16 : decode cX4_bandAt 16 = .ok (.ireturn, 1) := by decide +kernel
theorem dX4_familyFrom_0 : decode cX4_familyFrom 0 = .ok (.iload_n 2, 1) := by decide +kernel
theorem dX4_familyFrom_1 : decode cX4_familyFrom 1 = .ok (.istore 4, 2) := by decide +kernel
theorem dX4_familyFrom_3 : decode cX4_familyFrom 3 = .ok (.iload 4, 2) := by decide +kernel
theorem dX4_familyFrom_5 : decode cX4_familyFrom 5 = .ok (.iconst 1, 1) := by decide +kernel
theorem dX4_familyFrom_6 : decode cX4_familyFrom 6 = .ok (.if_icmp .le 29, 3) := by decide +kernel
theorem dX4_familyFrom_9 : decode cX4_familyFrom 9 = .ok (.aload_n 0, 1) := by decide +kernel
theorem dX4_familyFrom_10 : decode cX4_familyFrom 10 = .ok (.iload_n 1, 1) := by decide +kernel
theorem dX4_familyFrom_11 : decode cX4_familyFrom 11 = .ok (.iload 4, 2) := by decide +kernel
theorem dX4_familyFrom_13 : decode cX4_familyFrom 13 = .ok (.iconst 1, 1) := by decide +kernel
theorem dX4_familyFrom_14 : decode cX4_familyFrom 14 = .ok (.isub, 1) := by decide +kernel
theorem dX4_familyFrom_15 : decode cX4_familyFrom 15 = .ok (.iload_n 3, 1) := by decide +kernel
theorem dX4_familyFrom_16 : decode cX4_familyFrom 16 = .ok (.invokevirtual 224, 3) := by decide +kernel
theorem dX4_familyFrom_19 : decode cX4_familyFrom 19 = .ok (.aload_n 0, 1) := by decide +kernel
theorem dX4_familyFrom_20 : decode cX4_familyFrom 20 = .ok (.iload_n 1, 1) := by decide +kernel
theorem dX4_familyFrom_21 : decode cX4_familyFrom 21 = .ok (.iload_n 2, 1) := by decide +kernel
theorem dX4_familyFrom_22 : decode cX4_familyFrom 22 = .ok (.iload_n 3, 1) := by decide +kernel
theorem dX4_familyFrom_23 : decode cX4_familyFrom 23 = .ok (.invokevirtual 224, 3) := by decide +kernel
theorem dX4_familyFrom_26 : decode cX4_familyFrom 26 = .ok (.if_icmp .ge 9, 3) := by decide +kernel
theorem dX4_familyFrom_29 : decode cX4_familyFrom 29 = .ok (.iinc 4 (-1), 3) := by decide +kernel
theorem dX4_familyFrom_32 : decode cX4_familyFrom 32 = .ok (.goto (-29), 3) := by decide +kernel
theorem dX4_familyFrom_35 : decode cX4_familyFrom 35 = .ok (.iload 4, 2) := by decide +kernel
theorem dX4_familyFrom_37 : decode cX4_familyFrom 37 = .ok (.ireturn, 1) := by decide +kernel
theorem dX4_gaps_0 : decode cX4_gaps 0 = .ok (.iconst 0, 1) := by decide +kernel
theorem dX4_gaps_1 : decode cX4_gaps 1 = .ok (.istore 4, 2) := by decide +kernel
theorem dX4_gaps_3 : decode cX4_gaps 3 = .ok (.iload_n 2, 1) := by decide +kernel
theorem dX4_gaps_4 : decode cX4_gaps 4 = .ok (.istore 5, 2) := by decide +kernel
theorem dX4_gaps_6 : decode cX4_gaps 6 = .ok (.iload 5, 2) := by decide +kernel
theorem dX4_gaps_8 : decode cX4_gaps 8 = .ok (.iload_n 3, 1) := by decide +kernel
theorem dX4_gaps_9 : decode cX4_gaps 9 = .ok (.if_icmp .gt 27, 3) := by decide +kernel
theorem dX4_gaps_12 : decode cX4_gaps 12 = .ok (.iload 4, 2) := by decide +kernel
theorem dX4_gaps_14 : decode cX4_gaps 14 = .ok (.aload_n 0, 1) := by decide +kernel
theorem dX4_gaps_15 : decode cX4_gaps 15 = .ok (.getfield 34, 3) := by decide +kernel
theorem dX4_gaps_18 : decode cX4_gaps 18 = .ok (.sipush 1000, 3) := by decide +kernel
theorem dX4_gaps_21 : decode cX4_gaps 21 = .ok (.iload_n 1, 1) := by decide +kernel
theorem dX4_gaps_22 : decode cX4_gaps 22 = .ok (.imul, 1) := by decide +kernel
theorem dX4_gaps_23 : decode cX4_gaps 23 = .ok (.iload 5, 2) := by decide +kernel
theorem dX4_gaps_25 : decode cX4_gaps 25 = .ok (.iadd, 1) := by decide +kernel
theorem dX4_gaps_26 : decode cX4_gaps 26 = .ok (.iaload, 1) := by decide +kernel
theorem dX4_gaps_27 : decode cX4_gaps 27 = .ok (.iadd, 1) := by decide +kernel
theorem dX4_gaps_28 : decode cX4_gaps 28 = .ok (.istore 4, 2) := by decide +kernel
theorem dX4_gaps_30 : decode cX4_gaps 30 = .ok (.iinc 5 1, 3) := by decide +kernel
theorem dX4_gaps_33 : decode cX4_gaps 33 = .ok (.goto (-27), 3) := by decide +kernel
theorem dX4_gaps_36 : decode cX4_gaps 36 = .ok (.iload 4, 2) := by decide +kernel
theorem dX4_gaps_38 : decode cX4_gaps 38 = .ok (.ireturn, 1) := by decide +kernel
theorem dX4_canGo_0 : decode cX4_canGo 0 = .ok (.iload_n 2, 1) := by decide +kernel
theorem dX4_canGo_1 : decode cX4_canGo 1 = .ok (.iconst 1, 1) := by decide +kernel
theorem dX4_canGo_2 : decode cX4_canGo 2 = .ok (.if_icmp .lt 34, 3) := by decide +kernel
theorem dX4_canGo_5 : decode cX4_canGo 5 = .ok (.iload_n 2, 1) := by decide +kernel
theorem dX4_canGo_6 : decode cX4_canGo 6 = .ok (.aload_n 0, 1) := by decide +kernel
theorem dX4_canGo_7 : decode cX4_canGo 7 = .ok (.getfield 40, 3) := by decide +kernel
theorem dX4_canGo_10 : decode cX4_canGo 10 = .ok (.iload_n 1, 1) := by decide +kernel
theorem dX4_canGo_11 : decode cX4_canGo 11 = .ok (.iaload, 1) := by decide +kernel
theorem dX4_canGo_12 : decode cX4_canGo 12 = .ok (.iconst 2, 1) := by decide +kernel
theorem dX4_canGo_13 : decode cX4_canGo 13 = .ok (.isub, 1) := by decide +kernel
theorem dX4_canGo_14 : decode cX4_canGo 14 = .ok (.if_icmp .gt 22, 3) := by decide +kernel
theorem dX4_canGo_17 : decode cX4_canGo 17 = .ok (.aload_n 0, 1) := by decide +kernel
theorem dX4_canGo_18 : decode cX4_canGo 18 = .ok (.iload_n 1, 1) := by decide +kernel
theorem dX4_canGo_19 : decode cX4_canGo 19 = .ok (.iload_n 2, 1) := by decide +kernel
theorem dX4_canGo_20 : decode cX4_canGo 20 = .ok (.iload_n 3, 1) := by decide +kernel
theorem dX4_canGo_21 : decode cX4_canGo 21 = .ok (.invokevirtual 224, 3) := by decide +kernel
theorem dX4_canGo_24 : decode cX4_canGo 24 = .ok (.aload_n 0, 1) := by decide +kernel
theorem dX4_canGo_25 : decode cX4_canGo 25 = .ok (.iload_n 1, 1) := by decide +kernel
theorem dX4_canGo_26 : decode cX4_canGo 26 = .ok (.iload_n 2, 1) := by decide +kernel
theorem dX4_canGo_27 : decode cX4_canGo 27 = .ok (.iconst 1, 1) := by decide +kernel
theorem dX4_canGo_28 : decode cX4_canGo 28 = .ok (.iadd, 1) := by decide +kernel
theorem dX4_canGo_29 : decode cX4_canGo 29 = .ok (.iload_n 3, 1) := by decide +kernel
theorem dX4_canGo_30 : decode cX4_canGo 30 = .ok (.invokevirtual 224, 3) := by decide +kernel
theorem dX4_canGo_33 : decode cX4_canGo 33 = .ok (.if_icmp .le 5, 3) := by decide +kernel
theorem dX4_canGo_36 : decode cX4_canGo 36 = .ok (.iconst 0, 1) := by decide +kernel
theorem dX4_canGo_37 : decode cX4_canGo 37 = .ok (.ireturn, 1) := by decide +kernel
theorem dX4_canGo_38 : decode cX4_canGo 38 = .ok (.aload_n 0, 1) := by decide +kernel
theorem dX4_canGo_39 : decode cX4_canGo 39 = .ok (.iload_n 1, 1) := by decide +kernel
theorem dX4_canGo_40 : decode cX4_canGo 40 = .ok (.aload_n 0, 1) := by decide +kernel
theorem dX4_canGo_41 : decode cX4_canGo 41 = .ok (.iload_n 1, 1) := by decide +kernel
theorem dX4_canGo_42 : decode cX4_canGo 42 = .ok (.iload_n 2, 1) := by decide +kernel
theorem dX4_canGo_43 : decode cX4_canGo 43 = .ok (.iload_n 3, 1) := by decide +kernel
theorem dX4_canGo_44 : decode cX4_canGo 44 = .ok (.invokevirtual 228, 3) := by decide +kernel
theorem dX4_canGo_47 : decode cX4_canGo 47 = .ok (.iload_n 2, 1) := by decide +kernel
theorem dX4_canGo_48 : decode cX4_canGo 48 = .ok (.invokevirtual 231, 3) := by decide +kernel
theorem dX4_canGo_51 : decode cX4_canGo 51 = .ok (.aload_n 0, 1) := by decide +kernel
theorem dX4_canGo_52 : decode cX4_canGo 52 = .ok (.getfield 34, 3) := by decide +kernel
theorem dX4_canGo_55 : decode cX4_canGo 55 = .ok (.sipush 1000, 3) := by decide +kernel
theorem dX4_canGo_58 : decode cX4_canGo 58 = .ok (.iload_n 1, 1) := by decide +kernel
theorem dX4_canGo_59 : decode cX4_canGo 59 = .ok (.imul, 1) := by decide +kernel
theorem dX4_canGo_60 : decode cX4_canGo 60 = .ok (.iload_n 2, 1) := by decide +kernel
theorem dX4_canGo_61 : decode cX4_canGo 61 = .ok (.iadd, 1) := by decide +kernel
theorem dX4_canGo_62 : decode cX4_canGo 62 = .ok (.iconst 1, 1) := by decide +kernel
theorem dX4_canGo_63 : decode cX4_canGo 63 = .ok (.iadd, 1) := by decide +kernel
theorem dX4_canGo_64 : decode cX4_canGo 64 = .ok (.iaload, 1) := by decide +kernel
theorem dX4_canGo_65 : decode cX4_canGo 65 = .ok (.iadd, 1) := by decide +kernel
theorem dX4_canGo_66 : decode cX4_canGo 66 = .ok (.aload_n 0, 1) := by decide +kernel
theorem dX4_canGo_67 : decode cX4_canGo 67 = .ok (.getfield 37, 3) := by decide +kernel
theorem dX4_canGo_70 : decode cX4_canGo 70 = .ok (.sipush 1000, 3) := by decide +kernel
theorem dX4_canGo_73 : decode cX4_canGo 73 = .ok (.iload_n 1, 1) := by decide +kernel
theorem dX4_canGo_74 : decode cX4_canGo 74 = .ok (.imul, 1) := by decide +kernel
theorem dX4_canGo_75 : decode cX4_canGo 75 = .ok (.iload_n 2, 1) := by decide +kernel
theorem dX4_canGo_76 : decode cX4_canGo 76 = .ok (.iadd, 1) := by decide +kernel
theorem dX4_canGo_77 : decode cX4_canGo 77 = .ok (.iconst 1, 1) := by decide +kernel
theorem dX4_canGo_78 : decode cX4_canGo 78 = .ok (.iadd, 1) := by decide +kernel
theorem dX4_canGo_79 : decode cX4_canGo 79 = .ok (.iaload, 1) := by decide +kernel
theorem dX4_canGo_80 : decode cX4_canGo 80 = .ok (.iadd, 1) := by decide +kernel
theorem dX4_canGo_81 : decode cX4_canGo 81 = .ok (.iload_n 3, 1) := by decide +kernel
theorem dX4_canGo_82 : decode cX4_canGo 82 = .ok (.if_icmp .gt 7, 3) := by decide +kernel
theorem dX4_canGo_85 : decode cX4_canGo 85 = .ok (.iconst 1, 1) := by decide +kernel
theorem dX4_canGo_86 : decode cX4_canGo 86 = .ok (.goto 4, 3) := by decide +kernel
theorem dX4_canGo_89 : decode cX4_canGo 89 = .ok (.iconst 0, 1) := by decide +kernel
theorem dX4_canGo_90 : decode cX4_canGo 90 = .ok (.ireturn, 1) := by decide +kernel
theorem dX4_shortens_0 : decode cX4_shortens 0 = .ok (.aload_n 0, 1) := by decide +kernel
theorem dX4_shortens_1 : decode cX4_shortens 1 = .ok (.getfield 40, 3) := by decide +kernel
theorem dX4_shortens_4 : decode cX4_shortens 4 = .ok (.iload_n 1, 1) := by decide +kernel
theorem dX4_shortens_5 : decode cX4_shortens 5 = .ok (.iaload, 1) := by decide +kernel
theorem dX4_shortens_6 : decode cX4_shortens 6 = .ok (.istore_n 3, 1) := by decide +kernel
theorem dX4_shortens_7 : decode cX4_shortens 7 = .ok (.iload_n 3, 1) := by decide +kernel
theorem dX4_shortens_8 : decode cX4_shortens 8 = .ok (.iconst 2, 1) := by decide +kernel
theorem dX4_shortens_9 : decode cX4_shortens 9 = .ok (.isub, 1) := by decide +kernel
theorem dX4_shortens_10 : decode cX4_shortens 10 = .ok (.istore 4, 2) := by decide +kernel
theorem dX4_shortens_12 : decode cX4_shortens 12 = .ok (.iload 4, 2) := by decide +kernel
theorem dX4_shortens_14 : decode cX4_shortens 14 = .ok (.ifCond .le 82, 3) := by decide +kernel
theorem dX4_shortens_17 : decode cX4_shortens 17 = .ok (.aload_n 0, 1) := by decide +kernel
theorem dX4_shortens_18 : decode cX4_shortens 18 = .ok (.iload_n 1, 1) := by decide +kernel
theorem dX4_shortens_19 : decode cX4_shortens 19 = .ok (.iload 4, 2) := by decide +kernel
theorem dX4_shortens_21 : decode cX4_shortens 21 = .ok (.iload_n 2, 1) := by decide +kernel
theorem dX4_shortens_22 : decode cX4_shortens 22 = .ok (.invokevirtual 234, 3) := by decide +kernel
theorem dX4_shortens_25 : decode cX4_shortens 25 = .ok (.ifCond .eq 65, 3) := by decide +kernel
theorem dX4_shortens_28 : decode cX4_shortens 28 = .ok (.aload_n 0, 1) := by decide +kernel
theorem dX4_shortens_29 : decode cX4_shortens 29 = .ok (.iload_n 1, 1) := by decide +kernel
theorem dX4_shortens_30 : decode cX4_shortens 30 = .ok (.iload 4, 2) := by decide +kernel
theorem dX4_shortens_32 : decode cX4_shortens 32 = .ok (.iload_n 2, 1) := by decide +kernel
theorem dX4_shortens_33 : decode cX4_shortens 33 = .ok (.invokevirtual 228, 3) := by decide +kernel
theorem dX4_shortens_36 : decode cX4_shortens 36 = .ok (.istore 5, 2) := by decide +kernel
theorem dX4_shortens_38 : decode cX4_shortens 38 = .ok (.aload_n 0, 1) := by decide +kernel
theorem dX4_shortens_39 : decode cX4_shortens 39 = .ok (.getfield 34, 3) := by decide +kernel
theorem dX4_shortens_42 : decode cX4_shortens 42 = .ok (.sipush 1000, 3) := by decide +kernel
theorem dX4_shortens_45 : decode cX4_shortens 45 = .ok (.iload_n 1, 1) := by decide +kernel
theorem dX4_shortens_46 : decode cX4_shortens 46 = .ok (.imul, 1) := by decide +kernel
theorem dX4_shortens_47 : decode cX4_shortens 47 = .ok (.iload 4, 2) := by decide +kernel
theorem dX4_shortens_49 : decode cX4_shortens 49 = .ok (.iadd, 1) := by decide +kernel
theorem dX4_shortens_50 : decode cX4_shortens 50 = .ok (.iconst 1, 1) := by decide +kernel
theorem dX4_shortens_51 : decode cX4_shortens 51 = .ok (.iadd, 1) := by decide +kernel
theorem dX4_shortens_52 : decode cX4_shortens 52 = .ok (.dup2, 1) := by decide +kernel
theorem dX4_shortens_53 : decode cX4_shortens 53 = .ok (.iaload, 1) := by decide +kernel
theorem dX4_shortens_54 : decode cX4_shortens 54 = .ok (.aload_n 0, 1) := by decide +kernel
theorem dX4_shortens_55 : decode cX4_shortens 55 = .ok (.iload_n 1, 1) := by decide +kernel
theorem dX4_shortens_56 : decode cX4_shortens 56 = .ok (.iload 5, 2) := by decide +kernel
theorem dX4_shortens_58 : decode cX4_shortens 58 = .ok (.iload 4, 2) := by decide +kernel
theorem dX4_shortens_60 : decode cX4_shortens 60 = .ok (.invokevirtual 231, 3) := by decide +kernel
theorem dX4_shortens_63 : decode cX4_shortens 63 = .ok (.iadd, 1) := by decide +kernel
theorem dX4_shortens_64 : decode cX4_shortens 64 = .ok (.iastore, 1) := by decide +kernel
theorem dX4_shortens_65 : decode cX4_shortens 65 = .ok (.aload_n 0, 1) := by decide +kernel
theorem dX4_shortens_66 : decode cX4_shortens 66 = .ok (.iload_n 1, 1) := by decide +kernel
theorem dX4_shortens_67 : decode cX4_shortens 67 = .ok (.iload 4, 2) := by decide +kernel
theorem dX4_shortens_69 : decode cX4_shortens 69 = .ok (.iconst 1, 1) := by decide +kernel
theorem dX4_shortens_70 : decode cX4_shortens 70 = .ok (.iadd, 1) := by decide +kernel
theorem dX4_shortens_71 : decode cX4_shortens 71 = .ok (.iload 5, 2) := by decide +kernel
theorem dX4_shortens_73 : decode cX4_shortens 73 = .ok (.iload 4, 2) := by decide +kernel
theorem dX4_shortens_75 : decode cX4_shortens 75 = .ok (.isub, 1) := by decide +kernel
theorem dX4_shortens_76 : decode cX4_shortens 76 = .ok (.iconst 1, 1) := by decide +kernel
theorem dX4_shortens_77 : decode cX4_shortens 77 = .ok (.isub, 1) := by decide +kernel
theorem dX4_shortens_78 : decode cX4_shortens 78 = .ok (.invokevirtual 211, 3) := by decide +kernel
theorem dX4_shortens_81 : decode cX4_shortens 81 = .ok (.iload 5, 2) := by decide +kernel
theorem dX4_shortens_83 : decode cX4_shortens 83 = .ok (.iconst 1, 1) := by decide +kernel
theorem dX4_shortens_84 : decode cX4_shortens 84 = .ok (.isub, 1) := by decide +kernel
theorem dX4_shortens_85 : decode cX4_shortens 85 = .ok (.istore 4, 2) := by decide +kernel
theorem dX4_shortens_87 : decode cX4_shortens 87 = .ok (.goto (-75), 3) := by decide +kernel
theorem dX4_shortens_90 : decode cX4_shortens 90 = .ok (.iinc 4 (-1), 3) := by decide +kernel
theorem dX4_shortens_93 : decode cX4_shortens 93 = .ok (.goto (-81), 3) := by decide +kernel
theorem dX4_shortens_96 : decode cX4_shortens 96 = .ok (.iload_n 3, 1) := by decide +kernel
theorem dX4_shortens_97 : decode cX4_shortens 97 = .ok (.aload_n 0, 1) := by decide +kernel
theorem dX4_shortens_98 : decode cX4_shortens 98 = .ok (.getfield 40, 3) := by decide +kernel
theorem dX4_shortens_101 : decode cX4_shortens 101 = .ok (.iload_n 1, 1) := by decide +kernel
theorem dX4_shortens_102 : decode cX4_shortens 102 = .ok (.iaload, 1) := by decide +kernel
theorem dX4_shortens_103 : decode cX4_shortens 103 = .ok (.isub, 1) := by decide +kernel
theorem dX4_shortens_104 : decode cX4_shortens 104 = .ok (.ireturn, 1) := by decide +kernel
theorem dX4_compresses_0 : decode cX4_compresses 0 = .ok (.aload_n 0, 1) := by decide +kernel
theorem dX4_compresses_1 : decode cX4_compresses 1 = .ok (.getfield 52, 3) := by decide +kernel
theorem dX4_compresses_4 : decode cX4_compresses 4 = .ok (.iload_n 1, 1) := by decide +kernel
theorem dX4_compresses_5 : decode cX4_compresses 5 = .ok (.dup2, 1) := by decide +kernel
theorem dX4_compresses_6 : decode cX4_compresses 6 = .ok (.iaload, 1) := by decide +kernel
theorem dX4_compresses_7 : decode cX4_compresses 7 = .ok (.iconst 1, 1) := by decide +kernel
theorem dX4_compresses_8 : decode cX4_compresses 8 = .ok (.iadd, 1) := by decide +kernel
theorem dX4_compresses_9 : decode cX4_compresses 9 = .ok (.iastore, 1) := by decide +kernel
theorem dX4_compresses_10 : decode cX4_compresses 10 = .ok (.aload_n 0, 1) := by decide +kernel
theorem dX4_compresses_11 : decode cX4_compresses 11 = .ok (.getfield 49, 3) := by decide +kernel
theorem dX4_compresses_14 : decode cX4_compresses 14 = .ok (.iload_n 1, 1) := by decide +kernel
theorem dX4_compresses_15 : decode cX4_compresses 15 = .ok (.iconst 0, 1) := by decide +kernel
theorem dX4_compresses_16 : decode cX4_compresses 16 = .ok (.iastore, 1) := by decide +kernel
theorem dX4_compresses_17 : decode cX4_compresses 17 = .ok (.aload_n 0, 1) := by decide +kernel
theorem dX4_compresses_18 : decode cX4_compresses 18 = .ok (.iload_n 1, 1) := by decide +kernel
theorem dX4_compresses_19 : decode cX4_compresses 19 = .ok (.aload_n 0, 1) := by decide +kernel
theorem dX4_compresses_20 : decode cX4_compresses 20 = .ok (.iload_n 1, 1) := by decide +kernel
theorem dX4_compresses_21 : decode cX4_compresses 21 = .ok (.invokevirtual 237, 3) := by decide +kernel
theorem dX4_compresses_24 : decode cX4_compresses 24 = .ok (.invokevirtual 240, 3) := by decide +kernel
theorem dX4_compresses_27 : decode cX4_compresses 27 = .ok (.ireturn, 1) := by decide +kernel
theorem dX4_copiesRow_0 : decode cX4_copiesRow 0 = .ok (.iconst 0, 1) := by decide +kernel
theorem dX4_copiesRow_1 : decode cX4_copiesRow 1 = .ok (.istore_n 3, 1) := by decide +kernel
theorem dX4_copiesRow_2 : decode cX4_copiesRow 2 = .ok (.iload_n 3, 1) := by decide +kernel
theorem dX4_copiesRow_3 : decode cX4_copiesRow 3 = .ok (.aload_n 0, 1) := by decide +kernel
theorem dX4_copiesRow_4 : decode cX4_copiesRow 4 = .ok (.getfield 40, 3) := by decide +kernel
theorem dX4_copiesRow_7 : decode cX4_copiesRow 7 = .ok (.iload_n 1, 1) := by decide +kernel
theorem dX4_copiesRow_8 : decode cX4_copiesRow 8 = .ok (.iaload, 1) := by decide +kernel
theorem dX4_copiesRow_9 : decode cX4_copiesRow 9 = .ok (.if_icmp .ge 51, 3) := by decide +kernel
theorem dX4_copiesRow_12 : decode cX4_copiesRow 12 = .ok (.aload_n 0, 1) := by decide +kernel
theorem dX4_copiesRow_13 : decode cX4_copiesRow 13 = .ok (.iload_n 2, 1) := by decide +kernel
theorem dX4_copiesRow_14 : decode cX4_copiesRow 14 = .ok (.iload_n 3, 1) := by decide +kernel
theorem dX4_copiesRow_15 : decode cX4_copiesRow 15 = .ok (.aload_n 0, 1) := by decide +kernel
theorem dX4_copiesRow_16 : decode cX4_copiesRow 16 = .ok (.getfield 31, 3) := by decide +kernel
theorem dX4_copiesRow_19 : decode cX4_copiesRow 19 = .ok (.sipush 1000, 3) := by decide +kernel
theorem dX4_copiesRow_22 : decode cX4_copiesRow 22 = .ok (.iload_n 1, 1) := by decide +kernel
theorem dX4_copiesRow_23 : decode cX4_copiesRow 23 = .ok (.imul, 1) := by decide +kernel
theorem dX4_copiesRow_24 : decode cX4_copiesRow 24 = .ok (.iload_n 3, 1) := by decide +kernel
theorem dX4_copiesRow_25 : decode cX4_copiesRow 25 = .ok (.iadd, 1) := by decide +kernel
theorem dX4_copiesRow_26 : decode cX4_copiesRow 26 = .ok (.iaload, 1) := by decide +kernel
theorem dX4_copiesRow_27 : decode cX4_copiesRow 27 = .ok (.aload_n 0, 1) := by decide +kernel
theorem dX4_copiesRow_28 : decode cX4_copiesRow 28 = .ok (.getfield 34, 3) := by decide +kernel
theorem dX4_copiesRow_31 : decode cX4_copiesRow 31 = .ok (.sipush 1000, 3) := by decide +kernel
theorem dX4_copiesRow_34 : decode cX4_copiesRow 34 = .ok (.iload_n 1, 1) := by decide +kernel
theorem dX4_copiesRow_35 : decode cX4_copiesRow 35 = .ok (.imul, 1) := by decide +kernel
theorem dX4_copiesRow_36 : decode cX4_copiesRow 36 = .ok (.iload_n 3, 1) := by decide +kernel
theorem dX4_copiesRow_37 : decode cX4_copiesRow 37 = .ok (.iadd, 1) := by decide +kernel
theorem dX4_copiesRow_38 : decode cX4_copiesRow 38 = .ok (.iaload, 1) := by decide +kernel
theorem dX4_copiesRow_39 : decode cX4_copiesRow 39 = .ok (.aload_n 0, 1) := by decide +kernel
theorem dX4_copiesRow_40 : decode cX4_copiesRow 40 = .ok (.getfield 37, 3) := by decide +kernel
theorem dX4_copiesRow_43 : decode cX4_copiesRow 43 = .ok (.sipush 1000, 3) := by decide +kernel
theorem dX4_copiesRow_46 : decode cX4_copiesRow 46 = .ok (.iload_n 1, 1) := by decide +kernel
theorem dX4_copiesRow_47 : decode cX4_copiesRow 47 = .ok (.imul, 1) := by decide +kernel
theorem dX4_copiesRow_48 : decode cX4_copiesRow 48 = .ok (.iload_n 3, 1) := by decide +kernel
theorem dX4_copiesRow_49 : decode cX4_copiesRow 49 = .ok (.iadd, 1) := by decide +kernel
theorem dX4_copiesRow_50 : decode cX4_copiesRow 50 = .ok (.iaload, 1) := by decide +kernel
theorem dX4_copiesRow_51 : decode cX4_copiesRow 51 = .ok (.invokevirtual 214, 3) := by decide +kernel
theorem dX4_copiesRow_54 : decode cX4_copiesRow 54 = .ok (.iinc 3 1, 3) := by decide +kernel
theorem dX4_copiesRow_57 : decode cX4_copiesRow 57 = .ok (.goto (-55), 3) := by decide +kernel
theorem dX4_copiesRow_60 : decode cX4_copiesRow 60 = .ok (.aload_n 0, 1) := by decide +kernel
theorem dX4_copiesRow_61 : decode cX4_copiesRow 61 = .ok (.getfield 40, 3) := by decide +kernel
theorem dX4_copiesRow_64 : decode cX4_copiesRow 64 = .ok (.iload_n 2, 1) := by decide +kernel
theorem dX4_copiesRow_65 : decode cX4_copiesRow 65 = .ok (.aload_n 0, 1) := by decide +kernel
theorem dX4_copiesRow_66 : decode cX4_copiesRow 66 = .ok (.getfield 40, 3) := by decide +kernel
theorem dX4_copiesRow_69 : decode cX4_copiesRow 69 = .ok (.iload_n 1, 1) := by decide +kernel
theorem dX4_copiesRow_70 : decode cX4_copiesRow 70 = .ok (.iaload, 1) := by decide +kernel
theorem dX4_copiesRow_71 : decode cX4_copiesRow 71 = .ok (.iastore, 1) := by decide +kernel
theorem dX4_copiesRow_72 : decode cX4_copiesRow 72 = .ok (.aload_n 0, 1) := by decide +kernel
theorem dX4_copiesRow_73 : decode cX4_copiesRow 73 = .ok (.getfield 43, 3) := by decide +kernel
theorem dX4_copiesRow_76 : decode cX4_copiesRow 76 = .ok (.iload_n 2, 1) := by decide +kernel
theorem dX4_copiesRow_77 : decode cX4_copiesRow 77 = .ok (.aload_n 0, 1) := by decide +kernel
theorem dX4_copiesRow_78 : decode cX4_copiesRow 78 = .ok (.getfield 43, 3) := by decide +kernel
theorem dX4_copiesRow_81 : decode cX4_copiesRow 81 = .ok (.iload_n 1, 1) := by decide +kernel
theorem dX4_copiesRow_82 : decode cX4_copiesRow 82 = .ok (.iaload, 1) := by decide +kernel
theorem dX4_copiesRow_83 : decode cX4_copiesRow 83 = .ok (.iastore, 1) := by decide +kernel
theorem dX4_copiesRow_84 : decode cX4_copiesRow 84 = .ok (.return_, 1) := by decide +kernel
theorem dX4_joins_0 : decode cX4_joins 0 = .ok (.iconst 0, 1) := by decide +kernel
theorem dX4_joins_1 : decode cX4_joins 1 = .ok (.istore 4, 2) := by decide +kernel
theorem dX4_joins_3 : decode cX4_joins 3 = .ok (.iconst 0, 1) := by decide +kernel
theorem dX4_joins_4 : decode cX4_joins 4 = .ok (.istore 5, 2) := by decide +kernel
theorem dX4_joins_6 : decode cX4_joins 6 = .ok (.iconst 0, 1) := by decide +kernel
theorem dX4_joins_7 : decode cX4_joins 7 = .ok (.istore 6, 2) := by decide +kernel
theorem dX4_joins_9 : decode cX4_joins 9 = .ok (.iload 6, 2) := by decide +kernel
theorem dX4_joins_11 : decode cX4_joins 11 = .ok (.aload_n 0, 1) := by decide +kernel
theorem dX4_joins_12 : decode cX4_joins 12 = .ok (.getfield 40, 3) := by decide +kernel
theorem dX4_joins_15 : decode cX4_joins 15 = .ok (.iload_n 1, 1) := by decide +kernel
theorem dX4_joins_16 : decode cX4_joins 16 = .ok (.iaload, 1) := by decide +kernel
theorem dX4_joins_17 : decode cX4_joins 17 = .ok (.aload_n 0, 1) := by decide +kernel
theorem dX4_joins_18 : decode cX4_joins 18 = .ok (.getfield 40, 3) := by decide +kernel
theorem dX4_joins_21 : decode cX4_joins 21 = .ok (.iload_n 2, 1) := by decide +kernel
theorem dX4_joins_22 : decode cX4_joins 22 = .ok (.iaload, 1) := by decide +kernel
theorem dX4_joins_23 : decode cX4_joins 23 = .ok (.iadd, 1) := by decide +kernel
theorem dX4_joins_24 : decode cX4_joins 24 = .ok (.if_icmp .ge 246, 3) := by decide +kernel
theorem dX4_joins_27 : decode cX4_joins 27 = .ok (.iload 5, 2) := by decide +kernel
theorem dX4_joins_29 : decode cX4_joins 29 = .ok (.aload_n 0, 1) := by decide +kernel
theorem dX4_joins_30 : decode cX4_joins 30 = .ok (.getfield 40, 3) := by decide +kernel
theorem dX4_joins_33 : decode cX4_joins 33 = .ok (.iload_n 2, 1) := by decide +kernel
theorem dX4_joins_34 : decode cX4_joins 34 = .ok (.iaload, 1) := by decide +kernel
theorem dX4_joins_35 : decode cX4_joins 35 = .ok (.if_icmp .eq 43, 3) := by decide +kernel
theorem dX4_joins_38 : decode cX4_joins 38 = .ok (.iload 4, 2) := by decide +kernel
theorem dX4_joins_40 : decode cX4_joins 40 = .ok (.aload_n 0, 1) := by decide +kernel
theorem dX4_joins_41 : decode cX4_joins 41 = .ok (.getfield 40, 3) := by decide +kernel
theorem dX4_joins_44 : decode cX4_joins 44 = .ok (.iload_n 1, 1) := by decide +kernel
theorem dX4_joins_45 : decode cX4_joins 45 = .ok (.iaload, 1) := by decide +kernel
theorem dX4_joins_46 : decode cX4_joins 46 = .ok (.if_icmp .ge 36, 3) := by decide +kernel
theorem dX4_joins_49 : decode cX4_joins 49 = .ok (.aload_n 0, 1) := by decide +kernel
theorem dX4_joins_50 : decode cX4_joins 50 = .ok (.getfield 31, 3) := by decide +kernel
theorem dX4_joins_53 : decode cX4_joins 53 = .ok (.sipush 1000, 3) := by decide +kernel
theorem dX4_joins_56 : decode cX4_joins 56 = .ok (.iload_n 1, 1) := by decide +kernel
theorem dX4_joins_57 : decode cX4_joins 57 = .ok (.imul, 1) := by decide +kernel
theorem dX4_joins_58 : decode cX4_joins 58 = .ok (.iload 4, 2) := by decide +kernel
theorem dX4_joins_60 : decode cX4_joins 60 = .ok (.iadd, 1) := by decide +kernel
theorem dX4_joins_61 : decode cX4_joins 61 = .ok (.iaload, 1) := by decide +kernel
theorem dX4_joins_62 : decode cX4_joins 62 = .ok (.aload_n 0, 1) := by decide +kernel
theorem dX4_joins_63 : decode cX4_joins 63 = .ok (.getfield 31, 3) := by decide +kernel
theorem dX4_joins_66 : decode cX4_joins 66 = .ok (.sipush 1000, 3) := by decide +kernel
theorem dX4_joins_69 : decode cX4_joins 69 = .ok (.iload_n 2, 1) := by decide +kernel
theorem dX4_joins_70 : decode cX4_joins 70 = .ok (.imul, 1) := by decide +kernel
theorem dX4_joins_71 : decode cX4_joins 71 = .ok (.iload 5, 2) := by decide +kernel
theorem dX4_joins_73 : decode cX4_joins 73 = .ok (.iadd, 1) := by decide +kernel
theorem dX4_joins_74 : decode cX4_joins 74 = .ok (.iaload, 1) := by decide +kernel
theorem dX4_joins_75 : decode cX4_joins 75 = .ok (.if_icmp .gt 7, 3) := by decide +kernel
theorem dX4_joins_78 : decode cX4_joins 78 = .ok (.iconst 1, 1) := by decide +kernel
theorem dX4_joins_79 : decode cX4_joins 79 = .ok (.goto 4, 3) := by decide +kernel
theorem dX4_joins_82 : decode cX4_joins 82 = .ok (.iconst 0, 1) := by decide +kernel
theorem dX4_joins_83 : decode cX4_joins 83 = .ok (.istore 7, 2) := by decide +kernel
theorem dX4_joins_85 : decode cX4_joins 85 = .ok (.iload 7, 2) := by decide +kernel
theorem dX4_joins_87 : decode cX4_joins 87 = .ok (.ifCond .eq 14, 3) := by decide +kernel
theorem dX4_joins_90 : decode cX4_joins 90 = .ok (.sipush 1000, 3) := by decide +kernel
theorem dX4_joins_93 : decode cX4_joins 93 = .ok (.iload_n 1, 1) := by decide +kernel
theorem dX4_joins_94 : decode cX4_joins 94 = .ok (.imul, 1) := by decide +kernel
theorem dX4_joins_95 : decode cX4_joins 95 = .ok (.iload 4, 2) := by decide +kernel
theorem dX4_joins_97 : decode cX4_joins 97 = .ok (.iadd, 1) := by decide +kernel
theorem dX4_joins_98 : decode cX4_joins 98 = .ok (.goto 11, 3) := by decide +kernel
theorem dX4_joins_101 : decode cX4_joins 101 = .ok (.sipush 1000, 3) := by decide +kernel
theorem dX4_joins_104 : decode cX4_joins 104 = .ok (.iload_n 2, 1) := by decide +kernel
theorem dX4_joins_105 : decode cX4_joins 105 = .ok (.imul, 1) := by decide +kernel
theorem dX4_joins_106 : decode cX4_joins 106 = .ok (.iload 5, 2) := by decide +kernel
theorem dX4_joins_108 : decode cX4_joins 108 = .ok (.iadd, 1) := by decide +kernel
theorem dX4_joins_109 : decode cX4_joins 109 = .ok (.istore 8, 2) := by decide +kernel
theorem dX4_joins_111 : decode cX4_joins 111 = .ok (.iload 7, 2) := by decide +kernel
theorem dX4_joins_113 : decode cX4_joins 113 = .ok (.ifCond .eq 14, 3) := by decide +kernel
theorem dX4_joins_116 : decode cX4_joins 116 = .ok (.sipush 1000, 3) := by decide +kernel
theorem dX4_joins_119 : decode cX4_joins 119 = .ok (.iload_n 2, 1) := by decide +kernel
theorem dX4_joins_120 : decode cX4_joins 120 = .ok (.imul, 1) := by decide +kernel
theorem dX4_joins_121 : decode cX4_joins 121 = .ok (.iload 5, 2) := by decide +kernel
theorem dX4_joins_123 : decode cX4_joins 123 = .ok (.iadd, 1) := by decide +kernel
theorem dX4_joins_124 : decode cX4_joins 124 = .ok (.goto 11, 3) := by decide +kernel
theorem dX4_joins_127 : decode cX4_joins 127 = .ok (.sipush 1000, 3) := by decide +kernel
theorem dX4_joins_130 : decode cX4_joins 130 = .ok (.iload_n 1, 1) := by decide +kernel
theorem dX4_joins_131 : decode cX4_joins 131 = .ok (.imul, 1) := by decide +kernel
theorem dX4_joins_132 : decode cX4_joins 132 = .ok (.iload 4, 2) := by decide +kernel
theorem dX4_joins_134 : decode cX4_joins 134 = .ok (.iadd, 1) := by decide +kernel
theorem dX4_joins_135 : decode cX4_joins 135 = .ok (.istore 9, 2) := by decide +kernel
theorem dX4_joins_137 : decode cX4_joins 137 = .ok (.iload 7, 2) := by decide +kernel
theorem dX4_joins_139 : decode cX4_joins 139 = .ok (.ifCond .eq 22, 3) := by decide +kernel
theorem dX4_joins_142 : decode cX4_joins 142 = .ok (.iload 5, 2) := by decide +kernel
theorem dX4_joins_144 : decode cX4_joins 144 = .ok (.aload_n 0, 1) := by decide +kernel
theorem dX4_joins_145 : decode cX4_joins 145 = .ok (.getfield 40, 3) := by decide +kernel
theorem dX4_joins_148 : decode cX4_joins 148 = .ok (.iload_n 2, 1) := by decide +kernel
theorem dX4_joins_149 : decode cX4_joins 149 = .ok (.iaload, 1) := by decide +kernel
theorem dX4_joins_150 : decode cX4_joins 150 = .ok (.if_icmp .ge 7, 3) := by decide +kernel
theorem dX4_joins_153 : decode cX4_joins 153 = .ok (.iconst 1, 1) := by decide +kernel
theorem dX4_joins_154 : decode cX4_joins 154 = .ok (.goto 23, 3) := by decide +kernel
theorem dX4_joins_157 : decode cX4_joins 157 = .ok (.iconst 0, 1) := by decide +kernel
theorem dX4_joins_158 : decode cX4_joins 158 = .ok (.goto 19, 3) := by decide +kernel
theorem dX4_joins_161 : decode cX4_joins 161 = .ok (.iload 4, 2) := by decide +kernel
theorem dX4_joins_163 : decode cX4_joins 163 = .ok (.aload_n 0, 1) := by decide +kernel
theorem dX4_joins_164 : decode cX4_joins 164 = .ok (.getfield 40, 3) := by decide +kernel
theorem dX4_joins_167 : decode cX4_joins 167 = .ok (.iload_n 1, 1) := by decide +kernel
theorem dX4_joins_168 : decode cX4_joins 168 = .ok (.iaload, 1) := by decide +kernel
theorem dX4_joins_169 : decode cX4_joins 169 = .ok (.if_icmp .ge 7, 3) := by decide +kernel
theorem dX4_joins_172 : decode cX4_joins 172 = .ok (.iconst 1, 1) := by decide +kernel
theorem dX4_joins_173 : decode cX4_joins 173 = .ok (.goto 4, 3) := by decide +kernel
theorem dX4_joins_176 : decode cX4_joins 176 = .ok (.iconst 0, 1) := by decide +kernel
theorem dX4_joins_177 : decode cX4_joins 177 = .ok (.istore 10, 2) := by decide +kernel
theorem dX4_joins_179 : decode cX4_joins 179 = .ok (.aload_n 0, 1) := by decide +kernel
theorem dX4_joins_180 : decode cX4_joins 180 = .ok (.iload_n 3, 1) := by decide +kernel
theorem dX4_joins_181 : decode cX4_joins 181 = .ok (.iload 6, 2) := by decide +kernel
theorem dX4_joins_183 : decode cX4_joins 183 = .ok (.aload_n 0, 1) := by decide +kernel
theorem dX4_joins_184 : decode cX4_joins 184 = .ok (.getfield 31, 3) := by decide +kernel
theorem dX4_joins_187 : decode cX4_joins 187 = .ok (.iload 8, 2) := by decide +kernel
theorem dX4_joins_189 : decode cX4_joins 189 = .ok (.iaload, 1) := by decide +kernel
theorem dX4_joins_190 : decode cX4_joins 190 = .ok (.aload_n 0, 1) := by decide +kernel
theorem dX4_joins_191 : decode cX4_joins 191 = .ok (.getfield 34, 3) := by decide +kernel
theorem dX4_joins_194 : decode cX4_joins 194 = .ok (.iload 8, 2) := by decide +kernel
theorem dX4_joins_196 : decode cX4_joins 196 = .ok (.iaload, 1) := by decide +kernel
theorem dX4_joins_197 : decode cX4_joins 197 = .ok (.aload_n 0, 1) := by decide +kernel
theorem dX4_joins_198 : decode cX4_joins 198 = .ok (.getfield 37, 3) := by decide +kernel
theorem dX4_joins_201 : decode cX4_joins 201 = .ok (.iload 8, 2) := by decide +kernel
theorem dX4_joins_203 : decode cX4_joins 203 = .ok (.iaload, 1) := by decide +kernel
theorem dX4_joins_204 : decode cX4_joins 204 = .ok (.iload 10, 2) := by decide +kernel
theorem dX4_joins_206 : decode cX4_joins 206 = .ok (.ifCond .eq 23, 3) := by decide +kernel
theorem dX4_joins_209 : decode cX4_joins 209 = .ok (.aload_n 0, 1) := by decide +kernel
theorem dX4_joins_210 : decode cX4_joins 210 = .ok (.getfield 34, 3) := by decide +kernel
theorem dX4_joins_213 : decode cX4_joins 213 = .ok (.iload 9, 2) := by decide +kernel
theorem dX4_joins_215 : decode cX4_joins 215 = .ok (.iaload, 1) := by decide +kernel
theorem dX4_joins_216 : decode cX4_joins 216 = .ok (.aload_n 0, 1) := by decide +kernel
theorem dX4_joins_217 : decode cX4_joins 217 = .ok (.getfield 37, 3) := by decide +kernel
theorem dX4_joins_220 : decode cX4_joins 220 = .ok (.iload 9, 2) := by decide +kernel
theorem dX4_joins_222 : decode cX4_joins 222 = .ok (.iaload, 1) := by decide +kernel
theorem dX4_joins_223 : decode cX4_joins 223 = .ok (.iadd, 1) := by decide +kernel
theorem dX4_joins_224 : decode cX4_joins 224 = .ok (.iconst 1, 1) := by decide +kernel
theorem dX4_joins_225 : decode cX4_joins 225 = .ok (.isub, 1) := by decide +kernel
theorem dX4_joins_226 : decode cX4_joins 226 = .ok (.goto 4, 3) := by decide +kernel
theorem dX4_joins_229 : decode cX4_joins 229 = .ok (.iconst 0, 1) := by decide +kernel
theorem dX4_joins_230 : decode cX4_joins 230 = .ok (.iadd, 1) := by decide +kernel
theorem dX4_joins_231 : decode cX4_joins 231 = .ok (.invokevirtual 214, 3) := by decide +kernel
theorem dX4_joins_234 : decode cX4_joins 234 = .ok (.iload 4, 2) := by decide +kernel
theorem dX4_joins_236 : decode cX4_joins 236 = .ok (.iload 7, 2) := by decide +kernel
theorem dX4_joins_238 : decode cX4_joins 238 = .ok (.ifCond .eq 7, 3) := by decide +kernel
theorem dX4_joins_241 : decode cX4_joins 241 = .ok (.iconst 1, 1) := by decide +kernel
theorem dX4_joins_242 : decode cX4_joins 242 = .ok (.goto 4, 3) := by decide +kernel
theorem dX4_joins_245 : decode cX4_joins 245 = .ok (.iconst 0, 1) := by decide +kernel
theorem dX4_joins_246 : decode cX4_joins 246 = .ok (.iadd, 1) := by decide +kernel
theorem dX4_joins_247 : decode cX4_joins 247 = .ok (.istore 4, 2) := by decide +kernel
theorem dX4_joins_249 : decode cX4_joins 249 = .ok (.iload 5, 2) := by decide +kernel
theorem dX4_joins_251 : decode cX4_joins 251 = .ok (.iload 7, 2) := by decide +kernel
theorem dX4_joins_253 : decode cX4_joins 253 = .ok (.ifCond .eq 7, 3) := by decide +kernel
theorem dX4_joins_256 : decode cX4_joins 256 = .ok (.iconst 0, 1) := by decide +kernel
theorem dX4_joins_257 : decode cX4_joins 257 = .ok (.goto 4, 3) := by decide +kernel
theorem dX4_joins_260 : decode cX4_joins 260 = .ok (.iconst 1, 1) := by decide +kernel
theorem dX4_joins_261 : decode cX4_joins 261 = .ok (.iadd, 1) := by decide +kernel
theorem dX4_joins_262 : decode cX4_joins 262 = .ok (.istore 5, 2) := by decide +kernel
theorem dX4_joins_264 : decode cX4_joins 264 = .ok (.iinc 6 1, 3) := by decide +kernel
theorem dX4_joins_267 : decode cX4_joins 267 = .ok (.goto (-258), 3) := by decide +kernel
theorem dX4_joins_270 : decode cX4_joins 270 = .ok (.aload_n 0, 1) := by decide +kernel
theorem dX4_joins_271 : decode cX4_joins 271 = .ok (.getfield 40, 3) := by decide +kernel
theorem dX4_joins_274 : decode cX4_joins 274 = .ok (.iload_n 3, 1) := by decide +kernel
theorem dX4_joins_275 : decode cX4_joins 275 = .ok (.aload_n 0, 1) := by decide +kernel
theorem dX4_joins_276 : decode cX4_joins 276 = .ok (.getfield 40, 3) := by decide +kernel
theorem dX4_joins_279 : decode cX4_joins 279 = .ok (.iload_n 1, 1) := by decide +kernel
theorem dX4_joins_280 : decode cX4_joins 280 = .ok (.iaload, 1) := by decide +kernel
theorem dX4_joins_281 : decode cX4_joins 281 = .ok (.aload_n 0, 1) := by decide +kernel
theorem dX4_joins_282 : decode cX4_joins 282 = .ok (.getfield 40, 3) := by decide +kernel
theorem dX4_joins_285 : decode cX4_joins 285 = .ok (.iload_n 2, 1) := by decide +kernel
theorem dX4_joins_286 : decode cX4_joins 286 = .ok (.iaload, 1) := by decide +kernel
theorem dX4_joins_287 : decode cX4_joins 287 = .ok (.iadd, 1) := by decide +kernel
theorem dX4_joins_288 : decode cX4_joins 288 = .ok (.iastore, 1) := by decide +kernel
theorem dX4_joins_289 : decode cX4_joins 289 = .ok (.aload_n 0, 1) := by decide +kernel
theorem dX4_joins_290 : decode cX4_joins 290 = .ok (.getfield 43, 3) := by decide +kernel
theorem dX4_joins_293 : decode cX4_joins 293 = .ok (.iload_n 3, 1) := by decide +kernel
theorem dX4_joins_294 : decode cX4_joins 294 = .ok (.aload_n 0, 1) := by decide +kernel
theorem dX4_joins_295 : decode cX4_joins 295 = .ok (.getfield 43, 3) := by decide +kernel
theorem dX4_joins_298 : decode cX4_joins 298 = .ok (.iload_n 1, 1) := by decide +kernel
theorem dX4_joins_299 : decode cX4_joins 299 = .ok (.iaload, 1) := by decide +kernel
theorem dX4_joins_300 : decode cX4_joins 300 = .ok (.aload_n 0, 1) := by decide +kernel
theorem dX4_joins_301 : decode cX4_joins 301 = .ok (.getfield 43, 3) := by decide +kernel
theorem dX4_joins_304 : decode cX4_joins 304 = .ok (.iload_n 2, 1) := by decide +kernel
theorem dX4_joins_305 : decode cX4_joins 305 = .ok (.iaload, 1) := by decide +kernel
theorem dX4_joins_306 : decode cX4_joins 306 = .ok (.iadd, 1) := by decide +kernel
theorem dX4_joins_307 : decode cX4_joins 307 = .ok (.iastore, 1) := by decide +kernel
theorem dX4_joins_308 : decode cX4_joins 308 = .ok (.aload_n 0, 1) := by decide +kernel
theorem dX4_joins_309 : decode cX4_joins 309 = .ok (.iload_n 3, 1) := by decide +kernel
theorem dX4_joins_310 : decode cX4_joins 310 = .ok (.aload_n 0, 1) := by decide +kernel
theorem dX4_joins_311 : decode cX4_joins 311 = .ok (.iload_n 3, 1) := by decide +kernel
theorem dX4_joins_312 : decode cX4_joins 312 = .ok (.invokevirtual 237, 3) := by decide +kernel
theorem dX4_joins_315 : decode cX4_joins 315 = .ok (.invokevirtual 240, 3) := by decide +kernel
theorem dX4_joins_318 : decode cX4_joins 318 = .ok (.istore 6, 2) := by decide +kernel
theorem dX4_joins_320 : decode cX4_joins 320 = .ok (.return_, 1) := by decide +kernel
theorem dX4_isStream_0 : decode cX4_isStream 0 = .ok (.aload_n 0, 1) := by decide +kernel
theorem dX4_isStream_1 : decode cX4_isStream 1 = .ok (.getfield 185, 3) := by decide +kernel
theorem dX4_isStream_4 : decode cX4_isStream 4 = .ok (.ifCond .le 21, 3) := by decide +kernel
theorem dX4_isStream_7 : decode cX4_isStream 7 = .ok (.iload_n 1, 1) := by decide +kernel
theorem dX4_isStream_8 : decode cX4_isStream 8 = .ok (.iconst 0, 1) := by decide +kernel
theorem dX4_isStream_9 : decode cX4_isStream 9 = .ok (.aload_n 0, 1) := by decide +kernel
theorem dX4_isStream_10 : decode cX4_isStream 10 = .ok (.getfield 187, 3) := by decide +kernel
theorem dX4_isStream_13 : decode cX4_isStream 13 = .ok (.iconst 1, 1) := by decide +kernel
theorem dX4_isStream_14 : decode cX4_isStream 14 = .ok (.isub, 1) := by decide +kernel
theorem dX4_isStream_15 : decode cX4_isStream 15 = .ok (.invokestatic 86, 3) := by decide +kernel
theorem dX4_isStream_18 : decode cX4_isStream 18 = .ok (.ifCond .eq 7, 3) := by decide +kernel
theorem dX4_isStream_21 : decode cX4_isStream 21 = .ok (.iconst 1, 1) := by decide +kernel
theorem dX4_isStream_22 : decode cX4_isStream 22 = .ok (.goto 4, 3) := by decide +kernel
theorem dX4_isStream_25 : decode cX4_isStream 25 = .ok (.iconst 0, 1) := by decide +kernel
theorem dX4_isStream_26 : decode cX4_isStream 26 = .ok (.ireturn, 1) := by decide +kernel
theorem dX4_sumOf_0 : decode cX4_sumOf 0 = .ok (.iconst 0, 1) := by decide +kernel
theorem dX4_sumOf_1 : decode cX4_sumOf 1 = .ok (.istore_n 2, 1) := by decide +kernel
theorem dX4_sumOf_2 : decode cX4_sumOf 2 = .ok (.iconst 0, 1) := by decide +kernel
theorem dX4_sumOf_3 : decode cX4_sumOf 3 = .ok (.istore_n 3, 1) := by decide +kernel
theorem dX4_sumOf_4 : decode cX4_sumOf 4 = .ok (.iload_n 3, 1) := by decide +kernel
theorem dX4_sumOf_5 : decode cX4_sumOf 5 = .ok (.aload_n 0, 1) := by decide +kernel
theorem dX4_sumOf_6 : decode cX4_sumOf 6 = .ok (.getfield 187, 3) := by decide +kernel
theorem dX4_sumOf_9 : decode cX4_sumOf 9 = .ok (.if_icmp .ge 15, 3) := by decide +kernel
theorem dX4_sumOf_12 : decode cX4_sumOf 12 = .ok (.iload_n 2, 1) := by decide +kernel
theorem dX4_sumOf_13 : decode cX4_sumOf 13 = .ok (.aload_n 1, 1) := by decide +kernel
theorem dX4_sumOf_14 : decode cX4_sumOf 14 = .ok (.iload_n 3, 1) := by decide +kernel
theorem dX4_sumOf_15 : decode cX4_sumOf 15 = .ok (.iaload, 1) := by decide +kernel
theorem dX4_sumOf_16 : decode cX4_sumOf 16 = .ok (.iadd, 1) := by decide +kernel
theorem dX4_sumOf_17 : decode cX4_sumOf 17 = .ok (.istore_n 2, 1) := by decide +kernel
theorem dX4_sumOf_18 : decode cX4_sumOf 18 = .ok (.iinc 3 1, 3) := by decide +kernel
theorem dX4_sumOf_21 : decode cX4_sumOf 21 = .ok (.goto (-17), 3) := by decide +kernel
theorem dX4_sumOf_24 : decode cX4_sumOf 24 = .ok (.iload_n 2, 1) := by decide +kernel
theorem dX4_sumOf_25 : decode cX4_sumOf 25 = .ok (.ireturn, 1) := by decide +kernel
theorem dX4_about_0 : decode cX4_about 0 = .ok (.aload_n 0, 1) := by decide +kernel
theorem dX4_about_1 : decode cX4_about 1 = .ok (.iconst 0, 1) := by decide +kernel
theorem dX4_about_2 : decode cX4_about 2 = .ok (.putfield 61, 3) := by decide +kernel
theorem dX4_about_5 : decode cX4_about 5 = .ok (.aload_n 0, 1) := by decide +kernel
theorem dX4_about_6 : decode cX4_about 6 = .ok (.getfield 185, 3) := by decide +kernel
theorem dX4_about_9 : decode cX4_about 9 = .ok (.ifCond .ne 9, 3) := by decide +kernel
theorem dX4_about_12 : decode cX4_about 12 = .ok (.aload_n 0, 1) := by decide +kernel
theorem dX4_about_13 : decode cX4_about 13 = .ok (.iconst 1, 1) := by decide +kernel
theorem dX4_about_14 : decode cX4_about 14 = .ok (.invokevirtual 179, 3) := by decide +kernel
theorem dX4_about_17 : decode cX4_about 17 = .ok (.ireturn, 1) := by decide +kernel
theorem dX4_about_18 : decode cX4_about 18 = .ok (.iload_n 1, 1) := by decide +kernel
theorem dX4_about_19 : decode cX4_about 19 = .ok (.tableswitch 103 0 5 #[37, 46, 55, 68, 81, 94], 37) := by decide +kernel
theorem dX4_about_56 : decode cX4_about 56 = .ok (.aload_n 0, 1) := by decide +kernel
theorem dX4_about_57 : decode cX4_about 57 = .ok (.aload_n 0, 1) := by decide +kernel
theorem dX4_about_58 : decode cX4_about 58 = .ok (.getfield 185, 3) := by decide +kernel
theorem dX4_about_61 : decode cX4_about 61 = .ok (.invokevirtual 195, 3) := by decide +kernel
theorem dX4_about_64 : decode cX4_about 64 = .ok (.ireturn, 1) := by decide +kernel
theorem dX4_about_65 : decode cX4_about 65 = .ok (.aload_n 0, 1) := by decide +kernel
theorem dX4_about_66 : decode cX4_about 66 = .ok (.aload_n 0, 1) := by decide +kernel
theorem dX4_about_67 : decode cX4_about 67 = .ok (.getfield 187, 3) := by decide +kernel
theorem dX4_about_70 : decode cX4_about 70 = .ok (.invokevirtual 195, 3) := by decide +kernel
theorem dX4_about_73 : decode cX4_about 73 = .ok (.ireturn, 1) := by decide +kernel
theorem dX4_about_74 : decode cX4_about 74 = .ok (.aload_n 0, 1) := by decide +kernel
theorem dX4_about_75 : decode cX4_about 75 = .ok (.aload_n 0, 1) := by decide +kernel
theorem dX4_about_76 : decode cX4_about 76 = .ok (.aload_n 0, 1) := by decide +kernel
theorem dX4_about_77 : decode cX4_about 77 = .ok (.getfield 43, 3) := by decide +kernel
theorem dX4_about_80 : decode cX4_about 80 = .ok (.invokevirtual 243, 3) := by decide +kernel
theorem dX4_about_83 : decode cX4_about 83 = .ok (.invokevirtual 195, 3) := by decide +kernel
theorem dX4_about_86 : decode cX4_about 86 = .ok (.ireturn, 1) := by decide +kernel
theorem dX4_about_87 : decode cX4_about 87 = .ok (.aload_n 0, 1) := by decide +kernel
theorem dX4_about_88 : decode cX4_about 88 = .ok (.aload_n 0, 1) := by decide +kernel
theorem dX4_about_89 : decode cX4_about 89 = .ok (.aload_n 0, 1) := by decide +kernel
theorem dX4_about_90 : decode cX4_about 90 = .ok (.getfield 40, 3) := by decide +kernel
theorem dX4_about_93 : decode cX4_about 93 = .ok (.invokevirtual 243, 3) := by decide +kernel
theorem dX4_about_96 : decode cX4_about 96 = .ok (.invokevirtual 195, 3) := by decide +kernel
theorem dX4_about_99 : decode cX4_about 99 = .ok (.ireturn, 1) := by decide +kernel
theorem dX4_about_100 : decode cX4_about 100 = .ok (.aload_n 0, 1) := by decide +kernel
theorem dX4_about_101 : decode cX4_about 101 = .ok (.aload_n 0, 1) := by decide +kernel
theorem dX4_about_102 : decode cX4_about 102 = .ok (.aload_n 0, 1) := by decide +kernel
theorem dX4_about_103 : decode cX4_about 103 = .ok (.getfield 52, 3) := by decide +kernel
theorem dX4_about_106 : decode cX4_about 106 = .ok (.invokevirtual 243, 3) := by decide +kernel
theorem dX4_about_109 : decode cX4_about 109 = .ok (.invokevirtual 195, 3) := by decide +kernel
theorem dX4_about_112 : decode cX4_about 112 = .ok (.ireturn, 1) := by decide +kernel
theorem dX4_about_113 : decode cX4_about 113 = .ok (.aload_n 0, 1) := by decide +kernel
theorem dX4_about_114 : decode cX4_about 114 = .ok (.aload_n 0, 1) := by decide +kernel
theorem dX4_about_115 : decode cX4_about 115 = .ok (.getfield 58, 3) := by decide +kernel
theorem dX4_about_118 : decode cX4_about 118 = .ok (.invokevirtual 195, 3) := by decide +kernel
theorem dX4_about_121 : decode cX4_about 121 = .ok (.ireturn, 1) := by decide +kernel
theorem dX4_about_122 : decode cX4_about 122 = .ok (.aload_n 0, 1) := by decide +kernel
theorem dX4_about_123 : decode cX4_about 123 = .ok (.iconst 1, 1) := by decide +kernel
theorem dX4_about_124 : decode cX4_about 124 = .ok (.invokevirtual 179, 3) := by decide +kernel
theorem dX4_about_127 : decode cX4_about 127 = .ok (.ireturn, 1) := by decide +kernel
theorem dX4_widest_0 : decode cX4_widest 0 = .ok (.iconst 0, 1) := by decide +kernel
theorem dX4_widest_1 : decode cX4_widest 1 = .ok (.istore_n 2, 1) := by decide +kernel
theorem dX4_widest_2 : decode cX4_widest 2 = .ok (.iconst 0, 1) := by decide +kernel
theorem dX4_widest_3 : decode cX4_widest 3 = .ok (.istore_n 3, 1) := by decide +kernel
theorem dX4_widest_4 : decode cX4_widest 4 = .ok (.iload_n 3, 1) := by decide +kernel
theorem dX4_widest_5 : decode cX4_widest 5 = .ok (.aload_n 0, 1) := by decide +kernel
theorem dX4_widest_6 : decode cX4_widest 6 = .ok (.getfield 40, 3) := by decide +kernel
theorem dX4_widest_9 : decode cX4_widest 9 = .ok (.iload_n 1, 1) := by decide +kernel
theorem dX4_widest_10 : decode cX4_widest 10 = .ok (.iaload, 1) := by decide +kernel
theorem dX4_widest_11 : decode cX4_widest 11 = .ok (.if_icmp .ge 64, 3) := by decide +kernel
theorem dX4_widest_14 : decode cX4_widest 14 = .ok (.aload_n 0, 1) := by decide +kernel
theorem dX4_widest_15 : decode cX4_widest 15 = .ok (.getfield 34, 3) := by decide +kernel
theorem dX4_widest_18 : decode cX4_widest 18 = .ok (.sipush 1000, 3) := by decide +kernel
theorem dX4_widest_21 : decode cX4_widest 21 = .ok (.iload_n 1, 1) := by decide +kernel
theorem dX4_widest_22 : decode cX4_widest 22 = .ok (.imul, 1) := by decide +kernel
theorem dX4_widest_23 : decode cX4_widest 23 = .ok (.iload_n 3, 1) := by decide +kernel
theorem dX4_widest_24 : decode cX4_widest 24 = .ok (.iadd, 1) := by decide +kernel
theorem dX4_widest_25 : decode cX4_widest 25 = .ok (.iaload, 1) := by decide +kernel
theorem dX4_widest_26 : decode cX4_widest 26 = .ok (.aload_n 0, 1) := by decide +kernel
theorem dX4_widest_27 : decode cX4_widest 27 = .ok (.getfield 37, 3) := by decide +kernel
theorem dX4_widest_30 : decode cX4_widest 30 = .ok (.sipush 1000, 3) := by decide +kernel
theorem dX4_widest_33 : decode cX4_widest 33 = .ok (.iload_n 1, 1) := by decide +kernel
theorem dX4_widest_34 : decode cX4_widest 34 = .ok (.imul, 1) := by decide +kernel
theorem dX4_widest_35 : decode cX4_widest 35 = .ok (.iload_n 3, 1) := by decide +kernel
theorem dX4_widest_36 : decode cX4_widest 36 = .ok (.iadd, 1) := by decide +kernel
theorem dX4_widest_37 : decode cX4_widest 37 = .ok (.iaload, 1) := by decide +kernel
theorem dX4_widest_38 : decode cX4_widest 38 = .ok (.iadd, 1) := by decide +kernel
theorem dX4_widest_39 : decode cX4_widest 39 = .ok (.iload_n 2, 1) := by decide +kernel
theorem dX4_widest_40 : decode cX4_widest 40 = .ok (.if_icmp .le 29, 3) := by decide +kernel
theorem dX4_widest_43 : decode cX4_widest 43 = .ok (.aload_n 0, 1) := by decide +kernel
theorem dX4_widest_44 : decode cX4_widest 44 = .ok (.getfield 34, 3) := by decide +kernel
theorem dX4_widest_47 : decode cX4_widest 47 = .ok (.sipush 1000, 3) := by decide +kernel
theorem dX4_widest_50 : decode cX4_widest 50 = .ok (.iload_n 1, 1) := by decide +kernel
theorem dX4_widest_51 : decode cX4_widest 51 = .ok (.imul, 1) := by decide +kernel
theorem dX4_widest_52 : decode cX4_widest 52 = .ok (.iload_n 3, 1) := by decide +kernel
theorem dX4_widest_53 : decode cX4_widest 53 = .ok (.iadd, 1) := by decide +kernel
theorem dX4_widest_54 : decode cX4_widest 54 = .ok (.iaload, 1) := by decide +kernel
theorem dX4_widest_55 : decode cX4_widest 55 = .ok (.aload_n 0, 1) := by decide +kernel
theorem dX4_widest_56 : decode cX4_widest 56 = .ok (.getfield 37, 3) := by decide +kernel
theorem dX4_widest_59 : decode cX4_widest 59 = .ok (.sipush 1000, 3) := by decide +kernel
theorem dX4_widest_62 : decode cX4_widest 62 = .ok (.iload_n 1, 1) := by decide +kernel
theorem dX4_widest_63 : decode cX4_widest 63 = .ok (.imul, 1) := by decide +kernel
theorem dX4_widest_64 : decode cX4_widest 64 = .ok (.iload_n 3, 1) := by decide +kernel
theorem dX4_widest_65 : decode cX4_widest 65 = .ok (.iadd, 1) := by decide +kernel
theorem dX4_widest_66 : decode cX4_widest 66 = .ok (.iaload, 1) := by decide +kernel
theorem dX4_widest_67 : decode cX4_widest 67 = .ok (.iadd, 1) := by decide +kernel
theorem dX4_widest_68 : decode cX4_widest 68 = .ok (.istore_n 2, 1) := by decide +kernel
theorem dX4_widest_69 : decode cX4_widest 69 = .ok (.iinc 3 1, 3) := by decide +kernel
theorem dX4_widest_72 : decode cX4_widest 72 = .ok (.goto (-68), 3) := by decide +kernel
theorem dX4_widest_75 : decode cX4_widest 75 = .ok (.iload_n 2, 1) := by decide +kernel
theorem dX4_widest_76 : decode cX4_widest 76 = .ok (.ireturn, 1) := by decide +kernel
theorem dX4_unlike_0 : decode cX4_unlike 0 = .ok (.iconst 0, 1) := by decide +kernel
theorem dX4_unlike_1 : decode cX4_unlike 1 = .ok (.istore_n 2, 1) := by decide +kernel
theorem dX4_unlike_2 : decode cX4_unlike 2 = .ok (.iconst 0, 1) := by decide +kernel
theorem dX4_unlike_3 : decode cX4_unlike 3 = .ok (.istore_n 3, 1) := by decide +kernel
theorem dX4_unlike_4 : decode cX4_unlike 4 = .ok (.iload_n 3, 1) := by decide +kernel
theorem dX4_unlike_5 : decode cX4_unlike 5 = .ok (.sipush 1000, 3) := by decide +kernel
theorem dX4_unlike_8 : decode cX4_unlike 8 = .ok (.if_icmp .ge 32, 3) := by decide +kernel
theorem dX4_unlike_11 : decode cX4_unlike 11 = .ok (.iload_n 2, 1) := by decide +kernel
theorem dX4_unlike_12 : decode cX4_unlike 12 = .ok (.aload_n 0, 1) := by decide +kernel
theorem dX4_unlike_13 : decode cX4_unlike 13 = .ok (.getfield 55, 3) := by decide +kernel
theorem dX4_unlike_16 : decode cX4_unlike 16 = .ok (.sipush 1000, 3) := by decide +kernel
theorem dX4_unlike_19 : decode cX4_unlike 19 = .ok (.iload_n 1, 1) := by decide +kernel
theorem dX4_unlike_20 : decode cX4_unlike 20 = .ok (.imul, 1) := by decide +kernel
theorem dX4_unlike_21 : decode cX4_unlike 21 = .ok (.iload_n 3, 1) := by decide +kernel
theorem dX4_unlike_22 : decode cX4_unlike 22 = .ok (.iadd, 1) := by decide +kernel
theorem dX4_unlike_23 : decode cX4_unlike 23 = .ok (.iaload, 1) := by decide +kernel
theorem dX4_unlike_24 : decode cX4_unlike 24 = .ok (.ifCond .le 7, 3) := by decide +kernel
theorem dX4_unlike_27 : decode cX4_unlike 27 = .ok (.iconst 1, 1) := by decide +kernel
theorem dX4_unlike_28 : decode cX4_unlike 28 = .ok (.goto 4, 3) := by decide +kernel
theorem dX4_unlike_31 : decode cX4_unlike 31 = .ok (.iconst 0, 1) := by decide +kernel
theorem dX4_unlike_32 : decode cX4_unlike 32 = .ok (.iadd, 1) := by decide +kernel
theorem dX4_unlike_33 : decode cX4_unlike 33 = .ok (.istore_n 2, 1) := by decide +kernel
theorem dX4_unlike_34 : decode cX4_unlike 34 = .ok (.iinc 3 1, 3) := by decide +kernel
theorem dX4_unlike_37 : decode cX4_unlike 37 = .ok (.goto (-33), 3) := by decide +kernel
theorem dX4_unlike_40 : decode cX4_unlike 40 = .ok (.iload_n 2, 1) := by decide +kernel
theorem dX4_unlike_41 : decode cX4_unlike 41 = .ok (.ireturn, 1) := by decide +kernel
theorem dX4_stream_0 : decode cX4_stream 0 = .ok (.aload_n 0, 1) := by decide +kernel
theorem dX4_stream_1 : decode cX4_stream 1 = .ok (.iconst 0, 1) := by decide +kernel
theorem dX4_stream_2 : decode cX4_stream 2 = .ok (.putfield 61, 3) := by decide +kernel
theorem dX4_stream_5 : decode cX4_stream 5 = .ok (.aload_n 0, 1) := by decide +kernel
theorem dX4_stream_6 : decode cX4_stream 6 = .ok (.iload_n 1, 1) := by decide +kernel
theorem dX4_stream_7 : decode cX4_stream 7 = .ok (.invokevirtual 247, 3) := by decide +kernel
theorem dX4_stream_10 : decode cX4_stream 10 = .ok (.ifCond .ne 9, 3) := by decide +kernel
theorem dX4_stream_13 : decode cX4_stream 13 = .ok (.aload_n 0, 1) := by decide +kernel
theorem dX4_stream_14 : decode cX4_stream 14 = .ok (.iconst 1, 1) := by decide +kernel
theorem dX4_stream_15 : decode cX4_stream 15 = .ok (.invokevirtual 179, 3) := by decide +kernel
theorem dX4_stream_18 : decode cX4_stream 18 = .ok (.ireturn, 1) := by decide +kernel
theorem dX4_stream_19 : decode cX4_stream 19 = .ok (.iload_n 2, 1) := by decide +kernel
theorem dX4_stream_20 : decode cX4_stream 20 = .ok (.tableswitch 208 0 9 #[56, 67, 78, 88, 99, 110, 121, 150, 188, 198], 56) := by decide +kernel
theorem dX4_stream_76 : decode cX4_stream 76 = .ok (.aload_n 0, 1) := by decide +kernel
theorem dX4_stream_77 : decode cX4_stream 77 = .ok (.aload_n 0, 1) := by decide +kernel
theorem dX4_stream_78 : decode cX4_stream 78 = .ok (.getfield 43, 3) := by decide +kernel
theorem dX4_stream_81 : decode cX4_stream 81 = .ok (.iload_n 1, 1) := by decide +kernel
theorem dX4_stream_82 : decode cX4_stream 82 = .ok (.iaload, 1) := by decide +kernel
theorem dX4_stream_83 : decode cX4_stream 83 = .ok (.invokevirtual 195, 3) := by decide +kernel
theorem dX4_stream_86 : decode cX4_stream 86 = .ok (.ireturn, 1) := by decide +kernel
theorem dX4_stream_87 : decode cX4_stream 87 = .ok (.aload_n 0, 1) := by decide +kernel
theorem dX4_stream_88 : decode cX4_stream 88 = .ok (.aload_n 0, 1) := by decide +kernel
theorem dX4_stream_89 : decode cX4_stream 89 = .ok (.getfield 40, 3) := by decide +kernel
theorem dX4_stream_92 : decode cX4_stream 92 = .ok (.iload_n 1, 1) := by decide +kernel
theorem dX4_stream_93 : decode cX4_stream 93 = .ok (.iaload, 1) := by decide +kernel
theorem dX4_stream_94 : decode cX4_stream 94 = .ok (.invokevirtual 195, 3) := by decide +kernel
theorem dX4_stream_97 : decode cX4_stream 97 = .ok (.ireturn, 1) := by decide +kernel
theorem dX4_stream_98 : decode cX4_stream 98 = .ok (.aload_n 0, 1) := by decide +kernel
theorem dX4_stream_99 : decode cX4_stream 99 = .ok (.aload_n 0, 1) := by decide +kernel
theorem dX4_stream_100 : decode cX4_stream 100 = .ok (.iload_n 1, 1) := by decide +kernel
theorem dX4_stream_101 : decode cX4_stream 101 = .ok (.invokevirtual 237, 3) := by decide +kernel
theorem dX4_stream_104 : decode cX4_stream 104 = .ok (.invokevirtual 195, 3) := by decide +kernel
theorem dX4_stream_107 : decode cX4_stream 107 = .ok (.ireturn, 1) := by decide +kernel
theorem dX4_stream_108 : decode cX4_stream 108 = .ok (.aload_n 0, 1) := by decide +kernel
theorem dX4_stream_109 : decode cX4_stream 109 = .ok (.aload_n 0, 1) := by decide +kernel
theorem dX4_stream_110 : decode cX4_stream 110 = .ok (.getfield 46, 3) := by decide +kernel
theorem dX4_stream_113 : decode cX4_stream 113 = .ok (.iload_n 1, 1) := by decide +kernel
theorem dX4_stream_114 : decode cX4_stream 114 = .ok (.iaload, 1) := by decide +kernel
theorem dX4_stream_115 : decode cX4_stream 115 = .ok (.invokevirtual 195, 3) := by decide +kernel
theorem dX4_stream_118 : decode cX4_stream 118 = .ok (.ireturn, 1) := by decide +kernel
theorem dX4_stream_119 : decode cX4_stream 119 = .ok (.aload_n 0, 1) := by decide +kernel
theorem dX4_stream_120 : decode cX4_stream 120 = .ok (.aload_n 0, 1) := by decide +kernel
theorem dX4_stream_121 : decode cX4_stream 121 = .ok (.getfield 49, 3) := by decide +kernel
theorem dX4_stream_124 : decode cX4_stream 124 = .ok (.iload_n 1, 1) := by decide +kernel
theorem dX4_stream_125 : decode cX4_stream 125 = .ok (.iaload, 1) := by decide +kernel
theorem dX4_stream_126 : decode cX4_stream 126 = .ok (.invokevirtual 195, 3) := by decide +kernel
theorem dX4_stream_129 : decode cX4_stream 129 = .ok (.ireturn, 1) := by decide +kernel
theorem dX4_stream_130 : decode cX4_stream 130 = .ok (.aload_n 0, 1) := by decide +kernel
theorem dX4_stream_131 : decode cX4_stream 131 = .ok (.aload_n 0, 1) := by decide +kernel
theorem dX4_stream_132 : decode cX4_stream 132 = .ok (.getfield 52, 3) := by decide +kernel
theorem dX4_stream_135 : decode cX4_stream 135 = .ok (.iload_n 1, 1) := by decide +kernel
theorem dX4_stream_136 : decode cX4_stream 136 = .ok (.iaload, 1) := by decide +kernel
theorem dX4_stream_137 : decode cX4_stream 137 = .ok (.invokevirtual 195, 3) := by decide +kernel
theorem dX4_stream_140 : decode cX4_stream 140 = .ok (.ireturn, 1) := by decide +kernel
theorem dX4_stream_141 : decode cX4_stream 141 = .ok (.aload_n 0, 1) := by decide +kernel
theorem dX4_stream_142 : decode cX4_stream 142 = .ok (.aload_n 0, 1) := by decide +kernel
theorem dX4_stream_143 : decode cX4_stream 143 = .ok (.getfield 40, 3) := by decide +kernel
theorem dX4_stream_146 : decode cX4_stream 146 = .ok (.iload_n 1, 1) := by decide +kernel
theorem dX4_stream_147 : decode cX4_stream 147 = .ok (.iaload, 1) := by decide +kernel
theorem dX4_stream_148 : decode cX4_stream 148 = .ok (.ifCond .ne 8, 3) := by decide +kernel
theorem dX4_stream_151 : decode cX4_stream 151 = .ok (.bipush (-2), 2) := by decide +kernel
theorem dX4_stream_153 : decode cX4_stream 153 = .ok (.goto 13, 3) := by decide +kernel
theorem dX4_stream_156 : decode cX4_stream 156 = .ok (.aload_n 0, 1) := by decide +kernel
theorem dX4_stream_157 : decode cX4_stream 157 = .ok (.getfield 31, 3) := by decide +kernel
theorem dX4_stream_160 : decode cX4_stream 160 = .ok (.sipush 1000, 3) := by decide +kernel
theorem dX4_stream_163 : decode cX4_stream 163 = .ok (.iload_n 1, 1) := by decide +kernel
theorem dX4_stream_164 : decode cX4_stream 164 = .ok (.imul, 1) := by decide +kernel
theorem dX4_stream_165 : decode cX4_stream 165 = .ok (.iaload, 1) := by decide +kernel
theorem dX4_stream_166 : decode cX4_stream 166 = .ok (.invokevirtual 195, 3) := by decide +kernel
theorem dX4_stream_169 : decode cX4_stream 169 = .ok (.ireturn, 1) := by decide +kernel
theorem dX4_stream_170 : decode cX4_stream 170 = .ok (.aload_n 0, 1) := by decide +kernel
theorem dX4_stream_171 : decode cX4_stream 171 = .ok (.aload_n 0, 1) := by decide +kernel
theorem dX4_stream_172 : decode cX4_stream 172 = .ok (.getfield 40, 3) := by decide +kernel
theorem dX4_stream_175 : decode cX4_stream 175 = .ok (.iload_n 1, 1) := by decide +kernel
theorem dX4_stream_176 : decode cX4_stream 176 = .ok (.iaload, 1) := by decide +kernel
theorem dX4_stream_177 : decode cX4_stream 177 = .ok (.ifCond .ne 8, 3) := by decide +kernel
theorem dX4_stream_180 : decode cX4_stream 180 = .ok (.bipush (-2), 2) := by decide +kernel
theorem dX4_stream_182 : decode cX4_stream 182 = .ok (.goto 22, 3) := by decide +kernel
theorem dX4_stream_185 : decode cX4_stream 185 = .ok (.aload_n 0, 1) := by decide +kernel
theorem dX4_stream_186 : decode cX4_stream 186 = .ok (.getfield 31, 3) := by decide +kernel
theorem dX4_stream_189 : decode cX4_stream 189 = .ok (.sipush 1000, 3) := by decide +kernel
theorem dX4_stream_192 : decode cX4_stream 192 = .ok (.iload_n 1, 1) := by decide +kernel
theorem dX4_stream_193 : decode cX4_stream 193 = .ok (.imul, 1) := by decide +kernel
theorem dX4_stream_194 : decode cX4_stream 194 = .ok (.aload_n 0, 1) := by decide +kernel
theorem dX4_stream_195 : decode cX4_stream 195 = .ok (.getfield 40, 3) := by decide +kernel
theorem dX4_stream_198 : decode cX4_stream 198 = .ok (.iload_n 1, 1) := by decide +kernel
theorem dX4_stream_199 : decode cX4_stream 199 = .ok (.iaload, 1) := by decide +kernel
theorem dX4_stream_200 : decode cX4_stream 200 = .ok (.iadd, 1) := by decide +kernel
theorem dX4_stream_201 : decode cX4_stream 201 = .ok (.iconst 1, 1) := by decide +kernel
theorem dX4_stream_202 : decode cX4_stream 202 = .ok (.isub, 1) := by decide +kernel
theorem dX4_stream_203 : decode cX4_stream 203 = .ok (.iaload, 1) := by decide +kernel
theorem dX4_stream_204 : decode cX4_stream 204 = .ok (.invokevirtual 195, 3) := by decide +kernel
theorem dX4_stream_207 : decode cX4_stream 207 = .ok (.ireturn, 1) := by decide +kernel
theorem dX4_stream_208 : decode cX4_stream 208 = .ok (.aload_n 0, 1) := by decide +kernel
theorem dX4_stream_209 : decode cX4_stream 209 = .ok (.aload_n 0, 1) := by decide +kernel
theorem dX4_stream_210 : decode cX4_stream 210 = .ok (.iload_n 1, 1) := by decide +kernel
theorem dX4_stream_211 : decode cX4_stream 211 = .ok (.invokevirtual 251, 3) := by decide +kernel
theorem dX4_stream_214 : decode cX4_stream 214 = .ok (.invokevirtual 195, 3) := by decide +kernel
theorem dX4_stream_217 : decode cX4_stream 217 = .ok (.ireturn, 1) := by decide +kernel
theorem dX4_stream_218 : decode cX4_stream 218 = .ok (.aload_n 0, 1) := by decide +kernel
theorem dX4_stream_219 : decode cX4_stream 219 = .ok (.aload_n 0, 1) := by decide +kernel
theorem dX4_stream_220 : decode cX4_stream 220 = .ok (.iload_n 1, 1) := by decide +kernel
theorem dX4_stream_221 : decode cX4_stream 221 = .ok (.invokevirtual 254, 3) := by decide +kernel
theorem dX4_stream_224 : decode cX4_stream 224 = .ok (.invokevirtual 195, 3) := by decide +kernel
theorem dX4_stream_227 : decode cX4_stream 227 = .ok (.ireturn, 1) := by decide +kernel
theorem dX4_stream_228 : decode cX4_stream 228 = .ok (.aload_n 0, 1) := by decide +kernel
theorem dX4_stream_229 : decode cX4_stream 229 = .ok (.iconst 1, 1) := by decide +kernel
theorem dX4_stream_230 : decode cX4_stream 230 = .ok (.invokevirtual 179, 3) := by decide +kernel
theorem dX4_stream_233 : decode cX4_stream 233 = .ok (.ireturn, 1) := by decide +kernel
theorem dX4_isTuple_0 : decode cX4_isTuple 0 = .ok (.aload_n 0, 1) := by decide +kernel
theorem dX4_isTuple_1 : decode cX4_isTuple 1 = .ok (.iload_n 1, 1) := by decide +kernel
theorem dX4_isTuple_2 : decode cX4_isTuple 2 = .ok (.invokevirtual 247, 3) := by decide +kernel
theorem dX4_isTuple_5 : decode cX4_isTuple 5 = .ok (.ifCond .eq 23, 3) := by decide +kernel
theorem dX4_isTuple_8 : decode cX4_isTuple 8 = .ok (.iload_n 2, 1) := by decide +kernel
theorem dX4_isTuple_9 : decode cX4_isTuple 9 = .ok (.iconst 0, 1) := by decide +kernel
theorem dX4_isTuple_10 : decode cX4_isTuple 10 = .ok (.aload_n 0, 1) := by decide +kernel
theorem dX4_isTuple_11 : decode cX4_isTuple 11 = .ok (.getfield 40, 3) := by decide +kernel
theorem dX4_isTuple_14 : decode cX4_isTuple 14 = .ok (.iload_n 1, 1) := by decide +kernel
theorem dX4_isTuple_15 : decode cX4_isTuple 15 = .ok (.iaload, 1) := by decide +kernel
theorem dX4_isTuple_16 : decode cX4_isTuple 16 = .ok (.iconst 1, 1) := by decide +kernel
theorem dX4_isTuple_17 : decode cX4_isTuple 17 = .ok (.isub, 1) := by decide +kernel
theorem dX4_isTuple_18 : decode cX4_isTuple 18 = .ok (.invokestatic 86, 3) := by decide +kernel
theorem dX4_isTuple_21 : decode cX4_isTuple 21 = .ok (.ifCond .eq 7, 3) := by decide +kernel
theorem dX4_isTuple_24 : decode cX4_isTuple 24 = .ok (.iconst 1, 1) := by decide +kernel
theorem dX4_isTuple_25 : decode cX4_isTuple 25 = .ok (.goto 4, 3) := by decide +kernel
theorem dX4_isTuple_28 : decode cX4_isTuple 28 = .ok (.iconst 0, 1) := by decide +kernel
theorem dX4_isTuple_29 : decode cX4_isTuple 29 = .ok (.ireturn, 1) := by decide +kernel
theorem dX4_low_0 : decode cX4_low 0 = .ok (.aload_n 0, 1) := by decide +kernel
theorem dX4_low_1 : decode cX4_low 1 = .ok (.iload_n 1, 1) := by decide +kernel
theorem dX4_low_2 : decode cX4_low 2 = .ok (.iconst 0, 1) := by decide +kernel
theorem dX4_low_3 : decode cX4_low 3 = .ok (.iload_n 2, 1) := by decide +kernel
theorem dX4_low_4 : decode cX4_low 4 = .ok (.invokevirtual 231, 3) := by decide +kernel
theorem dX4_low_7 : decode cX4_low 7 = .ok (.ireturn, 1) := by decide +kernel
theorem dX4_high_0 : decode cX4_high 0 = .ok (.aload_n 0, 1) := by decide +kernel
theorem dX4_high_1 : decode cX4_high 1 = .ok (.iload_n 1, 1) := by decide +kernel
theorem dX4_high_2 : decode cX4_high 2 = .ok (.iload_n 2, 1) := by decide +kernel
theorem dX4_high_3 : decode cX4_high 3 = .ok (.invokevirtual 257, 3) := by decide +kernel
theorem dX4_high_6 : decode cX4_high 6 = .ok (.aload_n 0, 1) := by decide +kernel
theorem dX4_high_7 : decode cX4_high 7 = .ok (.getfield 37, 3) := by decide +kernel
theorem dX4_high_10 : decode cX4_high 10 = .ok (.sipush 1000, 3) := by decide +kernel
theorem dX4_high_13 : decode cX4_high 13 = .ok (.iload_n 1, 1) := by decide +kernel
theorem dX4_high_14 : decode cX4_high 14 = .ok (.imul, 1) := by decide +kernel
theorem dX4_high_15 : decode cX4_high 15 = .ok (.iload_n 2, 1) := by decide +kernel
theorem dX4_high_16 : decode cX4_high 16 = .ok (.iadd, 1) := by decide +kernel
theorem dX4_high_17 : decode cX4_high 17 = .ok (.iaload, 1) := by decide +kernel
theorem dX4_high_18 : decode cX4_high 18 = .ok (.iadd, 1) := by decide +kernel
theorem dX4_high_19 : decode cX4_high 19 = .ok (.ireturn, 1) := by decide +kernel
theorem dX4_tuple_0 : decode cX4_tuple 0 = .ok (.aload_n 0, 1) := by decide +kernel
theorem dX4_tuple_1 : decode cX4_tuple 1 = .ok (.iconst 0, 1) := by decide +kernel
theorem dX4_tuple_2 : decode cX4_tuple 2 = .ok (.putfield 61, 3) := by decide +kernel
theorem dX4_tuple_5 : decode cX4_tuple 5 = .ok (.aload_n 0, 1) := by decide +kernel
theorem dX4_tuple_6 : decode cX4_tuple 6 = .ok (.iload_n 1, 1) := by decide +kernel
theorem dX4_tuple_7 : decode cX4_tuple 7 = .ok (.iload_n 2, 1) := by decide +kernel
theorem dX4_tuple_8 : decode cX4_tuple 8 = .ok (.invokevirtual 260, 3) := by decide +kernel
theorem dX4_tuple_11 : decode cX4_tuple 11 = .ok (.ifCond .ne 9, 3) := by decide +kernel
theorem dX4_tuple_14 : decode cX4_tuple 14 = .ok (.aload_n 0, 1) := by decide +kernel
theorem dX4_tuple_15 : decode cX4_tuple 15 = .ok (.iconst 1, 1) := by decide +kernel
theorem dX4_tuple_16 : decode cX4_tuple 16 = .ok (.invokevirtual 179, 3) := by decide +kernel
theorem dX4_tuple_19 : decode cX4_tuple 19 = .ok (.ireturn, 1) := by decide +kernel
theorem dX4_tuple_20 : decode cX4_tuple 20 = .ok (.iload_n 3, 1) := by decide +kernel
theorem dX4_tuple_21 : decode cX4_tuple 21 = .ok (.tableswitch 152 0 6 #[43, 60, 77, 94, 105, 116, 132], 43) := by decide +kernel
theorem dX4_tuple_64 : decode cX4_tuple 64 = .ok (.aload_n 0, 1) := by decide +kernel
theorem dX4_tuple_65 : decode cX4_tuple 65 = .ok (.aload_n 0, 1) := by decide +kernel
theorem dX4_tuple_66 : decode cX4_tuple 66 = .ok (.getfield 31, 3) := by decide +kernel
theorem dX4_tuple_69 : decode cX4_tuple 69 = .ok (.sipush 1000, 3) := by decide +kernel
theorem dX4_tuple_72 : decode cX4_tuple 72 = .ok (.iload_n 1, 1) := by decide +kernel
theorem dX4_tuple_73 : decode cX4_tuple 73 = .ok (.imul, 1) := by decide +kernel
theorem dX4_tuple_74 : decode cX4_tuple 74 = .ok (.iload_n 2, 1) := by decide +kernel
theorem dX4_tuple_75 : decode cX4_tuple 75 = .ok (.iadd, 1) := by decide +kernel
theorem dX4_tuple_76 : decode cX4_tuple 76 = .ok (.iaload, 1) := by decide +kernel
theorem dX4_tuple_77 : decode cX4_tuple 77 = .ok (.invokevirtual 195, 3) := by decide +kernel
theorem dX4_tuple_80 : decode cX4_tuple 80 = .ok (.ireturn, 1) := by decide +kernel
theorem dX4_tuple_81 : decode cX4_tuple 81 = .ok (.aload_n 0, 1) := by decide +kernel
theorem dX4_tuple_82 : decode cX4_tuple 82 = .ok (.aload_n 0, 1) := by decide +kernel
theorem dX4_tuple_83 : decode cX4_tuple 83 = .ok (.getfield 34, 3) := by decide +kernel
theorem dX4_tuple_86 : decode cX4_tuple 86 = .ok (.sipush 1000, 3) := by decide +kernel
theorem dX4_tuple_89 : decode cX4_tuple 89 = .ok (.iload_n 1, 1) := by decide +kernel
theorem dX4_tuple_90 : decode cX4_tuple 90 = .ok (.imul, 1) := by decide +kernel
theorem dX4_tuple_91 : decode cX4_tuple 91 = .ok (.iload_n 2, 1) := by decide +kernel
theorem dX4_tuple_92 : decode cX4_tuple 92 = .ok (.iadd, 1) := by decide +kernel
theorem dX4_tuple_93 : decode cX4_tuple 93 = .ok (.iaload, 1) := by decide +kernel
theorem dX4_tuple_94 : decode cX4_tuple 94 = .ok (.invokevirtual 195, 3) := by decide +kernel
theorem dX4_tuple_97 : decode cX4_tuple 97 = .ok (.ireturn, 1) := by decide +kernel
theorem dX4_tuple_98 : decode cX4_tuple 98 = .ok (.aload_n 0, 1) := by decide +kernel
theorem dX4_tuple_99 : decode cX4_tuple 99 = .ok (.aload_n 0, 1) := by decide +kernel
theorem dX4_tuple_100 : decode cX4_tuple 100 = .ok (.getfield 37, 3) := by decide +kernel
theorem dX4_tuple_103 : decode cX4_tuple 103 = .ok (.sipush 1000, 3) := by decide +kernel
theorem dX4_tuple_106 : decode cX4_tuple 106 = .ok (.iload_n 1, 1) := by decide +kernel
theorem dX4_tuple_107 : decode cX4_tuple 107 = .ok (.imul, 1) := by decide +kernel
theorem dX4_tuple_108 : decode cX4_tuple 108 = .ok (.iload_n 2, 1) := by decide +kernel
theorem dX4_tuple_109 : decode cX4_tuple 109 = .ok (.iadd, 1) := by decide +kernel
theorem dX4_tuple_110 : decode cX4_tuple 110 = .ok (.iaload, 1) := by decide +kernel
theorem dX4_tuple_111 : decode cX4_tuple 111 = .ok (.invokevirtual 195, 3) := by decide +kernel
theorem dX4_tuple_114 : decode cX4_tuple 114 = .ok (.ireturn, 1) := by decide +kernel
theorem dX4_tuple_115 : decode cX4_tuple 115 = .ok (.aload_n 0, 1) := by decide +kernel
theorem dX4_tuple_116 : decode cX4_tuple 116 = .ok (.aload_n 0, 1) := by decide +kernel
theorem dX4_tuple_117 : decode cX4_tuple 117 = .ok (.iload_n 1, 1) := by decide +kernel
theorem dX4_tuple_118 : decode cX4_tuple 118 = .ok (.iload_n 2, 1) := by decide +kernel
theorem dX4_tuple_119 : decode cX4_tuple 119 = .ok (.invokevirtual 257, 3) := by decide +kernel
theorem dX4_tuple_122 : decode cX4_tuple 122 = .ok (.invokevirtual 195, 3) := by decide +kernel
theorem dX4_tuple_125 : decode cX4_tuple 125 = .ok (.ireturn, 1) := by decide +kernel
theorem dX4_tuple_126 : decode cX4_tuple 126 = .ok (.aload_n 0, 1) := by decide +kernel
theorem dX4_tuple_127 : decode cX4_tuple 127 = .ok (.aload_n 0, 1) := by decide +kernel
theorem dX4_tuple_128 : decode cX4_tuple 128 = .ok (.iload_n 1, 1) := by decide +kernel
theorem dX4_tuple_129 : decode cX4_tuple 129 = .ok (.iload_n 2, 1) := by decide +kernel
theorem dX4_tuple_130 : decode cX4_tuple 130 = .ok (.invokevirtual 264, 3) := by decide +kernel
theorem dX4_tuple_133 : decode cX4_tuple 133 = .ok (.invokevirtual 195, 3) := by decide +kernel
theorem dX4_tuple_136 : decode cX4_tuple 136 = .ok (.ireturn, 1) := by decide +kernel
theorem dX4_tuple_137 : decode cX4_tuple 137 = .ok (.aload_n 0, 1) := by decide +kernel
theorem dX4_tuple_138 : decode cX4_tuple 138 = .ok (.aload_n 0, 1) := by decide +kernel
theorem dX4_tuple_139 : decode cX4_tuple 139 = .ok (.iload_n 1, 1) := by decide +kernel
theorem dX4_tuple_140 : decode cX4_tuple 140 = .ok (.iload_n 2, 1) := by decide +kernel
theorem dX4_tuple_141 : decode cX4_tuple 141 = .ok (.aload_n 0, 1) := by decide +kernel
theorem dX4_tuple_142 : decode cX4_tuple 142 = .ok (.iload_n 1, 1) := by decide +kernel
theorem dX4_tuple_143 : decode cX4_tuple 143 = .ok (.invokevirtual 237, 3) := by decide +kernel
theorem dX4_tuple_146 : decode cX4_tuple 146 = .ok (.invokevirtual 224, 3) := by decide +kernel
theorem dX4_tuple_149 : decode cX4_tuple 149 = .ok (.invokevirtual 195, 3) := by decide +kernel
theorem dX4_tuple_152 : decode cX4_tuple 152 = .ok (.ireturn, 1) := by decide +kernel
theorem dX4_tuple_153 : decode cX4_tuple 153 = .ok (.aload_n 0, 1) := by decide +kernel
theorem dX4_tuple_154 : decode cX4_tuple 154 = .ok (.iload_n 2, 1) := by decide +kernel
theorem dX4_tuple_155 : decode cX4_tuple 155 = .ok (.aload_n 0, 1) := by decide +kernel
theorem dX4_tuple_156 : decode cX4_tuple 156 = .ok (.iload_n 1, 1) := by decide +kernel
theorem dX4_tuple_157 : decode cX4_tuple 157 = .ok (.iload_n 2, 1) := by decide +kernel
theorem dX4_tuple_158 : decode cX4_tuple 158 = .ok (.aload_n 0, 1) := by decide +kernel
theorem dX4_tuple_159 : decode cX4_tuple 159 = .ok (.iload_n 1, 1) := by decide +kernel
theorem dX4_tuple_160 : decode cX4_tuple 160 = .ok (.invokevirtual 237, 3) := by decide +kernel
theorem dX4_tuple_163 : decode cX4_tuple 163 = .ok (.invokevirtual 228, 3) := by decide +kernel
theorem dX4_tuple_166 : decode cX4_tuple 166 = .ok (.isub, 1) := by decide +kernel
theorem dX4_tuple_167 : decode cX4_tuple 167 = .ok (.iconst 1, 1) := by decide +kernel
theorem dX4_tuple_168 : decode cX4_tuple 168 = .ok (.iadd, 1) := by decide +kernel
theorem dX4_tuple_169 : decode cX4_tuple 169 = .ok (.invokevirtual 195, 3) := by decide +kernel
theorem dX4_tuple_172 : decode cX4_tuple 172 = .ok (.ireturn, 1) := by decide +kernel
theorem dX4_tuple_173 : decode cX4_tuple 173 = .ok (.aload_n 0, 1) := by decide +kernel
theorem dX4_tuple_174 : decode cX4_tuple 174 = .ok (.iconst 1, 1) := by decide +kernel
theorem dX4_tuple_175 : decode cX4_tuple 175 = .ok (.invokevirtual 179, 3) := by decide +kernel
theorem dX4_tuple_178 : decode cX4_tuple 178 = .ok (.ireturn, 1) := by decide +kernel
theorem dX4_goes_0 : decode cX4_goes 0 = .ok (.aload_n 0, 1) := by decide +kernel
theorem dX4_goes_1 : decode cX4_goes 1 = .ok (.iconst 0, 1) := by decide +kernel
theorem dX4_goes_2 : decode cX4_goes 2 = .ok (.putfield 61, 3) := by decide +kernel
theorem dX4_goes_5 : decode cX4_goes 5 = .ok (.aload_n 0, 1) := by decide +kernel
theorem dX4_goes_6 : decode cX4_goes 6 = .ok (.iload_n 1, 1) := by decide +kernel
theorem dX4_goes_7 : decode cX4_goes 7 = .ok (.iload_n 2, 1) := by decide +kernel
theorem dX4_goes_8 : decode cX4_goes 8 = .ok (.invokevirtual 260, 3) := by decide +kernel
theorem dX4_goes_11 : decode cX4_goes 11 = .ok (.ifCond .ne 9, 3) := by decide +kernel
theorem dX4_goes_14 : decode cX4_goes 14 = .ok (.aload_n 0, 1) := by decide +kernel
theorem dX4_goes_15 : decode cX4_goes 15 = .ok (.iconst 1, 1) := by decide +kernel
theorem dX4_goes_16 : decode cX4_goes 16 = .ok (.invokevirtual 179, 3) := by decide +kernel
theorem dX4_goes_19 : decode cX4_goes 19 = .ok (.ireturn, 1) := by decide +kernel
theorem dX4_goes_20 : decode cX4_goes 20 = .ok (.aload_n 0, 1) := by decide +kernel
theorem dX4_goes_21 : decode cX4_goes 21 = .ok (.aload_n 0, 1) := by decide +kernel
theorem dX4_goes_22 : decode cX4_goes 22 = .ok (.iload_n 1, 1) := by decide +kernel
theorem dX4_goes_23 : decode cX4_goes 23 = .ok (.iload_n 2, 1) := by decide +kernel
theorem dX4_goes_24 : decode cX4_goes 24 = .ok (.aload_n 0, 1) := by decide +kernel
theorem dX4_goes_25 : decode cX4_goes 25 = .ok (.iload_n 1, 1) := by decide +kernel
theorem dX4_goes_26 : decode cX4_goes 26 = .ok (.invokevirtual 237, 3) := by decide +kernel
theorem dX4_goes_29 : decode cX4_goes 29 = .ok (.invokevirtual 234, 3) := by decide +kernel
theorem dX4_goes_32 : decode cX4_goes 32 = .ok (.ifCond .eq 7, 3) := by decide +kernel
theorem dX4_goes_35 : decode cX4_goes 35 = .ok (.iconst 1, 1) := by decide +kernel
theorem dX4_goes_36 : decode cX4_goes 36 = .ok (.goto 4, 3) := by decide +kernel
theorem dX4_goes_39 : decode cX4_goes 39 = .ok (.iconst 0, 1) := by decide +kernel
theorem dX4_goes_40 : decode cX4_goes 40 = .ok (.invokevirtual 195, 3) := by decide +kernel
theorem dX4_goes_43 : decode cX4_goes 43 = .ok (.ireturn, 1) := by decide +kernel
theorem dX4_band_0 : decode cX4_band 0 = .ok (.aload_n 0, 1) := by decide +kernel
theorem dX4_band_1 : decode cX4_band 1 = .ok (.iconst 0, 1) := by decide +kernel
theorem dX4_band_2 : decode cX4_band 2 = .ok (.putfield 61, 3) := by decide +kernel
theorem dX4_band_5 : decode cX4_band 5 = .ok (.iload_n 1, 1) := by decide +kernel
theorem dX4_band_6 : decode cX4_band 6 = .ok (.iconst 0, 1) := by decide +kernel
theorem dX4_band_7 : decode cX4_band 7 = .ok (.sipush 999, 3) := by decide +kernel
theorem dX4_band_10 : decode cX4_band 10 = .ok (.invokestatic 86, 3) := by decide +kernel
theorem dX4_band_13 : decode cX4_band 13 = .ok (.ifCond .eq 26, 3) := by decide +kernel
theorem dX4_band_16 : decode cX4_band 16 = .ok (.iload_n 2, 1) := by decide +kernel
theorem dX4_band_17 : decode cX4_band 17 = .ok (.iconst 1, 1) := by decide +kernel
theorem dX4_band_18 : decode cX4_band 18 = .ok (.sipush 1000, 3) := by decide +kernel
theorem dX4_band_21 : decode cX4_band 21 = .ok (.invokestatic 86, 3) := by decide +kernel
theorem dX4_band_24 : decode cX4_band 24 = .ok (.ifCond .eq 15, 3) := by decide +kernel
theorem dX4_band_27 : decode cX4_band 27 = .ok (.aload_n 0, 1) := by decide +kernel
theorem dX4_band_28 : decode cX4_band 28 = .ok (.iload_n 1, 1) := by decide +kernel
theorem dX4_band_29 : decode cX4_band 29 = .ok (.iload_n 2, 1) := by decide +kernel
theorem dX4_band_30 : decode cX4_band 30 = .ok (.invokestatic 221, 3) := by decide +kernel
theorem dX4_band_33 : decode cX4_band 33 = .ok (.invokevirtual 195, 3) := by decide +kernel
theorem dX4_band_36 : decode cX4_band 36 = .ok (.goto 8, 3) := by decide +kernel
theorem dX4_band_39 : decode cX4_band 39 = .ok (.aload_n 0, 1) := by decide +kernel
theorem dX4_band_40 : decode cX4_band 40 = .ok (.iconst 2, 1) := by decide +kernel
theorem dX4_band_41 : decode cX4_band 41 = .ok (.invokevirtual 179, 3) := by decide +kernel
theorem dX4_band_44 : decode cX4_band 44 = .ok (.ireturn, 1) := by decide +kernel
theorem dX4_bands_0 : decode cX4_bands 0 = .ok (.aload_n 0, 1) := by decide +kernel
theorem dX4_bands_1 : decode cX4_bands 1 = .ok (.iconst 0, 1) := by decide +kernel
theorem dX4_bands_2 : decode cX4_bands 2 = .ok (.putfield 61, 3) := by decide +kernel
theorem dX4_bands_5 : decode cX4_bands 5 = .ok (.aload_n 0, 1) := by decide +kernel
theorem dX4_bands_6 : decode cX4_bands 6 = .ok (.iload_n 1, 1) := by decide +kernel
theorem dX4_bands_7 : decode cX4_bands 7 = .ok (.invokevirtual 247, 3) := by decide +kernel
theorem dX4_bands_10 : decode cX4_bands 10 = .ok (.ifCond .ne 9, 3) := by decide +kernel
theorem dX4_bands_13 : decode cX4_bands 13 = .ok (.aload_n 0, 1) := by decide +kernel
theorem dX4_bands_14 : decode cX4_bands 14 = .ok (.iconst 1, 1) := by decide +kernel
theorem dX4_bands_15 : decode cX4_bands 15 = .ok (.invokevirtual 179, 3) := by decide +kernel
theorem dX4_bands_18 : decode cX4_bands 18 = .ok (.ireturn, 1) := by decide +kernel
theorem dX4_bands_19 : decode cX4_bands 19 = .ok (.iload_n 2, 1) := by decide +kernel
theorem dX4_bands_20 : decode cX4_bands 20 = .ok (.iconst 0, 1) := by decide +kernel
theorem dX4_bands_21 : decode cX4_bands 21 = .ok (.bipush 12, 2) := by decide +kernel
theorem dX4_bands_23 : decode cX4_bands 23 = .ok (.invokestatic 86, 3) := by decide +kernel
theorem dX4_bands_26 : decode cX4_bands 26 = .ok (.ifCond .ne 9, 3) := by decide +kernel
theorem dX4_bands_29 : decode cX4_bands 29 = .ok (.aload_n 0, 1) := by decide +kernel
theorem dX4_bands_30 : decode cX4_bands 30 = .ok (.iconst 2, 1) := by decide +kernel
theorem dX4_bands_31 : decode cX4_bands 31 = .ok (.invokevirtual 179, 3) := by decide +kernel
theorem dX4_bands_34 : decode cX4_bands 34 = .ok (.ireturn, 1) := by decide +kernel
theorem dX4_bands_35 : decode cX4_bands 35 = .ok (.iconst 0, 1) := by decide +kernel
theorem dX4_bands_36 : decode cX4_bands 36 = .ok (.istore_n 3, 1) := by decide +kernel
theorem dX4_bands_37 : decode cX4_bands 37 = .ok (.iconst 0, 1) := by decide +kernel
theorem dX4_bands_38 : decode cX4_bands 38 = .ok (.istore 4, 2) := by decide +kernel
theorem dX4_bands_40 : decode cX4_bands 40 = .ok (.iload 4, 2) := by decide +kernel
theorem dX4_bands_42 : decode cX4_bands 42 = .ok (.aload_n 0, 1) := by decide +kernel
theorem dX4_bands_43 : decode cX4_bands 43 = .ok (.getfield 40, 3) := by decide +kernel
theorem dX4_bands_46 : decode cX4_bands 46 = .ok (.iload_n 1, 1) := by decide +kernel
theorem dX4_bands_47 : decode cX4_bands 47 = .ok (.iaload, 1) := by decide +kernel
theorem dX4_bands_48 : decode cX4_bands 48 = .ok (.if_icmp .ge 33, 3) := by decide +kernel
theorem dX4_bands_51 : decode cX4_bands 51 = .ok (.iload_n 3, 1) := by decide +kernel
theorem dX4_bands_52 : decode cX4_bands 52 = .ok (.aload_n 0, 1) := by decide +kernel
theorem dX4_bands_53 : decode cX4_bands 53 = .ok (.iload_n 1, 1) := by decide +kernel
theorem dX4_bands_54 : decode cX4_bands 54 = .ok (.iload 4, 2) := by decide +kernel
theorem dX4_bands_56 : decode cX4_bands 56 = .ok (.aload_n 0, 1) := by decide +kernel
theorem dX4_bands_57 : decode cX4_bands 57 = .ok (.iload_n 1, 1) := by decide +kernel
theorem dX4_bands_58 : decode cX4_bands 58 = .ok (.invokevirtual 237, 3) := by decide +kernel
theorem dX4_bands_61 : decode cX4_bands 61 = .ok (.invokevirtual 224, 3) := by decide +kernel
theorem dX4_bands_64 : decode cX4_bands 64 = .ok (.iload_n 2, 1) := by decide +kernel
theorem dX4_bands_65 : decode cX4_bands 65 = .ok (.if_icmp .ne 7, 3) := by decide +kernel
theorem dX4_bands_68 : decode cX4_bands 68 = .ok (.iconst 1, 1) := by decide +kernel
theorem dX4_bands_69 : decode cX4_bands 69 = .ok (.goto 4, 3) := by decide +kernel
theorem dX4_bands_72 : decode cX4_bands 72 = .ok (.iconst 0, 1) := by decide +kernel
theorem dX4_bands_73 : decode cX4_bands 73 = .ok (.iadd, 1) := by decide +kernel
theorem dX4_bands_74 : decode cX4_bands 74 = .ok (.istore_n 3, 1) := by decide +kernel
theorem dX4_bands_75 : decode cX4_bands 75 = .ok (.iinc 4 1, 3) := by decide +kernel
theorem dX4_bands_78 : decode cX4_bands 78 = .ok (.goto (-38), 3) := by decide +kernel
theorem dX4_bands_81 : decode cX4_bands 81 = .ok (.aload_n 0, 1) := by decide +kernel
theorem dX4_bands_82 : decode cX4_bands 82 = .ok (.iload_n 3, 1) := by decide +kernel
theorem dX4_bands_83 : decode cX4_bands 83 = .ok (.invokevirtual 195, 3) := by decide +kernel
theorem dX4_bands_86 : decode cX4_bands 86 = .ok (.ireturn, 1) := by decide +kernel
theorem dX4_wrongOf_0 : decode cX4_wrongOf 0 = .ok (.sipush 1000, 3) := by decide +kernel
theorem dX4_wrongOf_3 : decode cX4_wrongOf 3 = .ok (.iload_n 1, 1) := by decide +kernel
theorem dX4_wrongOf_4 : decode cX4_wrongOf 4 = .ok (.imul, 1) := by decide +kernel
theorem dX4_wrongOf_5 : decode cX4_wrongOf 5 = .ok (.aload_n 0, 1) := by decide +kernel
theorem dX4_wrongOf_6 : decode cX4_wrongOf 6 = .ok (.getfield 40, 3) := by decide +kernel
theorem dX4_wrongOf_9 : decode cX4_wrongOf 9 = .ok (.iload_n 1, 1) := by decide +kernel
theorem dX4_wrongOf_10 : decode cX4_wrongOf 10 = .ok (.iaload, 1) := by decide +kernel
theorem dX4_wrongOf_11 : decode cX4_wrongOf 11 = .ok (.iadd, 1) := by decide +kernel
theorem dX4_wrongOf_12 : decode cX4_wrongOf 12 = .ok (.iconst 1, 1) := by decide +kernel
theorem dX4_wrongOf_13 : decode cX4_wrongOf 13 = .ok (.isub, 1) := by decide +kernel
theorem dX4_wrongOf_14 : decode cX4_wrongOf 14 = .ok (.istore_n 2, 1) := by decide +kernel
theorem dX4_wrongOf_15 : decode cX4_wrongOf 15 = .ok (.sipush 1000, 3) := by decide +kernel
theorem dX4_wrongOf_18 : decode cX4_wrongOf 18 = .ok (.iload_n 1, 1) := by decide +kernel
theorem dX4_wrongOf_19 : decode cX4_wrongOf 19 = .ok (.imul, 1) := by decide +kernel
theorem dX4_wrongOf_20 : decode cX4_wrongOf 20 = .ok (.istore_n 3, 1) := by decide +kernel
theorem dX4_wrongOf_21 : decode cX4_wrongOf 21 = .ok (.iload_n 3, 1) := by decide +kernel
theorem dX4_wrongOf_22 : decode cX4_wrongOf 22 = .ok (.iload_n 2, 1) := by decide +kernel
theorem dX4_wrongOf_23 : decode cX4_wrongOf 23 = .ok (.if_icmp .ge 28, 3) := by decide +kernel
theorem dX4_wrongOf_26 : decode cX4_wrongOf 26 = .ok (.aload_n 0, 1) := by decide +kernel
theorem dX4_wrongOf_27 : decode cX4_wrongOf 27 = .ok (.getfield 31, 3) := by decide +kernel
theorem dX4_wrongOf_30 : decode cX4_wrongOf 30 = .ok (.iload_n 3, 1) := by decide +kernel
theorem dX4_wrongOf_31 : decode cX4_wrongOf 31 = .ok (.iaload, 1) := by decide +kernel
theorem dX4_wrongOf_32 : decode cX4_wrongOf 32 = .ok (.aload_n 0, 1) := by decide +kernel
theorem dX4_wrongOf_33 : decode cX4_wrongOf 33 = .ok (.getfield 31, 3) := by decide +kernel
theorem dX4_wrongOf_36 : decode cX4_wrongOf 36 = .ok (.iload_n 3, 1) := by decide +kernel
theorem dX4_wrongOf_37 : decode cX4_wrongOf 37 = .ok (.iconst 1, 1) := by decide +kernel
theorem dX4_wrongOf_38 : decode cX4_wrongOf 38 = .ok (.iadd, 1) := by decide +kernel
theorem dX4_wrongOf_39 : decode cX4_wrongOf 39 = .ok (.iaload, 1) := by decide +kernel
theorem dX4_wrongOf_40 : decode cX4_wrongOf 40 = .ok (.if_icmp .le 5, 3) := by decide +kernel
theorem dX4_wrongOf_43 : decode cX4_wrongOf 43 = .ok (.iconst 1, 1) := by decide +kernel
theorem dX4_wrongOf_44 : decode cX4_wrongOf 44 = .ok (.ireturn, 1) := by decide +kernel
theorem dX4_wrongOf_45 : decode cX4_wrongOf 45 = .ok (.iinc 3 1, 3) := by decide +kernel
theorem dX4_wrongOf_48 : decode cX4_wrongOf 48 = .ok (.goto (-27), 3) := by decide +kernel
theorem dX4_wrongOf_51 : decode cX4_wrongOf 51 = .ok (.sipush 1000, 3) := by decide +kernel
theorem dX4_wrongOf_54 : decode cX4_wrongOf 54 = .ok (.iload_n 1, 1) := by decide +kernel
theorem dX4_wrongOf_55 : decode cX4_wrongOf 55 = .ok (.imul, 1) := by decide +kernel
theorem dX4_wrongOf_56 : decode cX4_wrongOf 56 = .ok (.istore_n 3, 1) := by decide +kernel
theorem dX4_wrongOf_57 : decode cX4_wrongOf 57 = .ok (.iload_n 3, 1) := by decide +kernel
theorem dX4_wrongOf_58 : decode cX4_wrongOf 58 = .ok (.iload_n 2, 1) := by decide +kernel
theorem dX4_wrongOf_59 : decode cX4_wrongOf 59 = .ok (.if_icmp .gt 30, 3) := by decide +kernel
theorem dX4_wrongOf_62 : decode cX4_wrongOf 62 = .ok (.aload_n 0, 1) := by decide +kernel
theorem dX4_wrongOf_63 : decode cX4_wrongOf 63 = .ok (.getfield 34, 3) := by decide +kernel
theorem dX4_wrongOf_66 : decode cX4_wrongOf 66 = .ok (.iload_n 3, 1) := by decide +kernel
theorem dX4_wrongOf_67 : decode cX4_wrongOf 67 = .ok (.iaload, 1) := by decide +kernel
theorem dX4_wrongOf_68 : decode cX4_wrongOf 68 = .ok (.iconst 1, 1) := by decide +kernel
theorem dX4_wrongOf_69 : decode cX4_wrongOf 69 = .ok (.if_icmp .lt 12, 3) := by decide +kernel
theorem dX4_wrongOf_72 : decode cX4_wrongOf 72 = .ok (.aload_n 0, 1) := by decide +kernel
theorem dX4_wrongOf_73 : decode cX4_wrongOf 73 = .ok (.getfield 37, 3) := by decide +kernel
theorem dX4_wrongOf_76 : decode cX4_wrongOf 76 = .ok (.iload_n 3, 1) := by decide +kernel
theorem dX4_wrongOf_77 : decode cX4_wrongOf 77 = .ok (.iaload, 1) := by decide +kernel
theorem dX4_wrongOf_78 : decode cX4_wrongOf 78 = .ok (.ifCond .ge 5, 3) := by decide +kernel
theorem dX4_wrongOf_81 : decode cX4_wrongOf 81 = .ok (.iconst 2, 1) := by decide +kernel
theorem dX4_wrongOf_82 : decode cX4_wrongOf 82 = .ok (.ireturn, 1) := by decide +kernel
theorem dX4_wrongOf_83 : decode cX4_wrongOf 83 = .ok (.iinc 3 1, 3) := by decide +kernel
theorem dX4_wrongOf_86 : decode cX4_wrongOf 86 = .ok (.goto (-29), 3) := by decide +kernel
theorem dX4_wrongOf_89 : decode cX4_wrongOf 89 = .ok (.aload_n 0, 1) := by decide +kernel
theorem dX4_wrongOf_90 : decode cX4_wrongOf 90 = .ok (.iload_n 1, 1) := by decide +kernel
theorem dX4_wrongOf_91 : decode cX4_wrongOf 91 = .ok (.iconst 0, 1) := by decide +kernel
theorem dX4_wrongOf_92 : decode cX4_wrongOf 92 = .ok (.aload_n 0, 1) := by decide +kernel
theorem dX4_wrongOf_93 : decode cX4_wrongOf 93 = .ok (.getfield 40, 3) := by decide +kernel
theorem dX4_wrongOf_96 : decode cX4_wrongOf 96 = .ok (.iload_n 1, 1) := by decide +kernel
theorem dX4_wrongOf_97 : decode cX4_wrongOf 97 = .ok (.iaload, 1) := by decide +kernel
theorem dX4_wrongOf_98 : decode cX4_wrongOf 98 = .ok (.iconst 1, 1) := by decide +kernel
theorem dX4_wrongOf_99 : decode cX4_wrongOf 99 = .ok (.isub, 1) := by decide +kernel
theorem dX4_wrongOf_100 : decode cX4_wrongOf 100 = .ok (.invokevirtual 231, 3) := by decide +kernel
theorem dX4_wrongOf_103 : decode cX4_wrongOf 103 = .ok (.aload_n 0, 1) := by decide +kernel
theorem dX4_wrongOf_104 : decode cX4_wrongOf 104 = .ok (.getfield 43, 3) := by decide +kernel
theorem dX4_wrongOf_107 : decode cX4_wrongOf 107 = .ok (.iload_n 1, 1) := by decide +kernel
theorem dX4_wrongOf_108 : decode cX4_wrongOf 108 = .ok (.iaload, 1) := by decide +kernel
theorem dX4_wrongOf_109 : decode cX4_wrongOf 109 = .ok (.if_icmp .eq 5, 3) := by decide +kernel
theorem dX4_wrongOf_112 : decode cX4_wrongOf 112 = .ok (.iconst 3, 1) := by decide +kernel
theorem dX4_wrongOf_113 : decode cX4_wrongOf 113 = .ok (.ireturn, 1) := by decide +kernel
theorem dX4_wrongOf_114 : decode cX4_wrongOf 114 = .ok (.aload_n 0, 1) := by decide +kernel
theorem dX4_wrongOf_115 : decode cX4_wrongOf 115 = .ok (.iload_n 1, 1) := by decide +kernel
theorem dX4_wrongOf_116 : decode cX4_wrongOf 116 = .ok (.invokevirtual 251, 3) := by decide +kernel
theorem dX4_wrongOf_119 : decode cX4_wrongOf 119 = .ok (.aload_n 0, 1) := by decide +kernel
theorem dX4_wrongOf_120 : decode cX4_wrongOf 120 = .ok (.iload_n 1, 1) := by decide +kernel
theorem dX4_wrongOf_121 : decode cX4_wrongOf 121 = .ok (.invokevirtual 237, 3) := by decide +kernel
theorem dX4_wrongOf_124 : decode cX4_wrongOf 124 = .ok (.if_icmp .le 5, 3) := by decide +kernel
theorem dX4_wrongOf_127 : decode cX4_wrongOf 127 = .ok (.iconst 4, 1) := by decide +kernel
theorem dX4_wrongOf_128 : decode cX4_wrongOf 128 = .ok (.ireturn, 1) := by decide +kernel
theorem dX4_wrongOf_129 : decode cX4_wrongOf 129 = .ok (.aload_n 0, 1) := by decide +kernel
theorem dX4_wrongOf_130 : decode cX4_wrongOf 130 = .ok (.getfield 40, 3) := by decide +kernel
theorem dX4_wrongOf_133 : decode cX4_wrongOf 133 = .ok (.iload_n 1, 1) := by decide +kernel
theorem dX4_wrongOf_134 : decode cX4_wrongOf 134 = .ok (.iaload, 1) := by decide +kernel
theorem dX4_wrongOf_135 : decode cX4_wrongOf 135 = .ok (.ifCond .le 43, 3) := by decide +kernel
theorem dX4_wrongOf_138 : decode cX4_wrongOf 138 = .ok (.aload_n 0, 1) := by decide +kernel
theorem dX4_wrongOf_139 : decode cX4_wrongOf 139 = .ok (.getfield 34, 3) := by decide +kernel
theorem dX4_wrongOf_142 : decode cX4_wrongOf 142 = .ok (.sipush 1000, 3) := by decide +kernel
theorem dX4_wrongOf_145 : decode cX4_wrongOf 145 = .ok (.iload_n 1, 1) := by decide +kernel
theorem dX4_wrongOf_146 : decode cX4_wrongOf 146 = .ok (.imul, 1) := by decide +kernel
theorem dX4_wrongOf_147 : decode cX4_wrongOf 147 = .ok (.iaload, 1) := by decide +kernel
theorem dX4_wrongOf_148 : decode cX4_wrongOf 148 = .ok (.iconst 1, 1) := by decide +kernel
theorem dX4_wrongOf_149 : decode cX4_wrongOf 149 = .ok (.if_icmp .ne 25, 3) := by decide +kernel
theorem dX4_wrongOf_152 : decode cX4_wrongOf 152 = .ok (.aload_n 0, 1) := by decide +kernel
theorem dX4_wrongOf_153 : decode cX4_wrongOf 153 = .ok (.getfield 37, 3) := by decide +kernel
theorem dX4_wrongOf_156 : decode cX4_wrongOf 156 = .ok (.sipush 1000, 3) := by decide +kernel
theorem dX4_wrongOf_159 : decode cX4_wrongOf 159 = .ok (.iload_n 1, 1) := by decide +kernel
theorem dX4_wrongOf_160 : decode cX4_wrongOf 160 = .ok (.imul, 1) := by decide +kernel
theorem dX4_wrongOf_161 : decode cX4_wrongOf 161 = .ok (.iaload, 1) := by decide +kernel
theorem dX4_wrongOf_162 : decode cX4_wrongOf 162 = .ok (.ifCond .ne 12, 3) := by decide +kernel
theorem dX4_wrongOf_165 : decode cX4_wrongOf 165 = .ok (.aload_n 0, 1) := by decide +kernel
theorem dX4_wrongOf_166 : decode cX4_wrongOf 166 = .ok (.getfield 37, 3) := by decide +kernel
theorem dX4_wrongOf_169 : decode cX4_wrongOf 169 = .ok (.iload_n 2, 1) := by decide +kernel
theorem dX4_wrongOf_170 : decode cX4_wrongOf 170 = .ok (.iaload, 1) := by decide +kernel
theorem dX4_wrongOf_171 : decode cX4_wrongOf 171 = .ok (.ifCond .eq 7, 3) := by decide +kernel
theorem dX4_wrongOf_174 : decode cX4_wrongOf 174 = .ok (.iconst 5, 1) := by decide +kernel
theorem dX4_wrongOf_175 : decode cX4_wrongOf 175 = .ok (.goto 4, 3) := by decide +kernel
theorem dX4_wrongOf_178 : decode cX4_wrongOf 178 = .ok (.iconst 0, 1) := by decide +kernel
theorem dX4_wrongOf_179 : decode cX4_wrongOf 179 = .ok (.ireturn, 1) := by decide +kernel
theorem dX4_check_0 : decode cX4_check 0 = .ok (.aload_n 0, 1) := by decide +kernel
theorem dX4_check_1 : decode cX4_check 1 = .ok (.iconst 0, 1) := by decide +kernel
theorem dX4_check_2 : decode cX4_check 2 = .ok (.putfield 61, 3) := by decide +kernel
theorem dX4_check_5 : decode cX4_check 5 = .ok (.aload_n 0, 1) := by decide +kernel
theorem dX4_check_6 : decode cX4_check 6 = .ok (.iload_n 1, 1) := by decide +kernel
theorem dX4_check_7 : decode cX4_check 7 = .ok (.invokevirtual 247, 3) := by decide +kernel
theorem dX4_check_10 : decode cX4_check 10 = .ok (.ifCond .eq 15, 3) := by decide +kernel
theorem dX4_check_13 : decode cX4_check 13 = .ok (.aload_n 0, 1) := by decide +kernel
theorem dX4_check_14 : decode cX4_check 14 = .ok (.aload_n 0, 1) := by decide +kernel
theorem dX4_check_15 : decode cX4_check 15 = .ok (.iload_n 1, 1) := by decide +kernel
theorem dX4_check_16 : decode cX4_check 16 = .ok (.invokevirtual 267, 3) := by decide +kernel
theorem dX4_check_19 : decode cX4_check 19 = .ok (.invokevirtual 195, 3) := by decide +kernel
theorem dX4_check_22 : decode cX4_check 22 = .ok (.goto 8, 3) := by decide +kernel
theorem dX4_check_25 : decode cX4_check 25 = .ok (.aload_n 0, 1) := by decide +kernel
theorem dX4_check_26 : decode cX4_check 26 = .ok (.iconst 1, 1) := by decide +kernel
theorem dX4_check_27 : decode cX4_check 27 = .ok (.invokevirtual 179, 3) := by decide +kernel
theorem dX4_check_30 : decode cX4_check 30 = .ok (.ireturn, 1) := by decide +kernel
theorem dX4_answers_0 : decode cX4_answers 0 = .ok (.iconst (-1), 1) := by decide +kernel
theorem dX4_answers_1 : decode cX4_answers 1 = .ok (.istore_n 3, 1) := by decide +kernel
theorem dX4_answers_2 : decode cX4_answers 2 = .ok (.iconst 0, 1) := by decide +kernel
theorem dX4_answers_3 : decode cX4_answers 3 = .ok (.istore 4, 2) := by decide +kernel
theorem dX4_answers_5 : decode cX4_answers 5 = .ok (.iconst 0, 1) := by decide +kernel
theorem dX4_answers_6 : decode cX4_answers 6 = .ok (.istore 5, 2) := by decide +kernel
theorem dX4_answers_8 : decode cX4_answers 8 = .ok (.iload 5, 2) := by decide +kernel
theorem dX4_answers_10 : decode cX4_answers 10 = .ok (.aload_n 0, 1) := by decide +kernel
theorem dX4_answers_11 : decode cX4_answers 11 = .ok (.getfield 40, 3) := by decide +kernel
theorem dX4_answers_14 : decode cX4_answers 14 = .ok (.iload_n 1, 1) := by decide +kernel
theorem dX4_answers_15 : decode cX4_answers 15 = .ok (.iaload, 1) := by decide +kernel
theorem dX4_answers_16 : decode cX4_answers 16 = .ok (.if_icmp .ge 95, 3) := by decide +kernel
theorem dX4_answers_19 : decode cX4_answers 19 = .ok (.iload 4, 2) := by decide +kernel
theorem dX4_answers_21 : decode cX4_answers 21 = .ok (.aload_n 0, 1) := by decide +kernel
theorem dX4_answers_22 : decode cX4_answers 22 = .ok (.getfield 34, 3) := by decide +kernel
theorem dX4_answers_25 : decode cX4_answers 25 = .ok (.sipush 1000, 3) := by decide +kernel
theorem dX4_answers_28 : decode cX4_answers 28 = .ok (.iload_n 1, 1) := by decide +kernel
theorem dX4_answers_29 : decode cX4_answers 29 = .ok (.imul, 1) := by decide +kernel
theorem dX4_answers_30 : decode cX4_answers 30 = .ok (.iload 5, 2) := by decide +kernel
theorem dX4_answers_32 : decode cX4_answers 32 = .ok (.iadd, 1) := by decide +kernel
theorem dX4_answers_33 : decode cX4_answers 33 = .ok (.iaload, 1) := by decide +kernel
theorem dX4_answers_34 : decode cX4_answers 34 = .ok (.iadd, 1) := by decide +kernel
theorem dX4_answers_35 : decode cX4_answers 35 = .ok (.istore 4, 2) := by decide +kernel
theorem dX4_answers_37 : decode cX4_answers 37 = .ok (.iload_n 2, 1) := by decide +kernel
theorem dX4_answers_38 : decode cX4_answers 38 = .ok (.iload 4, 2) := by decide +kernel
theorem dX4_answers_40 : decode cX4_answers 40 = .ok (.isub, 1) := by decide +kernel
theorem dX4_answers_41 : decode cX4_answers 41 = .ok (.istore 6, 2) := by decide +kernel
theorem dX4_answers_43 : decode cX4_answers 43 = .ok (.iload 4, 2) := by decide +kernel
theorem dX4_answers_45 : decode cX4_answers 45 = .ok (.aload_n 0, 1) := by decide +kernel
theorem dX4_answers_46 : decode cX4_answers 46 = .ok (.getfield 37, 3) := by decide +kernel
theorem dX4_answers_49 : decode cX4_answers 49 = .ok (.sipush 1000, 3) := by decide +kernel
theorem dX4_answers_52 : decode cX4_answers 52 = .ok (.iload_n 1, 1) := by decide +kernel
theorem dX4_answers_53 : decode cX4_answers 53 = .ok (.imul, 1) := by decide +kernel
theorem dX4_answers_54 : decode cX4_answers 54 = .ok (.iload 5, 2) := by decide +kernel
theorem dX4_answers_56 : decode cX4_answers 56 = .ok (.iadd, 1) := by decide +kernel
theorem dX4_answers_57 : decode cX4_answers 57 = .ok (.iaload, 1) := by decide +kernel
theorem dX4_answers_58 : decode cX4_answers 58 = .ok (.iadd, 1) := by decide +kernel
theorem dX4_answers_59 : decode cX4_answers 59 = .ok (.iload_n 2, 1) := by decide +kernel
theorem dX4_answers_60 : decode cX4_answers 60 = .ok (.isub, 1) := by decide +kernel
theorem dX4_answers_61 : decode cX4_answers 61 = .ok (.istore 7, 2) := by decide +kernel
theorem dX4_answers_63 : decode cX4_answers 63 = .ok (.iload 6, 2) := by decide +kernel
theorem dX4_answers_65 : decode cX4_answers 65 = .ok (.iload 7, 2) := by decide +kernel
theorem dX4_answers_67 : decode cX4_answers 67 = .ok (.if_icmp .le 8, 3) := by decide +kernel
theorem dX4_answers_70 : decode cX4_answers 70 = .ok (.iload 6, 2) := by decide +kernel
theorem dX4_answers_72 : decode cX4_answers 72 = .ok (.goto 5, 3) := by decide +kernel
theorem dX4_answers_75 : decode cX4_answers 75 = .ok (.iload 7, 2) := by decide +kernel
theorem dX4_answers_77 : decode cX4_answers 77 = .ok (.istore 8, 2) := by decide +kernel
theorem dX4_answers_79 : decode cX4_answers 79 = .ok (.iload_n 3, 1) := by decide +kernel
theorem dX4_answers_80 : decode cX4_answers 80 = .ok (.iconst (-1), 1) := by decide +kernel
theorem dX4_answers_81 : decode cX4_answers 81 = .ok (.if_icmp .eq 15, 3) := by decide +kernel
theorem dX4_answers_84 : decode cX4_answers 84 = .ok (.iload 8, 2) := by decide +kernel
theorem dX4_answers_86 : decode cX4_answers 86 = .ok (.aload_n 0, 1) := by decide +kernel
theorem dX4_answers_87 : decode cX4_answers 87 = .ok (.getfield 270, 3) := by decide +kernel
theorem dX4_answers_90 : decode cX4_answers 90 = .ok (.if_icmp .lt 6, 3) := by decide +kernel
theorem dX4_answers_93 : decode cX4_answers 93 = .ok (.goto 12, 3) := by decide +kernel
theorem dX4_answers_96 : decode cX4_answers 96 = .ok (.iload 5, 2) := by decide +kernel
theorem dX4_answers_98 : decode cX4_answers 98 = .ok (.istore_n 3, 1) := by decide +kernel
theorem dX4_answers_99 : decode cX4_answers 99 = .ok (.aload_n 0, 1) := by decide +kernel
theorem dX4_answers_100 : decode cX4_answers 100 = .ok (.iload 8, 2) := by decide +kernel
theorem dX4_answers_102 : decode cX4_answers 102 = .ok (.putfield 270, 3) := by decide +kernel
theorem dX4_answers_105 : decode cX4_answers 105 = .ok (.iinc 5 1, 3) := by decide +kernel
theorem dX4_answers_108 : decode cX4_answers 108 = .ok (.goto (-100), 3) := by decide +kernel
theorem dX4_answers_111 : decode cX4_answers 111 = .ok (.iload_n 3, 1) := by decide +kernel
theorem dX4_answers_112 : decode cX4_answers 112 = .ok (.ireturn, 1) := by decide +kernel
theorem dX4_isPlace_0 : decode cX4_isPlace 0 = .ok (.iload_n 2, 1) := by decide +kernel
theorem dX4_isPlace_1 : decode cX4_isPlace 1 = .ok (.iconst 1, 1) := by decide +kernel
theorem dX4_isPlace_2 : decode cX4_isPlace 2 = .ok (.aload_n 0, 1) := by decide +kernel
theorem dX4_isPlace_3 : decode cX4_isPlace 3 = .ok (.getfield 43, 3) := by decide +kernel
theorem dX4_isPlace_6 : decode cX4_isPlace 6 = .ok (.iload_n 1, 1) := by decide +kernel
theorem dX4_isPlace_7 : decode cX4_isPlace 7 = .ok (.iaload, 1) := by decide +kernel
theorem dX4_isPlace_8 : decode cX4_isPlace 8 = .ok (.invokestatic 86, 3) := by decide +kernel
theorem dX4_isPlace_11 : decode cX4_isPlace 11 = .ok (.ireturn, 1) := by decide +kernel
theorem dX4_answer_0 : decode cX4_answer 0 = .ok (.aload_n 0, 1) := by decide +kernel
theorem dX4_answer_1 : decode cX4_answer 1 = .ok (.iconst 0, 1) := by decide +kernel
theorem dX4_answer_2 : decode cX4_answer 2 = .ok (.putfield 61, 3) := by decide +kernel
theorem dX4_answer_5 : decode cX4_answer 5 = .ok (.aload_n 0, 1) := by decide +kernel
theorem dX4_answer_6 : decode cX4_answer 6 = .ok (.iload_n 1, 1) := by decide +kernel
theorem dX4_answer_7 : decode cX4_answer 7 = .ok (.invokevirtual 247, 3) := by decide +kernel
theorem dX4_answer_10 : decode cX4_answer 10 = .ok (.ifCond .eq 12, 3) := by decide +kernel
theorem dX4_answer_13 : decode cX4_answer 13 = .ok (.iload_n 3, 1) := by decide +kernel
theorem dX4_answer_14 : decode cX4_answer 14 = .ok (.iconst 0, 1) := by decide +kernel
theorem dX4_answer_15 : decode cX4_answer 15 = .ok (.iconst 2, 1) := by decide +kernel
theorem dX4_answer_16 : decode cX4_answer 16 = .ok (.invokestatic 86, 3) := by decide +kernel
theorem dX4_answer_19 : decode cX4_answer 19 = .ok (.ifCond .ne 9, 3) := by decide +kernel
theorem dX4_answer_22 : decode cX4_answer 22 = .ok (.aload_n 0, 1) := by decide +kernel
theorem dX4_answer_23 : decode cX4_answer 23 = .ok (.iconst 1, 1) := by decide +kernel
theorem dX4_answer_24 : decode cX4_answer 24 = .ok (.invokevirtual 179, 3) := by decide +kernel
theorem dX4_answer_27 : decode cX4_answer 27 = .ok (.ireturn, 1) := by decide +kernel
theorem dX4_answer_28 : decode cX4_answer 28 = .ok (.aload_n 0, 1) := by decide +kernel
theorem dX4_answer_29 : decode cX4_answer 29 = .ok (.iload_n 1, 1) := by decide +kernel
theorem dX4_answer_30 : decode cX4_answer 30 = .ok (.iload_n 2, 1) := by decide +kernel
theorem dX4_answer_31 : decode cX4_answer 31 = .ok (.invokevirtual 273, 3) := by decide +kernel
theorem dX4_answer_34 : decode cX4_answer 34 = .ok (.ifCond .ne 9, 3) := by decide +kernel
theorem dX4_answer_37 : decode cX4_answer 37 = .ok (.aload_n 0, 1) := by decide +kernel
theorem dX4_answer_38 : decode cX4_answer 38 = .ok (.iconst 2, 1) := by decide +kernel
theorem dX4_answer_39 : decode cX4_answer 39 = .ok (.invokevirtual 179, 3) := by decide +kernel
theorem dX4_answer_42 : decode cX4_answer 42 = .ok (.ireturn, 1) := by decide +kernel
theorem dX4_answer_43 : decode cX4_answer 43 = .ok (.aload_n 0, 1) := by decide +kernel
theorem dX4_answer_44 : decode cX4_answer 44 = .ok (.iload_n 1, 1) := by decide +kernel
theorem dX4_answer_45 : decode cX4_answer 45 = .ok (.iload_n 2, 1) := by decide +kernel
theorem dX4_answer_46 : decode cX4_answer 46 = .ok (.invokevirtual 276, 3) := by decide +kernel
theorem dX4_answer_49 : decode cX4_answer 49 = .ok (.istore 4, 2) := by decide +kernel
theorem dX4_answer_51 : decode cX4_answer 51 = .ok (.aload_n 0, 1) := by decide +kernel
theorem dX4_answer_52 : decode cX4_answer 52 = .ok (.iload_n 3, 1) := by decide +kernel
theorem dX4_answer_53 : decode cX4_answer 53 = .ok (.ifCond .ne 19, 3) := by decide +kernel
theorem dX4_answer_56 : decode cX4_answer 56 = .ok (.aload_n 0, 1) := by decide +kernel
theorem dX4_answer_57 : decode cX4_answer 57 = .ok (.getfield 31, 3) := by decide +kernel
theorem dX4_answer_60 : decode cX4_answer 60 = .ok (.sipush 1000, 3) := by decide +kernel
theorem dX4_answer_63 : decode cX4_answer 63 = .ok (.iload_n 1, 1) := by decide +kernel
theorem dX4_answer_64 : decode cX4_answer 64 = .ok (.imul, 1) := by decide +kernel
theorem dX4_answer_65 : decode cX4_answer 65 = .ok (.iload 4, 2) := by decide +kernel
theorem dX4_answer_67 : decode cX4_answer 67 = .ok (.iadd, 1) := by decide +kernel
theorem dX4_answer_68 : decode cX4_answer 68 = .ok (.iaload, 1) := by decide +kernel
theorem dX4_answer_69 : decode cX4_answer 69 = .ok (.goto 17, 3) := by decide +kernel
theorem dX4_answer_72 : decode cX4_answer 72 = .ok (.iload_n 3, 1) := by decide +kernel
theorem dX4_answer_73 : decode cX4_answer 73 = .ok (.iconst 1, 1) := by decide +kernel
theorem dX4_answer_74 : decode cX4_answer 74 = .ok (.if_icmp .ne 10, 3) := by decide +kernel
theorem dX4_answer_77 : decode cX4_answer 77 = .ok (.aload_n 0, 1) := by decide +kernel
theorem dX4_answer_78 : decode cX4_answer 78 = .ok (.getfield 270, 3) := by decide +kernel
theorem dX4_answer_81 : decode cX4_answer 81 = .ok (.goto 5, 3) := by decide +kernel
theorem dX4_answer_84 : decode cX4_answer 84 = .ok (.iload 4, 2) := by decide +kernel
theorem dX4_answer_86 : decode cX4_answer 86 = .ok (.invokevirtual 195, 3) := by decide +kernel
theorem dX4_answer_89 : decode cX4_answer 89 = .ok (.ireturn, 1) := by decide +kernel
theorem dX4_quotaPlace_0 : decode cX4_quotaPlace 0 = .ok (.aload_n 0, 1) := by decide +kernel
theorem dX4_quotaPlace_1 : decode cX4_quotaPlace 1 = .ok (.getfield 43, 3) := by decide +kernel
theorem dX4_quotaPlace_4 : decode cX4_quotaPlace 4 = .ok (.iload_n 1, 1) := by decide +kernel
theorem dX4_quotaPlace_5 : decode cX4_quotaPlace 5 = .ok (.iaload, 1) := by decide +kernel
theorem dX4_quotaPlace_6 : decode cX4_quotaPlace 6 = .ok (.iload_n 2, 1) := by decide +kernel
theorem dX4_quotaPlace_7 : decode cX4_quotaPlace 7 = .ok (.imul, 1) := by decide +kernel
theorem dX4_quotaPlace_8 : decode cX4_quotaPlace 8 = .ok (.iload_n 3, 1) := by decide +kernel
theorem dX4_quotaPlace_9 : decode cX4_quotaPlace 9 = .ok (.iadd, 1) := by decide +kernel
theorem dX4_quotaPlace_10 : decode cX4_quotaPlace 10 = .ok (.iconst 1, 1) := by decide +kernel
theorem dX4_quotaPlace_11 : decode cX4_quotaPlace 11 = .ok (.isub, 1) := by decide +kernel
theorem dX4_quotaPlace_12 : decode cX4_quotaPlace 12 = .ok (.iload_n 3, 1) := by decide +kernel
theorem dX4_quotaPlace_13 : decode cX4_quotaPlace 13 = .ok (.idiv, 1) := by decide +kernel
theorem dX4_quotaPlace_14 : decode cX4_quotaPlace 14 = .ok (.istore 4, 2) := by decide +kernel
theorem dX4_quotaPlace_16 : decode cX4_quotaPlace 16 = .ok (.iload 4, 2) := by decide +kernel
theorem dX4_quotaPlace_18 : decode cX4_quotaPlace 18 = .ok (.ifCond .ne 7, 3) := by decide +kernel
theorem dX4_quotaPlace_21 : decode cX4_quotaPlace 21 = .ok (.iconst 1, 1) := by decide +kernel
theorem dX4_quotaPlace_22 : decode cX4_quotaPlace 22 = .ok (.goto 5, 3) := by decide +kernel
theorem dX4_quotaPlace_25 : decode cX4_quotaPlace 25 = .ok (.iload 4, 2) := by decide +kernel
theorem dX4_quotaPlace_27 : decode cX4_quotaPlace 27 = .ok (.ireturn, 1) := by decide +kernel
theorem dX4_quotaValue_0 : decode cX4_quotaValue 0 = .ok (.aload_n 0, 1) := by decide +kernel
theorem dX4_quotaValue_1 : decode cX4_quotaValue 1 = .ok (.getfield 31, 3) := by decide +kernel
theorem dX4_quotaValue_4 : decode cX4_quotaValue 4 = .ok (.sipush 1000, 3) := by decide +kernel
theorem dX4_quotaValue_7 : decode cX4_quotaValue 7 = .ok (.iload_n 1, 1) := by decide +kernel
theorem dX4_quotaValue_8 : decode cX4_quotaValue 8 = .ok (.imul, 1) := by decide +kernel
theorem dX4_quotaValue_9 : decode cX4_quotaValue 9 = .ok (.aload_n 0, 1) := by decide +kernel
theorem dX4_quotaValue_10 : decode cX4_quotaValue 10 = .ok (.iload_n 1, 1) := by decide +kernel
theorem dX4_quotaValue_11 : decode cX4_quotaValue 11 = .ok (.aload_n 0, 1) := by decide +kernel
theorem dX4_quotaValue_12 : decode cX4_quotaValue 12 = .ok (.iload_n 1, 1) := by decide +kernel
theorem dX4_quotaValue_13 : decode cX4_quotaValue 13 = .ok (.iload_n 2, 1) := by decide +kernel
theorem dX4_quotaValue_14 : decode cX4_quotaValue 14 = .ok (.iload_n 3, 1) := by decide +kernel
theorem dX4_quotaValue_15 : decode cX4_quotaValue 15 = .ok (.invokevirtual 279, 3) := by decide +kernel
theorem dX4_quotaValue_18 : decode cX4_quotaValue 18 = .ok (.invokevirtual 276, 3) := by decide +kernel
theorem dX4_quotaValue_21 : decode cX4_quotaValue 21 = .ok (.iadd, 1) := by decide +kernel
theorem dX4_quotaValue_22 : decode cX4_quotaValue 22 = .ok (.iaload, 1) := by decide +kernel
theorem dX4_quotaValue_23 : decode cX4_quotaValue 23 = .ok (.ireturn, 1) := by decide +kernel
theorem dX4_barOf_0 : decode cX4_barOf 0 = .ok (.aload_n 0, 1) := by decide +kernel
theorem dX4_barOf_1 : decode cX4_barOf 1 = .ok (.iload_n 1, 1) := by decide +kernel
theorem dX4_barOf_2 : decode cX4_barOf 2 = .ok (.iload_n 2, 1) := by decide +kernel
theorem dX4_barOf_3 : decode cX4_barOf 3 = .ok (.iload_n 3, 1) := by decide +kernel
theorem dX4_barOf_4 : decode cX4_barOf 4 = .ok (.invokevirtual 282, 3) := by decide +kernel
theorem dX4_barOf_7 : decode cX4_barOf 7 = .ok (.istore 5, 2) := by decide +kernel
theorem dX4_barOf_9 : decode cX4_barOf 9 = .ok (.aload_n 0, 1) := by decide +kernel
theorem dX4_barOf_10 : decode cX4_barOf 10 = .ok (.iload_n 1, 1) := by decide +kernel
theorem dX4_barOf_11 : decode cX4_barOf 11 = .ok (.iload_n 2, 1) := by decide +kernel
theorem dX4_barOf_12 : decode cX4_barOf 12 = .ok (.iconst 1, 1) := by decide +kernel
theorem dX4_barOf_13 : decode cX4_barOf 13 = .ok (.iadd, 1) := by decide +kernel
theorem dX4_barOf_14 : decode cX4_barOf 14 = .ok (.iload_n 3, 1) := by decide +kernel
theorem dX4_barOf_15 : decode cX4_barOf 15 = .ok (.invokevirtual 282, 3) := by decide +kernel
theorem dX4_barOf_18 : decode cX4_barOf 18 = .ok (.istore 6, 2) := by decide +kernel
theorem dX4_barOf_20 : decode cX4_barOf 20 = .ok (.iload 4, 2) := by decide +kernel
theorem dX4_barOf_22 : decode cX4_barOf 22 = .ok (.ifCond .eq 19, 3) := by decide +kernel
theorem dX4_barOf_25 : decode cX4_barOf 25 = .ok (.aload_n 0, 1) := by decide +kernel
theorem dX4_barOf_26 : decode cX4_barOf 26 = .ok (.iload_n 1, 1) := by decide +kernel
theorem dX4_barOf_27 : decode cX4_barOf 27 = .ok (.iload 6, 2) := by decide +kernel
theorem dX4_barOf_29 : decode cX4_barOf 29 = .ok (.invokevirtual 285, 3) := by decide +kernel
theorem dX4_barOf_32 : decode cX4_barOf 32 = .ok (.aload_n 0, 1) := by decide +kernel
theorem dX4_barOf_33 : decode cX4_barOf 33 = .ok (.iload_n 1, 1) := by decide +kernel
theorem dX4_barOf_34 : decode cX4_barOf 34 = .ok (.iload 5, 2) := by decide +kernel
theorem dX4_barOf_36 : decode cX4_barOf 36 = .ok (.invokevirtual 288, 3) := by decide +kernel
theorem dX4_barOf_39 : decode cX4_barOf 39 = .ok (.isub, 1) := by decide +kernel
theorem dX4_barOf_40 : decode cX4_barOf 40 = .ok (.ireturn, 1) := by decide +kernel
theorem dX4_barOf_41 : decode cX4_barOf 41 = .ok (.aload_n 0, 1) := by decide +kernel
theorem dX4_barOf_42 : decode cX4_barOf 42 = .ok (.iload_n 1, 1) := by decide +kernel
theorem dX4_barOf_43 : decode cX4_barOf 43 = .ok (.iload 6, 2) := by decide +kernel
theorem dX4_barOf_45 : decode cX4_barOf 45 = .ok (.invokevirtual 288, 3) := by decide +kernel
theorem dX4_barOf_48 : decode cX4_barOf 48 = .ok (.aload_n 0, 1) := by decide +kernel
theorem dX4_barOf_49 : decode cX4_barOf 49 = .ok (.iload_n 1, 1) := by decide +kernel
theorem dX4_barOf_50 : decode cX4_barOf 50 = .ok (.iload 5, 2) := by decide +kernel
theorem dX4_barOf_52 : decode cX4_barOf 52 = .ok (.invokevirtual 285, 3) := by decide +kernel
theorem dX4_barOf_55 : decode cX4_barOf 55 = .ok (.isub, 1) := by decide +kernel
theorem dX4_barOf_56 : decode cX4_barOf 56 = .ok (.istore 7, 2) := by decide +kernel
theorem dX4_barOf_58 : decode cX4_barOf 58 = .ok (.iload 7, 2) := by decide +kernel
theorem dX4_barOf_60 : decode cX4_barOf 60 = .ok (.ifCond .ge 7, 3) := by decide +kernel
theorem dX4_barOf_63 : decode cX4_barOf 63 = .ok (.iconst 0, 1) := by decide +kernel
theorem dX4_barOf_64 : decode cX4_barOf 64 = .ok (.goto 5, 3) := by decide +kernel
theorem dX4_barOf_67 : decode cX4_barOf 67 = .ok (.iload 7, 2) := by decide +kernel
theorem dX4_barOf_69 : decode cX4_barOf 69 = .ok (.ireturn, 1) := by decide +kernel
theorem dX4_bar_0 : decode cX4_bar 0 = .ok (.aload_n 0, 1) := by decide +kernel
theorem dX4_bar_1 : decode cX4_bar 1 = .ok (.iconst 0, 1) := by decide +kernel
theorem dX4_bar_2 : decode cX4_bar 2 = .ok (.putfield 61, 3) := by decide +kernel
theorem dX4_bar_5 : decode cX4_bar 5 = .ok (.aload_n 0, 1) := by decide +kernel
theorem dX4_bar_6 : decode cX4_bar 6 = .ok (.iload_n 1, 1) := by decide +kernel
theorem dX4_bar_7 : decode cX4_bar 7 = .ok (.invokevirtual 247, 3) := by decide +kernel
theorem dX4_bar_10 : decode cX4_bar 10 = .ok (.ifCond .ne 9, 3) := by decide +kernel
theorem dX4_bar_13 : decode cX4_bar 13 = .ok (.aload_n 0, 1) := by decide +kernel
theorem dX4_bar_14 : decode cX4_bar 14 = .ok (.iconst 1, 1) := by decide +kernel
theorem dX4_bar_15 : decode cX4_bar 15 = .ok (.invokevirtual 179, 3) := by decide +kernel
theorem dX4_bar_18 : decode cX4_bar 18 = .ok (.ireturn, 1) := by decide +kernel
theorem dX4_bar_19 : decode cX4_bar 19 = .ok (.iload_n 3, 1) := by decide +kernel
theorem dX4_bar_20 : decode cX4_bar 20 = .ok (.iconst 1, 1) := by decide +kernel
theorem dX4_bar_21 : decode cX4_bar 21 = .ok (.bipush 100, 2) := by decide +kernel
theorem dX4_bar_23 : decode cX4_bar 23 = .ok (.invokestatic 86, 3) := by decide +kernel
theorem dX4_bar_26 : decode cX4_bar 26 = .ok (.ifCond .eq 14, 3) := by decide +kernel
theorem dX4_bar_29 : decode cX4_bar 29 = .ok (.iload_n 2, 1) := by decide +kernel
theorem dX4_bar_30 : decode cX4_bar 30 = .ok (.iconst 0, 1) := by decide +kernel
theorem dX4_bar_31 : decode cX4_bar 31 = .ok (.iload_n 3, 1) := by decide +kernel
theorem dX4_bar_32 : decode cX4_bar 32 = .ok (.iconst 1, 1) := by decide +kernel
theorem dX4_bar_33 : decode cX4_bar 33 = .ok (.isub, 1) := by decide +kernel
theorem dX4_bar_34 : decode cX4_bar 34 = .ok (.invokestatic 86, 3) := by decide +kernel
theorem dX4_bar_37 : decode cX4_bar 37 = .ok (.ifCond .ne 9, 3) := by decide +kernel
theorem dX4_bar_40 : decode cX4_bar 40 = .ok (.aload_n 0, 1) := by decide +kernel
theorem dX4_bar_41 : decode cX4_bar 41 = .ok (.iconst 2, 1) := by decide +kernel
theorem dX4_bar_42 : decode cX4_bar 42 = .ok (.invokevirtual 179, 3) := by decide +kernel
theorem dX4_bar_45 : decode cX4_bar 45 = .ok (.ireturn, 1) := by decide +kernel
theorem dX4_bar_46 : decode cX4_bar 46 = .ok (.aload_n 0, 1) := by decide +kernel
theorem dX4_bar_47 : decode cX4_bar 47 = .ok (.getfield 43, 3) := by decide +kernel
theorem dX4_bar_50 : decode cX4_bar 50 = .ok (.iload_n 1, 1) := by decide +kernel
theorem dX4_bar_51 : decode cX4_bar 51 = .ok (.iaload, 1) := by decide +kernel
theorem dX4_bar_52 : decode cX4_bar 52 = .ok (.ifCond .ne 11, 3) := by decide +kernel
theorem dX4_bar_55 : decode cX4_bar 55 = .ok (.aload_n 0, 1) := by decide +kernel
theorem dX4_bar_56 : decode cX4_bar 56 = .ok (.iconst 5, 1) := by decide +kernel
theorem dX4_bar_57 : decode cX4_bar 57 = .ok (.invokevirtual 179, 3) := by decide +kernel
theorem dX4_bar_60 : decode cX4_bar 60 = .ok (.goto 16, 3) := by decide +kernel
theorem dX4_bar_63 : decode cX4_bar 63 = .ok (.aload_n 0, 1) := by decide +kernel
theorem dX4_bar_64 : decode cX4_bar 64 = .ok (.aload_n 0, 1) := by decide +kernel
theorem dX4_bar_65 : decode cX4_bar 65 = .ok (.iload_n 1, 1) := by decide +kernel
theorem dX4_bar_66 : decode cX4_bar 66 = .ok (.iload_n 2, 1) := by decide +kernel
theorem dX4_bar_67 : decode cX4_bar 67 = .ok (.iload_n 3, 1) := by decide +kernel
theorem dX4_bar_68 : decode cX4_bar 68 = .ok (.iload 4, 2) := by decide +kernel
theorem dX4_bar_70 : decode cX4_bar 70 = .ok (.invokevirtual 291, 3) := by decide +kernel
theorem dX4_bar_73 : decode cX4_bar 73 = .ok (.invokevirtual 195, 3) := by decide +kernel
theorem dX4_bar_76 : decode cX4_bar 76 = .ok (.ireturn, 1) := by decide +kernel
theorem dX4_uneven_0 : decode cX4_uneven 0 = .ok (.aload_n 0, 1) := by decide +kernel
theorem dX4_uneven_1 : decode cX4_uneven 1 = .ok (.iconst 0, 1) := by decide +kernel
theorem dX4_uneven_2 : decode cX4_uneven 2 = .ok (.putfield 61, 3) := by decide +kernel
theorem dX4_uneven_5 : decode cX4_uneven 5 = .ok (.aload_n 0, 1) := by decide +kernel
theorem dX4_uneven_6 : decode cX4_uneven 6 = .ok (.iload_n 1, 1) := by decide +kernel
theorem dX4_uneven_7 : decode cX4_uneven 7 = .ok (.invokevirtual 247, 3) := by decide +kernel
theorem dX4_uneven_10 : decode cX4_uneven 10 = .ok (.ifCond .ne 9, 3) := by decide +kernel
theorem dX4_uneven_13 : decode cX4_uneven 13 = .ok (.aload_n 0, 1) := by decide +kernel
theorem dX4_uneven_14 : decode cX4_uneven 14 = .ok (.iconst 1, 1) := by decide +kernel
theorem dX4_uneven_15 : decode cX4_uneven 15 = .ok (.invokevirtual 179, 3) := by decide +kernel
theorem dX4_uneven_18 : decode cX4_uneven 18 = .ok (.ireturn, 1) := by decide +kernel
theorem dX4_uneven_19 : decode cX4_uneven 19 = .ok (.iload_n 2, 1) := by decide +kernel
theorem dX4_uneven_20 : decode cX4_uneven 20 = .ok (.iconst 1, 1) := by decide +kernel
theorem dX4_uneven_21 : decode cX4_uneven 21 = .ok (.bipush 100, 2) := by decide +kernel
theorem dX4_uneven_23 : decode cX4_uneven 23 = .ok (.invokestatic 86, 3) := by decide +kernel
theorem dX4_uneven_26 : decode cX4_uneven 26 = .ok (.ifCond .ne 9, 3) := by decide +kernel
theorem dX4_uneven_29 : decode cX4_uneven 29 = .ok (.aload_n 0, 1) := by decide +kernel
theorem dX4_uneven_30 : decode cX4_uneven 30 = .ok (.iconst 2, 1) := by decide +kernel
theorem dX4_uneven_31 : decode cX4_uneven 31 = .ok (.invokevirtual 179, 3) := by decide +kernel
theorem dX4_uneven_34 : decode cX4_uneven 34 = .ok (.ireturn, 1) := by decide +kernel
theorem dX4_uneven_35 : decode cX4_uneven 35 = .ok (.aload_n 0, 1) := by decide +kernel
theorem dX4_uneven_36 : decode cX4_uneven 36 = .ok (.getfield 43, 3) := by decide +kernel
theorem dX4_uneven_39 : decode cX4_uneven 39 = .ok (.iload_n 1, 1) := by decide +kernel
theorem dX4_uneven_40 : decode cX4_uneven 40 = .ok (.iaload, 1) := by decide +kernel
theorem dX4_uneven_41 : decode cX4_uneven 41 = .ok (.ifCond .ne 9, 3) := by decide +kernel
theorem dX4_uneven_44 : decode cX4_uneven 44 = .ok (.aload_n 0, 1) := by decide +kernel
theorem dX4_uneven_45 : decode cX4_uneven 45 = .ok (.iconst 5, 1) := by decide +kernel
theorem dX4_uneven_46 : decode cX4_uneven 46 = .ok (.invokevirtual 179, 3) := by decide +kernel
theorem dX4_uneven_49 : decode cX4_uneven 49 = .ok (.ireturn, 1) := by decide +kernel
theorem dX4_uneven_50 : decode cX4_uneven 50 = .ok (.iconst 0, 1) := by decide +kernel
theorem dX4_uneven_51 : decode cX4_uneven 51 = .ok (.istore_n 3, 1) := by decide +kernel
theorem dX4_uneven_52 : decode cX4_uneven 52 = .ok (.sipush 1000, 3) := by decide +kernel
theorem dX4_uneven_55 : decode cX4_uneven 55 = .ok (.istore 4, 2) := by decide +kernel
theorem dX4_uneven_57 : decode cX4_uneven 57 = .ok (.iconst 0, 1) := by decide +kernel
theorem dX4_uneven_58 : decode cX4_uneven 58 = .ok (.istore 5, 2) := by decide +kernel
theorem dX4_uneven_60 : decode cX4_uneven 60 = .ok (.iload 5, 2) := by decide +kernel
theorem dX4_uneven_62 : decode cX4_uneven 62 = .ok (.iload_n 2, 1) := by decide +kernel
theorem dX4_uneven_63 : decode cX4_uneven 63 = .ok (.if_icmp .ge 51, 3) := by decide +kernel
theorem dX4_uneven_66 : decode cX4_uneven 66 = .ok (.aload_n 0, 1) := by decide +kernel
theorem dX4_uneven_67 : decode cX4_uneven 67 = .ok (.iload_n 1, 1) := by decide +kernel
theorem dX4_uneven_68 : decode cX4_uneven 68 = .ok (.iload 5, 2) := by decide +kernel
theorem dX4_uneven_70 : decode cX4_uneven 70 = .ok (.iload_n 2, 1) := by decide +kernel
theorem dX4_uneven_71 : decode cX4_uneven 71 = .ok (.iconst 1, 1) := by decide +kernel
theorem dX4_uneven_72 : decode cX4_uneven 72 = .ok (.invokevirtual 291, 3) := by decide +kernel
theorem dX4_uneven_75 : decode cX4_uneven 75 = .ok (.istore 6, 2) := by decide +kernel
theorem dX4_uneven_77 : decode cX4_uneven 77 = .ok (.aload_n 0, 1) := by decide +kernel
theorem dX4_uneven_78 : decode cX4_uneven 78 = .ok (.iload_n 1, 1) := by decide +kernel
theorem dX4_uneven_79 : decode cX4_uneven 79 = .ok (.iload 5, 2) := by decide +kernel
theorem dX4_uneven_81 : decode cX4_uneven 81 = .ok (.iload_n 2, 1) := by decide +kernel
theorem dX4_uneven_82 : decode cX4_uneven 82 = .ok (.iconst 0, 1) := by decide +kernel
theorem dX4_uneven_83 : decode cX4_uneven 83 = .ok (.invokevirtual 291, 3) := by decide +kernel
theorem dX4_uneven_86 : decode cX4_uneven 86 = .ok (.istore 7, 2) := by decide +kernel
theorem dX4_uneven_88 : decode cX4_uneven 88 = .ok (.iload 6, 2) := by decide +kernel
theorem dX4_uneven_90 : decode cX4_uneven 90 = .ok (.iload_n 3, 1) := by decide +kernel
theorem dX4_uneven_91 : decode cX4_uneven 91 = .ok (.if_icmp .le 6, 3) := by decide +kernel
theorem dX4_uneven_94 : decode cX4_uneven 94 = .ok (.iload 6, 2) := by decide +kernel
theorem dX4_uneven_96 : decode cX4_uneven 96 = .ok (.istore_n 3, 1) := by decide +kernel
theorem dX4_uneven_97 : decode cX4_uneven 97 = .ok (.iload 7, 2) := by decide +kernel
theorem dX4_uneven_99 : decode cX4_uneven 99 = .ok (.iload 4, 2) := by decide +kernel
theorem dX4_uneven_101 : decode cX4_uneven 101 = .ok (.if_icmp .ge 7, 3) := by decide +kernel
theorem dX4_uneven_104 : decode cX4_uneven 104 = .ok (.iload 7, 2) := by decide +kernel
theorem dX4_uneven_106 : decode cX4_uneven 106 = .ok (.istore 4, 2) := by decide +kernel
theorem dX4_uneven_108 : decode cX4_uneven 108 = .ok (.iinc 5 1, 3) := by decide +kernel
theorem dX4_uneven_111 : decode cX4_uneven 111 = .ok (.goto (-51), 3) := by decide +kernel
theorem dX4_uneven_114 : decode cX4_uneven 114 = .ok (.aload_n 0, 1) := by decide +kernel
theorem dX4_uneven_115 : decode cX4_uneven 115 = .ok (.iload_n 3, 1) := by decide +kernel
theorem dX4_uneven_116 : decode cX4_uneven 116 = .ok (.iload 4, 2) := by decide +kernel
theorem dX4_uneven_118 : decode cX4_uneven 118 = .ok (.isub, 1) := by decide +kernel
theorem dX4_uneven_119 : decode cX4_uneven 119 = .ok (.invokevirtual 195, 3) := by decide +kernel
theorem dX4_uneven_122 : decode cX4_uneven 122 = .ok (.ireturn, 1) := by decide +kernel
theorem dX4_meets_0 : decode cX4_meets 0 = .ok (.aload_n 0, 1) := by decide +kernel
theorem dX4_meets_1 : decode cX4_meets 1 = .ok (.iconst 0, 1) := by decide +kernel
theorem dX4_meets_2 : decode cX4_meets 2 = .ok (.putfield 61, 3) := by decide +kernel
theorem dX4_meets_5 : decode cX4_meets 5 = .ok (.aload_n 0, 1) := by decide +kernel
theorem dX4_meets_6 : decode cX4_meets 6 = .ok (.iload_n 1, 1) := by decide +kernel
theorem dX4_meets_7 : decode cX4_meets 7 = .ok (.iload_n 2, 1) := by decide +kernel
theorem dX4_meets_8 : decode cX4_meets 8 = .ok (.invokevirtual 295, 3) := by decide +kernel
theorem dX4_meets_11 : decode cX4_meets 11 = .ok (.ifCond .eq 13, 3) := by decide +kernel
theorem dX4_meets_14 : decode cX4_meets 14 = .ok (.iload 4, 2) := by decide +kernel
theorem dX4_meets_16 : decode cX4_meets 16 = .ok (.iconst 0, 1) := by decide +kernel
theorem dX4_meets_17 : decode cX4_meets 17 = .ok (.iconst 2, 1) := by decide +kernel
theorem dX4_meets_18 : decode cX4_meets 18 = .ok (.invokestatic 86, 3) := by decide +kernel
theorem dX4_meets_21 : decode cX4_meets 21 = .ok (.ifCond .ne 9, 3) := by decide +kernel
theorem dX4_meets_24 : decode cX4_meets 24 = .ok (.aload_n 0, 1) := by decide +kernel
theorem dX4_meets_25 : decode cX4_meets 25 = .ok (.iconst 1, 1) := by decide +kernel
theorem dX4_meets_26 : decode cX4_meets 26 = .ok (.invokevirtual 179, 3) := by decide +kernel
theorem dX4_meets_29 : decode cX4_meets 29 = .ok (.ireturn, 1) := by decide +kernel
theorem dX4_meets_30 : decode cX4_meets 30 = .ok (.iload_n 3, 1) := by decide +kernel
theorem dX4_meets_31 : decode cX4_meets 31 = .ok (.iconst 1, 1) := by decide +kernel
theorem dX4_meets_32 : decode cX4_meets 32 = .ok (.bipush 100, 2) := by decide +kernel
theorem dX4_meets_34 : decode cX4_meets 34 = .ok (.invokestatic 86, 3) := by decide +kernel
theorem dX4_meets_37 : decode cX4_meets 37 = .ok (.ifCond .ne 9, 3) := by decide +kernel
theorem dX4_meets_40 : decode cX4_meets 40 = .ok (.aload_n 0, 1) := by decide +kernel
theorem dX4_meets_41 : decode cX4_meets 41 = .ok (.iconst 2, 1) := by decide +kernel
theorem dX4_meets_42 : decode cX4_meets 42 = .ok (.invokevirtual 179, 3) := by decide +kernel
theorem dX4_meets_45 : decode cX4_meets 45 = .ok (.ireturn, 1) := by decide +kernel
theorem dX4_meets_46 : decode cX4_meets 46 = .ok (.aload_n 0, 1) := by decide +kernel
theorem dX4_meets_47 : decode cX4_meets 47 = .ok (.getfield 43, 3) := by decide +kernel
theorem dX4_meets_50 : decode cX4_meets 50 = .ok (.iload_n 1, 1) := by decide +kernel
theorem dX4_meets_51 : decode cX4_meets 51 = .ok (.iaload, 1) := by decide +kernel
theorem dX4_meets_52 : decode cX4_meets 52 = .ok (.ifCond .eq 12, 3) := by decide +kernel
theorem dX4_meets_55 : decode cX4_meets 55 = .ok (.aload_n 0, 1) := by decide +kernel
theorem dX4_meets_56 : decode cX4_meets 56 = .ok (.getfield 43, 3) := by decide +kernel
theorem dX4_meets_59 : decode cX4_meets 59 = .ok (.iload_n 2, 1) := by decide +kernel
theorem dX4_meets_60 : decode cX4_meets 60 = .ok (.iaload, 1) := by decide +kernel
theorem dX4_meets_61 : decode cX4_meets 61 = .ok (.ifCond .ne 9, 3) := by decide +kernel
theorem dX4_meets_64 : decode cX4_meets 64 = .ok (.aload_n 0, 1) := by decide +kernel
theorem dX4_meets_65 : decode cX4_meets 65 = .ok (.iconst 5, 1) := by decide +kernel
theorem dX4_meets_66 : decode cX4_meets 66 = .ok (.invokevirtual 179, 3) := by decide +kernel
theorem dX4_meets_69 : decode cX4_meets 69 = .ok (.ireturn, 1) := by decide +kernel
theorem dX4_meets_70 : decode cX4_meets 70 = .ok (.iconst 0, 1) := by decide +kernel
theorem dX4_meets_71 : decode cX4_meets 71 = .ok (.istore 5, 2) := by decide +kernel
theorem dX4_meets_73 : decode cX4_meets 73 = .ok (.iconst 0, 1) := by decide +kernel
theorem dX4_meets_74 : decode cX4_meets 74 = .ok (.istore 6, 2) := by decide +kernel
theorem dX4_meets_76 : decode cX4_meets 76 = .ok (.iload 6, 2) := by decide +kernel
theorem dX4_meets_78 : decode cX4_meets 78 = .ok (.iload_n 3, 1) := by decide +kernel
theorem dX4_meets_79 : decode cX4_meets 79 = .ok (.if_icmp .gt 70, 3) := by decide +kernel
theorem dX4_meets_82 : decode cX4_meets 82 = .ok (.aload_n 0, 1) := by decide +kernel
theorem dX4_meets_83 : decode cX4_meets 83 = .ok (.iload_n 1, 1) := by decide +kernel
theorem dX4_meets_84 : decode cX4_meets 84 = .ok (.iload 6, 2) := by decide +kernel
theorem dX4_meets_86 : decode cX4_meets 86 = .ok (.iload_n 3, 1) := by decide +kernel
theorem dX4_meets_87 : decode cX4_meets 87 = .ok (.invokevirtual 282, 3) := by decide +kernel
theorem dX4_meets_90 : decode cX4_meets 90 = .ok (.aload_n 0, 1) := by decide +kernel
theorem dX4_meets_91 : decode cX4_meets 91 = .ok (.iload_n 2, 1) := by decide +kernel
theorem dX4_meets_92 : decode cX4_meets 92 = .ok (.iload 6, 2) := by decide +kernel
theorem dX4_meets_94 : decode cX4_meets 94 = .ok (.iload_n 3, 1) := by decide +kernel
theorem dX4_meets_95 : decode cX4_meets 95 = .ok (.invokevirtual 282, 3) := by decide +kernel
theorem dX4_meets_98 : decode cX4_meets 98 = .ok (.isub, 1) := by decide +kernel
theorem dX4_meets_99 : decode cX4_meets 99 = .ok (.istore 7, 2) := by decide +kernel
theorem dX4_meets_101 : decode cX4_meets 101 = .ok (.iload 5, 2) := by decide +kernel
theorem dX4_meets_103 : decode cX4_meets 103 = .ok (.iload 4, 2) := by decide +kernel
theorem dX4_meets_105 : decode cX4_meets 105 = .ok (.ifCond .ne 11, 3) := by decide +kernel
theorem dX4_meets_108 : decode cX4_meets 108 = .ok (.iload 7, 2) := by decide +kernel
theorem dX4_meets_110 : decode cX4_meets 110 = .ok (.ifCond .ne 29, 3) := by decide +kernel
theorem dX4_meets_113 : decode cX4_meets 113 = .ok (.goto 22, 3) := by decide +kernel
theorem dX4_meets_116 : decode cX4_meets 116 = .ok (.iload 4, 2) := by decide +kernel
theorem dX4_meets_118 : decode cX4_meets 118 = .ok (.iconst 1, 1) := by decide +kernel
theorem dX4_meets_119 : decode cX4_meets 119 = .ok (.if_icmp .ne 11, 3) := by decide +kernel
theorem dX4_meets_122 : decode cX4_meets 122 = .ok (.iload 7, 2) := by decide +kernel
theorem dX4_meets_124 : decode cX4_meets 124 = .ok (.ifCond .ge 15, 3) := by decide +kernel
theorem dX4_meets_127 : decode cX4_meets 127 = .ok (.goto 8, 3) := by decide +kernel
theorem dX4_meets_130 : decode cX4_meets 130 = .ok (.iload 7, 2) := by decide +kernel
theorem dX4_meets_132 : decode cX4_meets 132 = .ok (.ifCond .le 7, 3) := by decide +kernel
theorem dX4_meets_135 : decode cX4_meets 135 = .ok (.iconst 1, 1) := by decide +kernel
theorem dX4_meets_136 : decode cX4_meets 136 = .ok (.goto 4, 3) := by decide +kernel
theorem dX4_meets_139 : decode cX4_meets 139 = .ok (.iconst 0, 1) := by decide +kernel
theorem dX4_meets_140 : decode cX4_meets 140 = .ok (.iadd, 1) := by decide +kernel
theorem dX4_meets_141 : decode cX4_meets 141 = .ok (.istore 5, 2) := by decide +kernel
theorem dX4_meets_143 : decode cX4_meets 143 = .ok (.iinc 6 1, 3) := by decide +kernel
theorem dX4_meets_146 : decode cX4_meets 146 = .ok (.goto (-70), 3) := by decide +kernel
theorem dX4_meets_149 : decode cX4_meets 149 = .ok (.aload_n 0, 1) := by decide +kernel
theorem dX4_meets_150 : decode cX4_meets 150 = .ok (.iload 5, 2) := by decide +kernel
theorem dX4_meets_152 : decode cX4_meets 152 = .ok (.invokevirtual 195, 3) := by decide +kernel
theorem dX4_meets_155 : decode cX4_meets 155 = .ok (.ireturn, 1) := by decide +kernel
theorem dX4_unsure_0 : decode cX4_unsure 0 = .ok (.aload_n 0, 1) := by decide +kernel
theorem dX4_unsure_1 : decode cX4_unsure 1 = .ok (.iconst 0, 1) := by decide +kernel
theorem dX4_unsure_2 : decode cX4_unsure 2 = .ok (.putfield 61, 3) := by decide +kernel
theorem dX4_unsure_5 : decode cX4_unsure 5 = .ok (.aload_n 0, 1) := by decide +kernel
theorem dX4_unsure_6 : decode cX4_unsure 6 = .ok (.iload_n 1, 1) := by decide +kernel
theorem dX4_unsure_7 : decode cX4_unsure 7 = .ok (.invokevirtual 247, 3) := by decide +kernel
theorem dX4_unsure_10 : decode cX4_unsure 10 = .ok (.ifCond .eq 12, 3) := by decide +kernel
theorem dX4_unsure_13 : decode cX4_unsure 13 = .ok (.iload_n 2, 1) := by decide +kernel
theorem dX4_unsure_14 : decode cX4_unsure 14 = .ok (.iconst 0, 1) := by decide +kernel
theorem dX4_unsure_15 : decode cX4_unsure 15 = .ok (.iconst 1, 1) := by decide +kernel
theorem dX4_unsure_16 : decode cX4_unsure 16 = .ok (.invokestatic 86, 3) := by decide +kernel
theorem dX4_unsure_19 : decode cX4_unsure 19 = .ok (.ifCond .ne 9, 3) := by decide +kernel
theorem dX4_unsure_22 : decode cX4_unsure 22 = .ok (.aload_n 0, 1) := by decide +kernel
theorem dX4_unsure_23 : decode cX4_unsure 23 = .ok (.iconst 1, 1) := by decide +kernel
theorem dX4_unsure_24 : decode cX4_unsure 24 = .ok (.invokevirtual 179, 3) := by decide +kernel
theorem dX4_unsure_27 : decode cX4_unsure 27 = .ok (.ireturn, 1) := by decide +kernel
theorem dX4_unsure_28 : decode cX4_unsure 28 = .ok (.iconst 0, 1) := by decide +kernel
theorem dX4_unsure_29 : decode cX4_unsure 29 = .ok (.istore_n 3, 1) := by decide +kernel
theorem dX4_unsure_30 : decode cX4_unsure 30 = .ok (.iconst 0, 1) := by decide +kernel
theorem dX4_unsure_31 : decode cX4_unsure 31 = .ok (.istore 4, 2) := by decide +kernel
theorem dX4_unsure_33 : decode cX4_unsure 33 = .ok (.iconst 1, 1) := by decide +kernel
theorem dX4_unsure_34 : decode cX4_unsure 34 = .ok (.istore 5, 2) := by decide +kernel
theorem dX4_unsure_36 : decode cX4_unsure 36 = .ok (.iload 5, 2) := by decide +kernel
theorem dX4_unsure_38 : decode cX4_unsure 38 = .ok (.aload_n 0, 1) := by decide +kernel
theorem dX4_unsure_39 : decode cX4_unsure 39 = .ok (.getfield 43, 3) := by decide +kernel
theorem dX4_unsure_42 : decode cX4_unsure 42 = .ok (.iload_n 1, 1) := by decide +kernel
theorem dX4_unsure_43 : decode cX4_unsure 43 = .ok (.iaload, 1) := by decide +kernel
theorem dX4_unsure_44 : decode cX4_unsure 44 = .ok (.if_icmp .gt 50, 3) := by decide +kernel
theorem dX4_unsure_47 : decode cX4_unsure 47 = .ok (.aload_n 0, 1) := by decide +kernel
theorem dX4_unsure_48 : decode cX4_unsure 48 = .ok (.iload_n 1, 1) := by decide +kernel
theorem dX4_unsure_49 : decode cX4_unsure 49 = .ok (.iload 5, 2) := by decide +kernel
theorem dX4_unsure_51 : decode cX4_unsure 51 = .ok (.invokevirtual 298, 3) := by decide +kernel
theorem dX4_unsure_54 : decode cX4_unsure 54 = .ok (.aload_n 0, 1) := by decide +kernel
theorem dX4_unsure_55 : decode cX4_unsure 55 = .ok (.iload_n 1, 1) := by decide +kernel
theorem dX4_unsure_56 : decode cX4_unsure 56 = .ok (.iload 5, 2) := by decide +kernel
theorem dX4_unsure_58 : decode cX4_unsure 58 = .ok (.invokevirtual 301, 3) := by decide +kernel
theorem dX4_unsure_61 : decode cX4_unsure 61 = .ok (.isub, 1) := by decide +kernel
theorem dX4_unsure_62 : decode cX4_unsure 62 = .ok (.istore 6, 2) := by decide +kernel
theorem dX4_unsure_64 : decode cX4_unsure 64 = .ok (.iload_n 3, 1) := by decide +kernel
theorem dX4_unsure_65 : decode cX4_unsure 65 = .ok (.iload 6, 2) := by decide +kernel
theorem dX4_unsure_67 : decode cX4_unsure 67 = .ok (.ifCond .eq 7, 3) := by decide +kernel
theorem dX4_unsure_70 : decode cX4_unsure 70 = .ok (.iconst 1, 1) := by decide +kernel
theorem dX4_unsure_71 : decode cX4_unsure 71 = .ok (.goto 4, 3) := by decide +kernel
theorem dX4_unsure_74 : decode cX4_unsure 74 = .ok (.iconst 0, 1) := by decide +kernel
theorem dX4_unsure_75 : decode cX4_unsure 75 = .ok (.iadd, 1) := by decide +kernel
theorem dX4_unsure_76 : decode cX4_unsure 76 = .ok (.istore_n 3, 1) := by decide +kernel
theorem dX4_unsure_77 : decode cX4_unsure 77 = .ok (.iload 6, 2) := by decide +kernel
theorem dX4_unsure_79 : decode cX4_unsure 79 = .ok (.iload 4, 2) := by decide +kernel
theorem dX4_unsure_81 : decode cX4_unsure 81 = .ok (.if_icmp .le 7, 3) := by decide +kernel
theorem dX4_unsure_84 : decode cX4_unsure 84 = .ok (.iload 6, 2) := by decide +kernel
theorem dX4_unsure_86 : decode cX4_unsure 86 = .ok (.istore 4, 2) := by decide +kernel
theorem dX4_unsure_88 : decode cX4_unsure 88 = .ok (.iinc 5 1, 3) := by decide +kernel
theorem dX4_unsure_91 : decode cX4_unsure 91 = .ok (.goto (-55), 3) := by decide +kernel
theorem dX4_unsure_94 : decode cX4_unsure 94 = .ok (.aload_n 0, 1) := by decide +kernel
theorem dX4_unsure_95 : decode cX4_unsure 95 = .ok (.iload_n 2, 1) := by decide +kernel
theorem dX4_unsure_96 : decode cX4_unsure 96 = .ok (.ifCond .ne 7, 3) := by decide +kernel
theorem dX4_unsure_99 : decode cX4_unsure 99 = .ok (.iload_n 3, 1) := by decide +kernel
theorem dX4_unsure_100 : decode cX4_unsure 100 = .ok (.goto 5, 3) := by decide +kernel
theorem dX4_unsure_103 : decode cX4_unsure 103 = .ok (.iload 4, 2) := by decide +kernel
theorem dX4_unsure_105 : decode cX4_unsure 105 = .ok (.invokevirtual 195, 3) := by decide +kernel
theorem dX4_unsure_108 : decode cX4_unsure 108 = .ok (.ireturn, 1) := by decide +kernel
theorem dX4_quota_0 : decode cX4_quota 0 = .ok (.aload_n 0, 1) := by decide +kernel
theorem dX4_quota_1 : decode cX4_quota 1 = .ok (.iconst 0, 1) := by decide +kernel
theorem dX4_quota_2 : decode cX4_quota 2 = .ok (.putfield 61, 3) := by decide +kernel
theorem dX4_quota_5 : decode cX4_quota 5 = .ok (.aload_n 0, 1) := by decide +kernel
theorem dX4_quota_6 : decode cX4_quota 6 = .ok (.iload_n 1, 1) := by decide +kernel
theorem dX4_quota_7 : decode cX4_quota 7 = .ok (.invokevirtual 247, 3) := by decide +kernel
theorem dX4_quota_10 : decode cX4_quota 10 = .ok (.ifCond .eq 13, 3) := by decide +kernel
theorem dX4_quota_13 : decode cX4_quota 13 = .ok (.iload 4, 2) := by decide +kernel
theorem dX4_quota_15 : decode cX4_quota 15 = .ok (.iconst 0, 1) := by decide +kernel
theorem dX4_quota_16 : decode cX4_quota 16 = .ok (.iconst 2, 1) := by decide +kernel
theorem dX4_quota_17 : decode cX4_quota 17 = .ok (.invokestatic 86, 3) := by decide +kernel
theorem dX4_quota_20 : decode cX4_quota 20 = .ok (.ifCond .ne 9, 3) := by decide +kernel
theorem dX4_quota_23 : decode cX4_quota 23 = .ok (.aload_n 0, 1) := by decide +kernel
theorem dX4_quota_24 : decode cX4_quota 24 = .ok (.iconst 1, 1) := by decide +kernel
theorem dX4_quota_25 : decode cX4_quota 25 = .ok (.invokevirtual 179, 3) := by decide +kernel
theorem dX4_quota_28 : decode cX4_quota 28 = .ok (.ireturn, 1) := by decide +kernel
theorem dX4_quota_29 : decode cX4_quota 29 = .ok (.iload_n 3, 1) := by decide +kernel
theorem dX4_quota_30 : decode cX4_quota 30 = .ok (.iconst 1, 1) := by decide +kernel
theorem dX4_quota_31 : decode cX4_quota 31 = .ok (.bipush 100, 2) := by decide +kernel
theorem dX4_quota_33 : decode cX4_quota 33 = .ok (.invokestatic 86, 3) := by decide +kernel
theorem dX4_quota_36 : decode cX4_quota 36 = .ok (.ifCond .eq 12, 3) := by decide +kernel
theorem dX4_quota_39 : decode cX4_quota 39 = .ok (.iload_n 2, 1) := by decide +kernel
theorem dX4_quota_40 : decode cX4_quota 40 = .ok (.iconst 0, 1) := by decide +kernel
theorem dX4_quota_41 : decode cX4_quota 41 = .ok (.iload_n 3, 1) := by decide +kernel
theorem dX4_quota_42 : decode cX4_quota 42 = .ok (.invokestatic 86, 3) := by decide +kernel
theorem dX4_quota_45 : decode cX4_quota 45 = .ok (.ifCond .ne 9, 3) := by decide +kernel
theorem dX4_quota_48 : decode cX4_quota 48 = .ok (.aload_n 0, 1) := by decide +kernel
theorem dX4_quota_49 : decode cX4_quota 49 = .ok (.iconst 2, 1) := by decide +kernel
theorem dX4_quota_50 : decode cX4_quota 50 = .ok (.invokevirtual 179, 3) := by decide +kernel
theorem dX4_quota_53 : decode cX4_quota 53 = .ok (.ireturn, 1) := by decide +kernel
theorem dX4_quota_54 : decode cX4_quota 54 = .ok (.aload_n 0, 1) := by decide +kernel
theorem dX4_quota_55 : decode cX4_quota 55 = .ok (.getfield 43, 3) := by decide +kernel
theorem dX4_quota_58 : decode cX4_quota 58 = .ok (.iload_n 1, 1) := by decide +kernel
theorem dX4_quota_59 : decode cX4_quota 59 = .ok (.iaload, 1) := by decide +kernel
theorem dX4_quota_60 : decode cX4_quota 60 = .ok (.ifCond .ne 9, 3) := by decide +kernel
theorem dX4_quota_63 : decode cX4_quota 63 = .ok (.aload_n 0, 1) := by decide +kernel
theorem dX4_quota_64 : decode cX4_quota 64 = .ok (.iconst 5, 1) := by decide +kernel
theorem dX4_quota_65 : decode cX4_quota 65 = .ok (.invokevirtual 179, 3) := by decide +kernel
theorem dX4_quota_68 : decode cX4_quota 68 = .ok (.ireturn, 1) := by decide +kernel
theorem dX4_quota_69 : decode cX4_quota 69 = .ok (.aload_n 0, 1) := by decide +kernel
theorem dX4_quota_70 : decode cX4_quota 70 = .ok (.iload_n 1, 1) := by decide +kernel
theorem dX4_quota_71 : decode cX4_quota 71 = .ok (.iload_n 2, 1) := by decide +kernel
theorem dX4_quota_72 : decode cX4_quota 72 = .ok (.iload_n 3, 1) := by decide +kernel
theorem dX4_quota_73 : decode cX4_quota 73 = .ok (.invokevirtual 279, 3) := by decide +kernel
theorem dX4_quota_76 : decode cX4_quota 76 = .ok (.istore 5, 2) := by decide +kernel
theorem dX4_quota_78 : decode cX4_quota 78 = .ok (.aload_n 0, 1) := by decide +kernel
theorem dX4_quota_79 : decode cX4_quota 79 = .ok (.iload_n 1, 1) := by decide +kernel
theorem dX4_quota_80 : decode cX4_quota 80 = .ok (.iload 5, 2) := by decide +kernel
theorem dX4_quota_82 : decode cX4_quota 82 = .ok (.invokevirtual 276, 3) := by decide +kernel
theorem dX4_quota_85 : decode cX4_quota 85 = .ok (.istore 6, 2) := by decide +kernel
theorem dX4_quota_87 : decode cX4_quota 87 = .ok (.aload_n 0, 1) := by decide +kernel
theorem dX4_quota_88 : decode cX4_quota 88 = .ok (.iload 4, 2) := by decide +kernel
theorem dX4_quota_90 : decode cX4_quota 90 = .ok (.ifCond .ne 19, 3) := by decide +kernel
theorem dX4_quota_93 : decode cX4_quota 93 = .ok (.aload_n 0, 1) := by decide +kernel
theorem dX4_quota_94 : decode cX4_quota 94 = .ok (.getfield 31, 3) := by decide +kernel
theorem dX4_quota_97 : decode cX4_quota 97 = .ok (.sipush 1000, 3) := by decide +kernel
theorem dX4_quota_100 : decode cX4_quota 100 = .ok (.iload_n 1, 1) := by decide +kernel
theorem dX4_quota_101 : decode cX4_quota 101 = .ok (.imul, 1) := by decide +kernel
theorem dX4_quota_102 : decode cX4_quota 102 = .ok (.iload 6, 2) := by decide +kernel
theorem dX4_quota_104 : decode cX4_quota 104 = .ok (.iadd, 1) := by decide +kernel
theorem dX4_quota_105 : decode cX4_quota 105 = .ok (.iaload, 1) := by decide +kernel
theorem dX4_quota_106 : decode cX4_quota 106 = .ok (.goto 18, 3) := by decide +kernel
theorem dX4_quota_109 : decode cX4_quota 109 = .ok (.iload 4, 2) := by decide +kernel
theorem dX4_quota_111 : decode cX4_quota 111 = .ok (.iconst 1, 1) := by decide +kernel
theorem dX4_quota_112 : decode cX4_quota 112 = .ok (.if_icmp .ne 10, 3) := by decide +kernel
theorem dX4_quota_115 : decode cX4_quota 115 = .ok (.aload_n 0, 1) := by decide +kernel
theorem dX4_quota_116 : decode cX4_quota 116 = .ok (.getfield 270, 3) := by decide +kernel
theorem dX4_quota_119 : decode cX4_quota 119 = .ok (.goto 5, 3) := by decide +kernel
theorem dX4_quota_122 : decode cX4_quota 122 = .ok (.iload 5, 2) := by decide +kernel
theorem dX4_quota_124 : decode cX4_quota 124 = .ok (.invokevirtual 195, 3) := by decide +kernel
theorem dX4_quota_127 : decode cX4_quota 127 = .ok (.ireturn, 1) := by decide +kernel
theorem dX4_sure_0 : decode cX4_sure 0 = .ok (.iconst 0, 1) := by decide +kernel
theorem dX4_sure_1 : decode cX4_sure 1 = .ok (.istore_n 3, 1) := by decide +kernel
theorem dX4_sure_2 : decode cX4_sure 2 = .ok (.iconst 0, 1) := by decide +kernel
theorem dX4_sure_3 : decode cX4_sure 3 = .ok (.istore 4, 2) := by decide +kernel
theorem dX4_sure_5 : decode cX4_sure 5 = .ok (.iload 4, 2) := by decide +kernel
theorem dX4_sure_7 : decode cX4_sure 7 = .ok (.aload_n 0, 1) := by decide +kernel
theorem dX4_sure_8 : decode cX4_sure 8 = .ok (.getfield 40, 3) := by decide +kernel
theorem dX4_sure_11 : decode cX4_sure 11 = .ok (.iload_n 1, 1) := by decide +kernel
theorem dX4_sure_12 : decode cX4_sure 12 = .ok (.iaload, 1) := by decide +kernel
theorem dX4_sure_13 : decode cX4_sure 13 = .ok (.if_icmp .ge 42, 3) := by decide +kernel
theorem dX4_sure_16 : decode cX4_sure 16 = .ok (.aload_n 0, 1) := by decide +kernel
theorem dX4_sure_17 : decode cX4_sure 17 = .ok (.getfield 31, 3) := by decide +kernel
theorem dX4_sure_20 : decode cX4_sure 20 = .ok (.sipush 1000, 3) := by decide +kernel
theorem dX4_sure_23 : decode cX4_sure 23 = .ok (.iload_n 1, 1) := by decide +kernel
theorem dX4_sure_24 : decode cX4_sure 24 = .ok (.imul, 1) := by decide +kernel
theorem dX4_sure_25 : decode cX4_sure 25 = .ok (.iload 4, 2) := by decide +kernel
theorem dX4_sure_27 : decode cX4_sure 27 = .ok (.iadd, 1) := by decide +kernel
theorem dX4_sure_28 : decode cX4_sure 28 = .ok (.iaload, 1) := by decide +kernel
theorem dX4_sure_29 : decode cX4_sure 29 = .ok (.iload_n 2, 1) := by decide +kernel
theorem dX4_sure_30 : decode cX4_sure 30 = .ok (.if_icmp .gt 25, 3) := by decide +kernel
theorem dX4_sure_33 : decode cX4_sure 33 = .ok (.iload_n 3, 1) := by decide +kernel
theorem dX4_sure_34 : decode cX4_sure 34 = .ok (.aload_n 0, 1) := by decide +kernel
theorem dX4_sure_35 : decode cX4_sure 35 = .ok (.getfield 34, 3) := by decide +kernel
theorem dX4_sure_38 : decode cX4_sure 38 = .ok (.sipush 1000, 3) := by decide +kernel
theorem dX4_sure_41 : decode cX4_sure 41 = .ok (.iload_n 1, 1) := by decide +kernel
theorem dX4_sure_42 : decode cX4_sure 42 = .ok (.imul, 1) := by decide +kernel
theorem dX4_sure_43 : decode cX4_sure 43 = .ok (.iload 4, 2) := by decide +kernel
theorem dX4_sure_45 : decode cX4_sure 45 = .ok (.iadd, 1) := by decide +kernel
theorem dX4_sure_46 : decode cX4_sure 46 = .ok (.iaload, 1) := by decide +kernel
theorem dX4_sure_47 : decode cX4_sure 47 = .ok (.iadd, 1) := by decide +kernel
theorem dX4_sure_48 : decode cX4_sure 48 = .ok (.istore_n 3, 1) := by decide +kernel
theorem dX4_sure_49 : decode cX4_sure 49 = .ok (.iinc 4 1, 3) := by decide +kernel
theorem dX4_sure_52 : decode cX4_sure 52 = .ok (.goto (-47), 3) := by decide +kernel
theorem dX4_sure_55 : decode cX4_sure 55 = .ok (.iload_n 3, 1) := by decide +kernel
theorem dX4_sure_56 : decode cX4_sure 56 = .ok (.ireturn, 1) := by decide +kernel
theorem dX4_atMost_0 : decode cX4_atMost 0 = .ok (.aload_n 0, 1) := by decide +kernel
theorem dX4_atMost_1 : decode cX4_atMost 1 = .ok (.iload_n 1, 1) := by decide +kernel
theorem dX4_atMost_2 : decode cX4_atMost 2 = .ok (.iload_n 2, 1) := by decide +kernel
theorem dX4_atMost_3 : decode cX4_atMost 3 = .ok (.invokevirtual 205, 3) := by decide +kernel
theorem dX4_atMost_6 : decode cX4_atMost 6 = .ok (.istore_n 3, 1) := by decide +kernel
theorem dX4_atMost_7 : decode cX4_atMost 7 = .ok (.iload_n 3, 1) := by decide +kernel
theorem dX4_atMost_8 : decode cX4_atMost 8 = .ok (.aload_n 0, 1) := by decide +kernel
theorem dX4_atMost_9 : decode cX4_atMost 9 = .ok (.getfield 40, 3) := by decide +kernel
theorem dX4_atMost_12 : decode cX4_atMost 12 = .ok (.iload_n 1, 1) := by decide +kernel
theorem dX4_atMost_13 : decode cX4_atMost 13 = .ok (.iaload, 1) := by decide +kernel
theorem dX4_atMost_14 : decode cX4_atMost 14 = .ok (.if_icmp .ne 12, 3) := by decide +kernel
theorem dX4_atMost_17 : decode cX4_atMost 17 = .ok (.aload_n 0, 1) := by decide +kernel
theorem dX4_atMost_18 : decode cX4_atMost 18 = .ok (.getfield 43, 3) := by decide +kernel
theorem dX4_atMost_21 : decode cX4_atMost 21 = .ok (.iload_n 1, 1) := by decide +kernel
theorem dX4_atMost_22 : decode cX4_atMost 22 = .ok (.iaload, 1) := by decide +kernel
theorem dX4_atMost_23 : decode cX4_atMost 23 = .ok (.goto 11, 3) := by decide +kernel
theorem dX4_atMost_26 : decode cX4_atMost 26 = .ok (.aload_n 0, 1) := by decide +kernel
theorem dX4_atMost_27 : decode cX4_atMost 27 = .ok (.iload_n 1, 1) := by decide +kernel
theorem dX4_atMost_28 : decode cX4_atMost 28 = .ok (.iload_n 3, 1) := by decide +kernel
theorem dX4_atMost_29 : decode cX4_atMost 29 = .ok (.invokevirtual 264, 3) := by decide +kernel
theorem dX4_atMost_32 : decode cX4_atMost 32 = .ok (.iconst 1, 1) := by decide +kernel
theorem dX4_atMost_33 : decode cX4_atMost 33 = .ok (.isub, 1) := by decide +kernel
theorem dX4_atMost_34 : decode cX4_atMost 34 = .ok (.ireturn, 1) := by decide +kernel
theorem dX4_isValue_0 : decode cX4_isValue 0 = .ok (.iload_n 0, 1) := by decide +kernel
theorem dX4_isValue_1 : decode cX4_isValue 1 = .ok (.iconst 0, 1) := by decide +kernel
theorem dX4_isValue_2 : decode cX4_isValue 2 = .ok (.sipush 999, 3) := by decide +kernel
theorem dX4_isValue_5 : decode cX4_isValue 5 = .ok (.invokestatic 86, 3) := by decide +kernel
theorem dX4_isValue_8 : decode cX4_isValue 8 = .ok (.ireturn, 1) := by decide +kernel
theorem dX4_rank_0 : decode cX4_rank 0 = .ok (.aload_n 0, 1) := by decide +kernel
theorem dX4_rank_1 : decode cX4_rank 1 = .ok (.iconst 0, 1) := by decide +kernel
theorem dX4_rank_2 : decode cX4_rank 2 = .ok (.putfield 61, 3) := by decide +kernel
theorem dX4_rank_5 : decode cX4_rank 5 = .ok (.aload_n 0, 1) := by decide +kernel
theorem dX4_rank_6 : decode cX4_rank 6 = .ok (.iload_n 1, 1) := by decide +kernel
theorem dX4_rank_7 : decode cX4_rank 7 = .ok (.invokevirtual 247, 3) := by decide +kernel
theorem dX4_rank_10 : decode cX4_rank 10 = .ok (.ifCond .ne 9, 3) := by decide +kernel
theorem dX4_rank_13 : decode cX4_rank 13 = .ok (.aload_n 0, 1) := by decide +kernel
theorem dX4_rank_14 : decode cX4_rank 14 = .ok (.iconst 1, 1) := by decide +kernel
theorem dX4_rank_15 : decode cX4_rank 15 = .ok (.invokevirtual 179, 3) := by decide +kernel
theorem dX4_rank_18 : decode cX4_rank 18 = .ok (.ireturn, 1) := by decide +kernel
theorem dX4_rank_19 : decode cX4_rank 19 = .ok (.iload_n 2, 1) := by decide +kernel
theorem dX4_rank_20 : decode cX4_rank 20 = .ok (.invokestatic 304, 3) := by decide +kernel
theorem dX4_rank_23 : decode cX4_rank 23 = .ok (.ifCond .ne 9, 3) := by decide +kernel
theorem dX4_rank_26 : decode cX4_rank 26 = .ok (.aload_n 0, 1) := by decide +kernel
theorem dX4_rank_27 : decode cX4_rank 27 = .ok (.iconst 2, 1) := by decide +kernel
theorem dX4_rank_28 : decode cX4_rank 28 = .ok (.invokevirtual 179, 3) := by decide +kernel
theorem dX4_rank_31 : decode cX4_rank 31 = .ok (.ireturn, 1) := by decide +kernel
theorem dX4_rank_32 : decode cX4_rank 32 = .ok (.aload_n 0, 1) := by decide +kernel
theorem dX4_rank_33 : decode cX4_rank 33 = .ok (.iload_n 3, 1) := by decide +kernel
theorem dX4_rank_34 : decode cX4_rank 34 = .ok (.ifCond .eq 12, 3) := by decide +kernel
theorem dX4_rank_37 : decode cX4_rank 37 = .ok (.aload_n 0, 1) := by decide +kernel
theorem dX4_rank_38 : decode cX4_rank 38 = .ok (.iload_n 1, 1) := by decide +kernel
theorem dX4_rank_39 : decode cX4_rank 39 = .ok (.iload_n 2, 1) := by decide +kernel
theorem dX4_rank_40 : decode cX4_rank 40 = .ok (.invokevirtual 285, 3) := by decide +kernel
theorem dX4_rank_43 : decode cX4_rank 43 = .ok (.goto 9, 3) := by decide +kernel
theorem dX4_rank_46 : decode cX4_rank 46 = .ok (.aload_n 0, 1) := by decide +kernel
theorem dX4_rank_47 : decode cX4_rank 47 = .ok (.iload_n 1, 1) := by decide +kernel
theorem dX4_rank_48 : decode cX4_rank 48 = .ok (.iload_n 2, 1) := by decide +kernel
theorem dX4_rank_49 : decode cX4_rank 49 = .ok (.invokevirtual 288, 3) := by decide +kernel
theorem dX4_rank_52 : decode cX4_rank 52 = .ok (.invokevirtual 195, 3) := by decide +kernel
theorem dX4_rank_55 : decode cX4_rank 55 = .ok (.ireturn, 1) := by decide +kernel
theorem dX4_leastFrom_0 : decode cX4_leastFrom 0 = .ok (.aload_n 0, 1) := by decide +kernel
theorem dX4_leastFrom_1 : decode cX4_leastFrom 1 = .ok (.iload_n 1, 1) := by decide +kernel
theorem dX4_leastFrom_2 : decode cX4_leastFrom 2 = .ok (.iload_n 3, 1) := by decide +kernel
theorem dX4_leastFrom_3 : decode cX4_leastFrom 3 = .ok (.invokevirtual 288, 3) := by decide +kernel
theorem dX4_leastFrom_6 : decode cX4_leastFrom 6 = .ok (.iload_n 2, 1) := by decide +kernel
theorem dX4_leastFrom_7 : decode cX4_leastFrom 7 = .ok (.ifCond .ne 7, 3) := by decide +kernel
theorem dX4_leastFrom_10 : decode cX4_leastFrom 10 = .ok (.iconst 0, 1) := by decide +kernel
theorem dX4_leastFrom_11 : decode cX4_leastFrom 11 = .ok (.goto 11, 3) := by decide +kernel
theorem dX4_leastFrom_14 : decode cX4_leastFrom 14 = .ok (.aload_n 0, 1) := by decide +kernel
theorem dX4_leastFrom_15 : decode cX4_leastFrom 15 = .ok (.iload_n 1, 1) := by decide +kernel
theorem dX4_leastFrom_16 : decode cX4_leastFrom 16 = .ok (.iload_n 2, 1) := by decide +kernel
theorem dX4_leastFrom_17 : decode cX4_leastFrom 17 = .ok (.iconst 1, 1) := by decide +kernel
theorem dX4_leastFrom_18 : decode cX4_leastFrom 18 = .ok (.isub, 1) := by decide +kernel
theorem dX4_leastFrom_19 : decode cX4_leastFrom 19 = .ok (.invokevirtual 285, 3) := by decide +kernel
theorem dX4_leastFrom_22 : decode cX4_leastFrom 22 = .ok (.isub, 1) := by decide +kernel
theorem dX4_leastFrom_23 : decode cX4_leastFrom 23 = .ok (.ireturn, 1) := by decide +kernel
theorem dX4_between_0 : decode cX4_between 0 = .ok (.aload_n 0, 1) := by decide +kernel
theorem dX4_between_1 : decode cX4_between 1 = .ok (.iconst 0, 1) := by decide +kernel
theorem dX4_between_2 : decode cX4_between 2 = .ok (.putfield 61, 3) := by decide +kernel
theorem dX4_between_5 : decode cX4_between 5 = .ok (.aload_n 0, 1) := by decide +kernel
theorem dX4_between_6 : decode cX4_between 6 = .ok (.iload_n 1, 1) := by decide +kernel
theorem dX4_between_7 : decode cX4_between 7 = .ok (.invokevirtual 247, 3) := by decide +kernel
theorem dX4_between_10 : decode cX4_between 10 = .ok (.ifCond .ne 9, 3) := by decide +kernel
theorem dX4_between_13 : decode cX4_between 13 = .ok (.aload_n 0, 1) := by decide +kernel
theorem dX4_between_14 : decode cX4_between 14 = .ok (.iconst 1, 1) := by decide +kernel
theorem dX4_between_15 : decode cX4_between 15 = .ok (.invokevirtual 179, 3) := by decide +kernel
theorem dX4_between_18 : decode cX4_between 18 = .ok (.ireturn, 1) := by decide +kernel
theorem dX4_between_19 : decode cX4_between 19 = .ok (.iload_n 2, 1) := by decide +kernel
theorem dX4_between_20 : decode cX4_between 20 = .ok (.invokestatic 304, 3) := by decide +kernel
theorem dX4_between_23 : decode cX4_between 23 = .ok (.ifCond .eq 15, 3) := by decide +kernel
theorem dX4_between_26 : decode cX4_between 26 = .ok (.iload_n 3, 1) := by decide +kernel
theorem dX4_between_27 : decode cX4_between 27 = .ok (.invokestatic 304, 3) := by decide +kernel
theorem dX4_between_30 : decode cX4_between 30 = .ok (.ifCond .eq 8, 3) := by decide +kernel
theorem dX4_between_33 : decode cX4_between 33 = .ok (.iload_n 3, 1) := by decide +kernel
theorem dX4_between_34 : decode cX4_between 34 = .ok (.iload_n 2, 1) := by decide +kernel
theorem dX4_between_35 : decode cX4_between 35 = .ok (.if_icmp .ge 9, 3) := by decide +kernel
theorem dX4_between_38 : decode cX4_between 38 = .ok (.aload_n 0, 1) := by decide +kernel
theorem dX4_between_39 : decode cX4_between 39 = .ok (.iconst 2, 1) := by decide +kernel
theorem dX4_between_40 : decode cX4_between 40 = .ok (.invokevirtual 179, 3) := by decide +kernel
theorem dX4_between_43 : decode cX4_between 43 = .ok (.ireturn, 1) := by decide +kernel
theorem dX4_between_44 : decode cX4_between 44 = .ok (.iload 4, 2) := by decide +kernel
theorem dX4_between_46 : decode cX4_between 46 = .ok (.ifCond .eq 31, 3) := by decide +kernel
theorem dX4_between_49 : decode cX4_between 49 = .ok (.aload_n 0, 1) := by decide +kernel
theorem dX4_between_50 : decode cX4_between 50 = .ok (.aload_n 0, 1) := by decide +kernel
theorem dX4_between_51 : decode cX4_between 51 = .ok (.iload_n 1, 1) := by decide +kernel
theorem dX4_between_52 : decode cX4_between 52 = .ok (.iload_n 3, 1) := by decide +kernel
theorem dX4_between_53 : decode cX4_between 53 = .ok (.invokevirtual 285, 3) := by decide +kernel
theorem dX4_between_56 : decode cX4_between 56 = .ok (.iload_n 2, 1) := by decide +kernel
theorem dX4_between_57 : decode cX4_between 57 = .ok (.ifCond .ne 7, 3) := by decide +kernel
theorem dX4_between_60 : decode cX4_between 60 = .ok (.iconst 0, 1) := by decide +kernel
theorem dX4_between_61 : decode cX4_between 61 = .ok (.goto 11, 3) := by decide +kernel
theorem dX4_between_64 : decode cX4_between 64 = .ok (.aload_n 0, 1) := by decide +kernel
theorem dX4_between_65 : decode cX4_between 65 = .ok (.iload_n 1, 1) := by decide +kernel
theorem dX4_between_66 : decode cX4_between 66 = .ok (.iload_n 2, 1) := by decide +kernel
theorem dX4_between_67 : decode cX4_between 67 = .ok (.iconst 1, 1) := by decide +kernel
theorem dX4_between_68 : decode cX4_between 68 = .ok (.isub, 1) := by decide +kernel
theorem dX4_between_69 : decode cX4_between 69 = .ok (.invokevirtual 288, 3) := by decide +kernel
theorem dX4_between_72 : decode cX4_between 72 = .ok (.isub, 1) := by decide +kernel
theorem dX4_between_73 : decode cX4_between 73 = .ok (.invokevirtual 195, 3) := by decide +kernel
theorem dX4_between_76 : decode cX4_between 76 = .ok (.ireturn, 1) := by decide +kernel
theorem dX4_between_77 : decode cX4_between 77 = .ok (.aload_n 0, 1) := by decide +kernel
theorem dX4_between_78 : decode cX4_between 78 = .ok (.iload_n 1, 1) := by decide +kernel
theorem dX4_between_79 : decode cX4_between 79 = .ok (.iload_n 2, 1) := by decide +kernel
theorem dX4_between_80 : decode cX4_between 80 = .ok (.iload_n 3, 1) := by decide +kernel
theorem dX4_between_81 : decode cX4_between 81 = .ok (.invokevirtual 307, 3) := by decide +kernel
theorem dX4_between_84 : decode cX4_between 84 = .ok (.istore 5, 2) := by decide +kernel
theorem dX4_between_86 : decode cX4_between 86 = .ok (.aload_n 0, 1) := by decide +kernel
theorem dX4_between_87 : decode cX4_between 87 = .ok (.iload 5, 2) := by decide +kernel
theorem dX4_between_89 : decode cX4_between 89 = .ok (.ifCond .ge 7, 3) := by decide +kernel
theorem dX4_between_92 : decode cX4_between 92 = .ok (.iconst 0, 1) := by decide +kernel
theorem dX4_between_93 : decode cX4_between 93 = .ok (.goto 5, 3) := by decide +kernel
theorem dX4_between_96 : decode cX4_between 96 = .ok (.iload 5, 2) := by decide +kernel
theorem dX4_between_98 : decode cX4_between 98 = .ok (.invokevirtual 195, 3) := by decide +kernel
theorem dX4_between_101 : decode cX4_between 101 = .ok (.ireturn, 1) := by decide +kernel
theorem dX4_exact_0 : decode cX4_exact 0 = .ok (.aload_n 0, 1) := by decide +kernel
theorem dX4_exact_1 : decode cX4_exact 1 = .ok (.iconst 0, 1) := by decide +kernel
theorem dX4_exact_2 : decode cX4_exact 2 = .ok (.putfield 61, 3) := by decide +kernel
theorem dX4_exact_5 : decode cX4_exact 5 = .ok (.aload_n 0, 1) := by decide +kernel
theorem dX4_exact_6 : decode cX4_exact 6 = .ok (.iload_n 1, 1) := by decide +kernel
theorem dX4_exact_7 : decode cX4_exact 7 = .ok (.invokevirtual 247, 3) := by decide +kernel
theorem dX4_exact_10 : decode cX4_exact 10 = .ok (.ifCond .ne 9, 3) := by decide +kernel
theorem dX4_exact_13 : decode cX4_exact 13 = .ok (.aload_n 0, 1) := by decide +kernel
theorem dX4_exact_14 : decode cX4_exact 14 = .ok (.iconst 1, 1) := by decide +kernel
theorem dX4_exact_15 : decode cX4_exact 15 = .ok (.invokevirtual 179, 3) := by decide +kernel
theorem dX4_exact_18 : decode cX4_exact 18 = .ok (.ireturn, 1) := by decide +kernel
theorem dX4_exact_19 : decode cX4_exact 19 = .ok (.iconst 0, 1) := by decide +kernel
theorem dX4_exact_20 : decode cX4_exact 20 = .ok (.istore_n 2, 1) := by decide +kernel
theorem dX4_exact_21 : decode cX4_exact 21 = .ok (.iconst 1, 1) := by decide +kernel
theorem dX4_exact_22 : decode cX4_exact 22 = .ok (.istore_n 3, 1) := by decide +kernel
theorem dX4_exact_23 : decode cX4_exact 23 = .ok (.iload_n 3, 1) := by decide +kernel
theorem dX4_exact_24 : decode cX4_exact 24 = .ok (.aload_n 0, 1) := by decide +kernel
theorem dX4_exact_25 : decode cX4_exact 25 = .ok (.getfield 43, 3) := by decide +kernel
theorem dX4_exact_28 : decode cX4_exact 28 = .ok (.iload_n 1, 1) := by decide +kernel
theorem dX4_exact_29 : decode cX4_exact 29 = .ok (.iaload, 1) := by decide +kernel
theorem dX4_exact_30 : decode cX4_exact 30 = .ok (.if_icmp .gt 34, 3) := by decide +kernel
theorem dX4_exact_33 : decode cX4_exact 33 = .ok (.iload_n 2, 1) := by decide +kernel
theorem dX4_exact_34 : decode cX4_exact 34 = .ok (.aload_n 0, 1) := by decide +kernel
theorem dX4_exact_35 : decode cX4_exact 35 = .ok (.iload_n 1, 1) := by decide +kernel
theorem dX4_exact_36 : decode cX4_exact 36 = .ok (.iload_n 3, 1) := by decide +kernel
theorem dX4_exact_37 : decode cX4_exact 37 = .ok (.invokevirtual 276, 3) := by decide +kernel
theorem dX4_exact_40 : decode cX4_exact 40 = .ok (.iconst (-1), 1) := by decide +kernel
theorem dX4_exact_41 : decode cX4_exact 41 = .ok (.if_icmp .eq 14, 3) := by decide +kernel
theorem dX4_exact_44 : decode cX4_exact 44 = .ok (.aload_n 0, 1) := by decide +kernel
theorem dX4_exact_45 : decode cX4_exact 45 = .ok (.getfield 270, 3) := by decide +kernel
theorem dX4_exact_48 : decode cX4_exact 48 = .ok (.ifCond .ne 7, 3) := by decide +kernel
theorem dX4_exact_51 : decode cX4_exact 51 = .ok (.iconst 1, 1) := by decide +kernel
theorem dX4_exact_52 : decode cX4_exact 52 = .ok (.goto 4, 3) := by decide +kernel
theorem dX4_exact_55 : decode cX4_exact 55 = .ok (.iconst 0, 1) := by decide +kernel
theorem dX4_exact_56 : decode cX4_exact 56 = .ok (.iadd, 1) := by decide +kernel
theorem dX4_exact_57 : decode cX4_exact 57 = .ok (.istore_n 2, 1) := by decide +kernel
theorem dX4_exact_58 : decode cX4_exact 58 = .ok (.iinc 3 1, 3) := by decide +kernel
theorem dX4_exact_61 : decode cX4_exact 61 = .ok (.goto (-38), 3) := by decide +kernel
theorem dX4_exact_64 : decode cX4_exact 64 = .ok (.aload_n 0, 1) := by decide +kernel
theorem dX4_exact_65 : decode cX4_exact 65 = .ok (.iload_n 2, 1) := by decide +kernel
theorem dX4_exact_66 : decode cX4_exact 66 = .ok (.invokevirtual 195, 3) := by decide +kernel
theorem dX4_exact_69 : decode cX4_exact 69 = .ok (.ireturn, 1) := by decide +kernel
theorem dX4_worstOf_0 : decode cX4_worstOf 0 = .ok (.bipush (-2), 2) := by decide +kernel
theorem dX4_worstOf_2 : decode cX4_worstOf 2 = .ok (.istore_n 2, 1) := by decide +kernel
theorem dX4_worstOf_3 : decode cX4_worstOf 3 = .ok (.iconst 1, 1) := by decide +kernel
theorem dX4_worstOf_4 : decode cX4_worstOf 4 = .ok (.istore_n 3, 1) := by decide +kernel
theorem dX4_worstOf_5 : decode cX4_worstOf 5 = .ok (.iload_n 3, 1) := by decide +kernel
theorem dX4_worstOf_6 : decode cX4_worstOf 6 = .ok (.aload_n 0, 1) := by decide +kernel
theorem dX4_worstOf_7 : decode cX4_worstOf 7 = .ok (.getfield 43, 3) := by decide +kernel
theorem dX4_worstOf_10 : decode cX4_worstOf 10 = .ok (.iload_n 1, 1) := by decide +kernel
theorem dX4_worstOf_11 : decode cX4_worstOf 11 = .ok (.iaload, 1) := by decide +kernel
theorem dX4_worstOf_12 : decode cX4_worstOf 12 = .ok (.if_icmp .gt 32, 3) := by decide +kernel
theorem dX4_worstOf_15 : decode cX4_worstOf 15 = .ok (.aload_n 0, 1) := by decide +kernel
theorem dX4_worstOf_16 : decode cX4_worstOf 16 = .ok (.iload_n 1, 1) := by decide +kernel
theorem dX4_worstOf_17 : decode cX4_worstOf 17 = .ok (.iload_n 3, 1) := by decide +kernel
theorem dX4_worstOf_18 : decode cX4_worstOf 18 = .ok (.invokevirtual 276, 3) := by decide +kernel
theorem dX4_worstOf_21 : decode cX4_worstOf 21 = .ok (.iconst (-1), 1) := by decide +kernel
theorem dX4_worstOf_22 : decode cX4_worstOf 22 = .ok (.if_icmp .eq 16, 3) := by decide +kernel
theorem dX4_worstOf_25 : decode cX4_worstOf 25 = .ok (.aload_n 0, 1) := by decide +kernel
theorem dX4_worstOf_26 : decode cX4_worstOf 26 = .ok (.getfield 270, 3) := by decide +kernel
theorem dX4_worstOf_29 : decode cX4_worstOf 29 = .ok (.iload_n 2, 1) := by decide +kernel
theorem dX4_worstOf_30 : decode cX4_worstOf 30 = .ok (.if_icmp .le 8, 3) := by decide +kernel
theorem dX4_worstOf_33 : decode cX4_worstOf 33 = .ok (.aload_n 0, 1) := by decide +kernel
theorem dX4_worstOf_34 : decode cX4_worstOf 34 = .ok (.getfield 270, 3) := by decide +kernel
theorem dX4_worstOf_37 : decode cX4_worstOf 37 = .ok (.istore_n 2, 1) := by decide +kernel
theorem dX4_worstOf_38 : decode cX4_worstOf 38 = .ok (.iinc 3 1, 3) := by decide +kernel
theorem dX4_worstOf_41 : decode cX4_worstOf 41 = .ok (.goto (-36), 3) := by decide +kernel
theorem dX4_worstOf_44 : decode cX4_worstOf 44 = .ok (.iload_n 2, 1) := by decide +kernel
theorem dX4_worstOf_45 : decode cX4_worstOf 45 = .ok (.ireturn, 1) := by decide +kernel
theorem dX4_worst_0 : decode cX4_worst 0 = .ok (.aload_n 0, 1) := by decide +kernel
theorem dX4_worst_1 : decode cX4_worst 1 = .ok (.iconst 0, 1) := by decide +kernel
theorem dX4_worst_2 : decode cX4_worst 2 = .ok (.putfield 61, 3) := by decide +kernel
theorem dX4_worst_5 : decode cX4_worst 5 = .ok (.aload_n 0, 1) := by decide +kernel
theorem dX4_worst_6 : decode cX4_worst 6 = .ok (.iload_n 1, 1) := by decide +kernel
theorem dX4_worst_7 : decode cX4_worst 7 = .ok (.invokevirtual 247, 3) := by decide +kernel
theorem dX4_worst_10 : decode cX4_worst 10 = .ok (.ifCond .eq 15, 3) := by decide +kernel
theorem dX4_worst_13 : decode cX4_worst 13 = .ok (.aload_n 0, 1) := by decide +kernel
theorem dX4_worst_14 : decode cX4_worst 14 = .ok (.aload_n 0, 1) := by decide +kernel
theorem dX4_worst_15 : decode cX4_worst 15 = .ok (.iload_n 1, 1) := by decide +kernel
theorem dX4_worst_16 : decode cX4_worst 16 = .ok (.invokevirtual 310, 3) := by decide +kernel
theorem dX4_worst_19 : decode cX4_worst 19 = .ok (.invokevirtual 195, 3) := by decide +kernel
theorem dX4_worst_22 : decode cX4_worst 22 = .ok (.goto 8, 3) := by decide +kernel
theorem dX4_worst_25 : decode cX4_worst 25 = .ok (.aload_n 0, 1) := by decide +kernel
theorem dX4_worst_26 : decode cX4_worst 26 = .ok (.iconst 1, 1) := by decide +kernel
theorem dX4_worst_27 : decode cX4_worst 27 = .ok (.invokevirtual 179, 3) := by decide +kernel
theorem dX4_worst_30 : decode cX4_worst 30 = .ok (.ireturn, 1) := by decide +kernel
theorem dX4_floorOf_0 : decode cX4_floorOf 0 = .ok (.iconst (-1), 1) := by decide +kernel
theorem dX4_floorOf_1 : decode cX4_floorOf 1 = .ok (.istore_n 3, 1) := by decide +kernel
theorem dX4_floorOf_2 : decode cX4_floorOf 2 = .ok (.iconst 0, 1) := by decide +kernel
theorem dX4_floorOf_3 : decode cX4_floorOf 3 = .ok (.istore 4, 2) := by decide +kernel
theorem dX4_floorOf_5 : decode cX4_floorOf 5 = .ok (.iconst 0, 1) := by decide +kernel
theorem dX4_floorOf_6 : decode cX4_floorOf 6 = .ok (.istore 5, 2) := by decide +kernel
theorem dX4_floorOf_8 : decode cX4_floorOf 8 = .ok (.iload 5, 2) := by decide +kernel
theorem dX4_floorOf_10 : decode cX4_floorOf 10 = .ok (.aload_n 0, 1) := by decide +kernel
theorem dX4_floorOf_11 : decode cX4_floorOf 11 = .ok (.getfield 40, 3) := by decide +kernel
theorem dX4_floorOf_14 : decode cX4_floorOf 14 = .ok (.iload_n 1, 1) := by decide +kernel
theorem dX4_floorOf_15 : decode cX4_floorOf 15 = .ok (.iaload, 1) := by decide +kernel
theorem dX4_floorOf_16 : decode cX4_floorOf 16 = .ok (.if_icmp .ge 61, 3) := by decide +kernel
theorem dX4_floorOf_19 : decode cX4_floorOf 19 = .ok (.iload 4, 2) := by decide +kernel
theorem dX4_floorOf_21 : decode cX4_floorOf 21 = .ok (.aload_n 0, 1) := by decide +kernel
theorem dX4_floorOf_22 : decode cX4_floorOf 22 = .ok (.getfield 34, 3) := by decide +kernel
theorem dX4_floorOf_25 : decode cX4_floorOf 25 = .ok (.sipush 1000, 3) := by decide +kernel
theorem dX4_floorOf_28 : decode cX4_floorOf 28 = .ok (.iload_n 1, 1) := by decide +kernel
theorem dX4_floorOf_29 : decode cX4_floorOf 29 = .ok (.imul, 1) := by decide +kernel
theorem dX4_floorOf_30 : decode cX4_floorOf 30 = .ok (.iload 5, 2) := by decide +kernel
theorem dX4_floorOf_32 : decode cX4_floorOf 32 = .ok (.iadd, 1) := by decide +kernel
theorem dX4_floorOf_33 : decode cX4_floorOf 33 = .ok (.iaload, 1) := by decide +kernel
theorem dX4_floorOf_34 : decode cX4_floorOf 34 = .ok (.iadd, 1) := by decide +kernel
theorem dX4_floorOf_35 : decode cX4_floorOf 35 = .ok (.istore 4, 2) := by decide +kernel
theorem dX4_floorOf_37 : decode cX4_floorOf 37 = .ok (.iload 4, 2) := by decide +kernel
theorem dX4_floorOf_39 : decode cX4_floorOf 39 = .ok (.aload_n 0, 1) := by decide +kernel
theorem dX4_floorOf_40 : decode cX4_floorOf 40 = .ok (.getfield 37, 3) := by decide +kernel
theorem dX4_floorOf_43 : decode cX4_floorOf 43 = .ok (.sipush 1000, 3) := by decide +kernel
theorem dX4_floorOf_46 : decode cX4_floorOf 46 = .ok (.iload_n 1, 1) := by decide +kernel
theorem dX4_floorOf_47 : decode cX4_floorOf 47 = .ok (.imul, 1) := by decide +kernel
theorem dX4_floorOf_48 : decode cX4_floorOf 48 = .ok (.iload 5, 2) := by decide +kernel
theorem dX4_floorOf_50 : decode cX4_floorOf 50 = .ok (.iadd, 1) := by decide +kernel
theorem dX4_floorOf_51 : decode cX4_floorOf 51 = .ok (.iaload, 1) := by decide +kernel
theorem dX4_floorOf_52 : decode cX4_floorOf 52 = .ok (.iadd, 1) := by decide +kernel
theorem dX4_floorOf_53 : decode cX4_floorOf 53 = .ok (.iload_n 2, 1) := by decide +kernel
theorem dX4_floorOf_54 : decode cX4_floorOf 54 = .ok (.if_icmp .gt 17, 3) := by decide +kernel
theorem dX4_floorOf_57 : decode cX4_floorOf 57 = .ok (.aload_n 0, 1) := by decide +kernel
theorem dX4_floorOf_58 : decode cX4_floorOf 58 = .ok (.getfield 31, 3) := by decide +kernel
theorem dX4_floorOf_61 : decode cX4_floorOf 61 = .ok (.sipush 1000, 3) := by decide +kernel
theorem dX4_floorOf_64 : decode cX4_floorOf 64 = .ok (.iload_n 1, 1) := by decide +kernel
theorem dX4_floorOf_65 : decode cX4_floorOf 65 = .ok (.imul, 1) := by decide +kernel
theorem dX4_floorOf_66 : decode cX4_floorOf 66 = .ok (.iload 5, 2) := by decide +kernel
theorem dX4_floorOf_68 : decode cX4_floorOf 68 = .ok (.iadd, 1) := by decide +kernel
theorem dX4_floorOf_69 : decode cX4_floorOf 69 = .ok (.iaload, 1) := by decide +kernel
theorem dX4_floorOf_70 : decode cX4_floorOf 70 = .ok (.istore_n 3, 1) := by decide +kernel
theorem dX4_floorOf_71 : decode cX4_floorOf 71 = .ok (.iinc 5 1, 3) := by decide +kernel
theorem dX4_floorOf_74 : decode cX4_floorOf 74 = .ok (.goto (-66), 3) := by decide +kernel
theorem dX4_floorOf_77 : decode cX4_floorOf 77 = .ok (.iload_n 3, 1) := by decide +kernel
theorem dX4_floorOf_78 : decode cX4_floorOf 78 = .ok (.ireturn, 1) := by decide +kernel
theorem dX4_ceilingOf_0 : decode cX4_ceilingOf 0 = .ok (.iconst 0, 1) := by decide +kernel
theorem dX4_ceilingOf_1 : decode cX4_ceilingOf 1 = .ok (.istore_n 3, 1) := by decide +kernel
theorem dX4_ceilingOf_2 : decode cX4_ceilingOf 2 = .ok (.aload_n 0, 1) := by decide +kernel
theorem dX4_ceilingOf_3 : decode cX4_ceilingOf 3 = .ok (.getfield 34, 3) := by decide +kernel
theorem dX4_ceilingOf_6 : decode cX4_ceilingOf 6 = .ok (.sipush 1000, 3) := by decide +kernel
theorem dX4_ceilingOf_9 : decode cX4_ceilingOf 9 = .ok (.iload_n 1, 1) := by decide +kernel
theorem dX4_ceilingOf_10 : decode cX4_ceilingOf 10 = .ok (.imul, 1) := by decide +kernel
theorem dX4_ceilingOf_11 : decode cX4_ceilingOf 11 = .ok (.iaload, 1) := by decide +kernel
theorem dX4_ceilingOf_12 : decode cX4_ceilingOf 12 = .ok (.istore 4, 2) := by decide +kernel
theorem dX4_ceilingOf_14 : decode cX4_ceilingOf 14 = .ok (.iload 4, 2) := by decide +kernel
theorem dX4_ceilingOf_16 : decode cX4_ceilingOf 16 = .ok (.iload_n 2, 1) := by decide +kernel
theorem dX4_ceilingOf_17 : decode cX4_ceilingOf 17 = .ok (.if_icmp .ge 26, 3) := by decide +kernel
theorem dX4_ceilingOf_20 : decode cX4_ceilingOf 20 = .ok (.iinc 3 1, 3) := by decide +kernel
theorem dX4_ceilingOf_23 : decode cX4_ceilingOf 23 = .ok (.iload 4, 2) := by decide +kernel
theorem dX4_ceilingOf_25 : decode cX4_ceilingOf 25 = .ok (.aload_n 0, 1) := by decide +kernel
theorem dX4_ceilingOf_26 : decode cX4_ceilingOf 26 = .ok (.getfield 34, 3) := by decide +kernel
theorem dX4_ceilingOf_29 : decode cX4_ceilingOf 29 = .ok (.sipush 1000, 3) := by decide +kernel
theorem dX4_ceilingOf_32 : decode cX4_ceilingOf 32 = .ok (.iload_n 1, 1) := by decide +kernel
theorem dX4_ceilingOf_33 : decode cX4_ceilingOf 33 = .ok (.imul, 1) := by decide +kernel
theorem dX4_ceilingOf_34 : decode cX4_ceilingOf 34 = .ok (.iload_n 3, 1) := by decide +kernel
theorem dX4_ceilingOf_35 : decode cX4_ceilingOf 35 = .ok (.iadd, 1) := by decide +kernel
theorem dX4_ceilingOf_36 : decode cX4_ceilingOf 36 = .ok (.iaload, 1) := by decide +kernel
theorem dX4_ceilingOf_37 : decode cX4_ceilingOf 37 = .ok (.iadd, 1) := by decide +kernel
theorem dX4_ceilingOf_38 : decode cX4_ceilingOf 38 = .ok (.istore 4, 2) := by decide +kernel
theorem dX4_ceilingOf_40 : decode cX4_ceilingOf 40 = .ok (.goto (-26), 3) := by decide +kernel
theorem dX4_ceilingOf_43 : decode cX4_ceilingOf 43 = .ok (.aload_n 0, 1) := by decide +kernel
theorem dX4_ceilingOf_44 : decode cX4_ceilingOf 44 = .ok (.getfield 31, 3) := by decide +kernel
theorem dX4_ceilingOf_47 : decode cX4_ceilingOf 47 = .ok (.sipush 1000, 3) := by decide +kernel
theorem dX4_ceilingOf_50 : decode cX4_ceilingOf 50 = .ok (.iload_n 1, 1) := by decide +kernel
theorem dX4_ceilingOf_51 : decode cX4_ceilingOf 51 = .ok (.imul, 1) := by decide +kernel
theorem dX4_ceilingOf_52 : decode cX4_ceilingOf 52 = .ok (.iload_n 3, 1) := by decide +kernel
theorem dX4_ceilingOf_53 : decode cX4_ceilingOf 53 = .ok (.iadd, 1) := by decide +kernel
theorem dX4_ceilingOf_54 : decode cX4_ceilingOf 54 = .ok (.iaload, 1) := by decide +kernel
theorem dX4_ceilingOf_55 : decode cX4_ceilingOf 55 = .ok (.ireturn, 1) := by decide +kernel
theorem dX4_bounds_0 : decode cX4_bounds 0 = .ok (.aload_n 0, 1) := by decide +kernel
theorem dX4_bounds_1 : decode cX4_bounds 1 = .ok (.iconst 0, 1) := by decide +kernel
theorem dX4_bounds_2 : decode cX4_bounds 2 = .ok (.putfield 61, 3) := by decide +kernel
theorem dX4_bounds_5 : decode cX4_bounds 5 = .ok (.aload_n 0, 1) := by decide +kernel
theorem dX4_bounds_6 : decode cX4_bounds 6 = .ok (.iload_n 1, 1) := by decide +kernel
theorem dX4_bounds_7 : decode cX4_bounds 7 = .ok (.invokevirtual 247, 3) := by decide +kernel
theorem dX4_bounds_10 : decode cX4_bounds 10 = .ok (.ifCond .eq 12, 3) := by decide +kernel
theorem dX4_bounds_13 : decode cX4_bounds 13 = .ok (.iload_n 3, 1) := by decide +kernel
theorem dX4_bounds_14 : decode cX4_bounds 14 = .ok (.iconst 0, 1) := by decide +kernel
theorem dX4_bounds_15 : decode cX4_bounds 15 = .ok (.iconst 1, 1) := by decide +kernel
theorem dX4_bounds_16 : decode cX4_bounds 16 = .ok (.invokestatic 86, 3) := by decide +kernel
theorem dX4_bounds_19 : decode cX4_bounds 19 = .ok (.ifCond .ne 9, 3) := by decide +kernel
theorem dX4_bounds_22 : decode cX4_bounds 22 = .ok (.aload_n 0, 1) := by decide +kernel
theorem dX4_bounds_23 : decode cX4_bounds 23 = .ok (.iconst 1, 1) := by decide +kernel
theorem dX4_bounds_24 : decode cX4_bounds 24 = .ok (.invokevirtual 179, 3) := by decide +kernel
theorem dX4_bounds_27 : decode cX4_bounds 27 = .ok (.ireturn, 1) := by decide +kernel
theorem dX4_bounds_28 : decode cX4_bounds 28 = .ok (.aload_n 0, 1) := by decide +kernel
theorem dX4_bounds_29 : decode cX4_bounds 29 = .ok (.iload_n 1, 1) := by decide +kernel
theorem dX4_bounds_30 : decode cX4_bounds 30 = .ok (.iload_n 2, 1) := by decide +kernel
theorem dX4_bounds_31 : decode cX4_bounds 31 = .ok (.invokevirtual 273, 3) := by decide +kernel
theorem dX4_bounds_34 : decode cX4_bounds 34 = .ok (.ifCond .ne 9, 3) := by decide +kernel
theorem dX4_bounds_37 : decode cX4_bounds 37 = .ok (.aload_n 0, 1) := by decide +kernel
theorem dX4_bounds_38 : decode cX4_bounds 38 = .ok (.iconst 2, 1) := by decide +kernel
theorem dX4_bounds_39 : decode cX4_bounds 39 = .ok (.invokevirtual 179, 3) := by decide +kernel
theorem dX4_bounds_42 : decode cX4_bounds 42 = .ok (.ireturn, 1) := by decide +kernel
theorem dX4_bounds_43 : decode cX4_bounds 43 = .ok (.aload_n 0, 1) := by decide +kernel
theorem dX4_bounds_44 : decode cX4_bounds 44 = .ok (.iload_n 3, 1) := by decide +kernel
theorem dX4_bounds_45 : decode cX4_bounds 45 = .ok (.ifCond .ne 12, 3) := by decide +kernel
theorem dX4_bounds_48 : decode cX4_bounds 48 = .ok (.aload_n 0, 1) := by decide +kernel
theorem dX4_bounds_49 : decode cX4_bounds 49 = .ok (.iload_n 1, 1) := by decide +kernel
theorem dX4_bounds_50 : decode cX4_bounds 50 = .ok (.iload_n 2, 1) := by decide +kernel
theorem dX4_bounds_51 : decode cX4_bounds 51 = .ok (.invokevirtual 301, 3) := by decide +kernel
theorem dX4_bounds_54 : decode cX4_bounds 54 = .ok (.goto 9, 3) := by decide +kernel
theorem dX4_bounds_57 : decode cX4_bounds 57 = .ok (.aload_n 0, 1) := by decide +kernel
theorem dX4_bounds_58 : decode cX4_bounds 58 = .ok (.iload_n 1, 1) := by decide +kernel
theorem dX4_bounds_59 : decode cX4_bounds 59 = .ok (.iload_n 2, 1) := by decide +kernel
theorem dX4_bounds_60 : decode cX4_bounds 60 = .ok (.invokevirtual 298, 3) := by decide +kernel
theorem dX4_bounds_63 : decode cX4_bounds 63 = .ok (.invokevirtual 195, 3) := by decide +kernel
theorem dX4_bounds_66 : decode cX4_bounds 66 = .ok (.ireturn, 1) := by decide +kernel
theorem dX4_total_0 : decode cX4_total 0 = .ok (.aload_n 0, 1) := by decide +kernel
theorem dX4_total_1 : decode cX4_total 1 = .ok (.iconst 0, 1) := by decide +kernel
theorem dX4_total_2 : decode cX4_total 2 = .ok (.putfield 61, 3) := by decide +kernel
theorem dX4_total_5 : decode cX4_total 5 = .ok (.aload_n 0, 1) := by decide +kernel
theorem dX4_total_6 : decode cX4_total 6 = .ok (.iload_n 1, 1) := by decide +kernel
theorem dX4_total_7 : decode cX4_total 7 = .ok (.invokevirtual 247, 3) := by decide +kernel
theorem dX4_total_10 : decode cX4_total 10 = .ok (.ifCond .ne 9, 3) := by decide +kernel
theorem dX4_total_13 : decode cX4_total 13 = .ok (.aload_n 0, 1) := by decide +kernel
theorem dX4_total_14 : decode cX4_total 14 = .ok (.iconst 1, 1) := by decide +kernel
theorem dX4_total_15 : decode cX4_total 15 = .ok (.invokevirtual 179, 3) := by decide +kernel
theorem dX4_total_18 : decode cX4_total 18 = .ok (.ireturn, 1) := by decide +kernel
theorem dX4_total_19 : decode cX4_total 19 = .ok (.iconst 0, 1) := by decide +kernel
theorem dX4_total_20 : decode cX4_total 20 = .ok (.istore_n 3, 1) := by decide +kernel
theorem dX4_total_21 : decode cX4_total 21 = .ok (.iconst 1, 1) := by decide +kernel
theorem dX4_total_22 : decode cX4_total 22 = .ok (.istore 4, 2) := by decide +kernel
theorem dX4_total_24 : decode cX4_total 24 = .ok (.iload 4, 2) := by decide +kernel
theorem dX4_total_26 : decode cX4_total 26 = .ok (.aload_n 0, 1) := by decide +kernel
theorem dX4_total_27 : decode cX4_total 27 = .ok (.getfield 43, 3) := by decide +kernel
theorem dX4_total_30 : decode cX4_total 30 = .ok (.iload_n 1, 1) := by decide +kernel
theorem dX4_total_31 : decode cX4_total 31 = .ok (.iaload, 1) := by decide +kernel
theorem dX4_total_32 : decode cX4_total 32 = .ok (.if_icmp .gt 33, 3) := by decide +kernel
theorem dX4_total_35 : decode cX4_total 35 = .ok (.iload_n 3, 1) := by decide +kernel
theorem dX4_total_36 : decode cX4_total 36 = .ok (.iload_n 2, 1) := by decide +kernel
theorem dX4_total_37 : decode cX4_total 37 = .ok (.ifCond .eq 13, 3) := by decide +kernel
theorem dX4_total_40 : decode cX4_total 40 = .ok (.aload_n 0, 1) := by decide +kernel
theorem dX4_total_41 : decode cX4_total 41 = .ok (.iload_n 1, 1) := by decide +kernel
theorem dX4_total_42 : decode cX4_total 42 = .ok (.iload 4, 2) := by decide +kernel
theorem dX4_total_44 : decode cX4_total 44 = .ok (.invokevirtual 298, 3) := by decide +kernel
theorem dX4_total_47 : decode cX4_total 47 = .ok (.goto 10, 3) := by decide +kernel
theorem dX4_total_50 : decode cX4_total 50 = .ok (.aload_n 0, 1) := by decide +kernel
theorem dX4_total_51 : decode cX4_total 51 = .ok (.iload_n 1, 1) := by decide +kernel
theorem dX4_total_52 : decode cX4_total 52 = .ok (.iload 4, 2) := by decide +kernel
theorem dX4_total_54 : decode cX4_total 54 = .ok (.invokevirtual 301, 3) := by decide +kernel
theorem dX4_total_57 : decode cX4_total 57 = .ok (.iadd, 1) := by decide +kernel
theorem dX4_total_58 : decode cX4_total 58 = .ok (.istore_n 3, 1) := by decide +kernel
theorem dX4_total_59 : decode cX4_total 59 = .ok (.iinc 4 1, 3) := by decide +kernel
theorem dX4_total_62 : decode cX4_total 62 = .ok (.goto (-38), 3) := by decide +kernel
theorem dX4_total_65 : decode cX4_total 65 = .ok (.aload_n 0, 1) := by decide +kernel
theorem dX4_total_66 : decode cX4_total 66 = .ok (.iload_n 3, 1) := by decide +kernel
theorem dX4_total_67 : decode cX4_total 67 = .ok (.invokevirtual 195, 3) := by decide +kernel
theorem dX4_total_70 : decode cX4_total 70 = .ok (.ireturn, 1) := by decide +kernel
theorem dX4_below_0 : decode cX4_below 0 = .ok (.iconst 0, 1) := by decide +kernel
theorem dX4_below_1 : decode cX4_below 1 = .ok (.istore_n 3, 1) := by decide +kernel
theorem dX4_below_2 : decode cX4_below 2 = .ok (.iconst 0, 1) := by decide +kernel
theorem dX4_below_3 : decode cX4_below 3 = .ok (.istore 4, 2) := by decide +kernel
theorem dX4_below_5 : decode cX4_below 5 = .ok (.iload 4, 2) := by decide +kernel
theorem dX4_below_7 : decode cX4_below 7 = .ok (.iload_n 2, 1) := by decide +kernel
theorem dX4_below_8 : decode cX4_below 8 = .ok (.if_icmp .ge 25, 3) := by decide +kernel
theorem dX4_below_11 : decode cX4_below 11 = .ok (.iload_n 3, 1) := by decide +kernel
theorem dX4_below_12 : decode cX4_below 12 = .ok (.aload_n 0, 1) := by decide +kernel
theorem dX4_below_13 : decode cX4_below 13 = .ok (.getfield 55, 3) := by decide +kernel
theorem dX4_below_16 : decode cX4_below 16 = .ok (.sipush 1000, 3) := by decide +kernel
theorem dX4_below_19 : decode cX4_below 19 = .ok (.iload_n 1, 1) := by decide +kernel
theorem dX4_below_20 : decode cX4_below 20 = .ok (.imul, 1) := by decide +kernel
theorem dX4_below_21 : decode cX4_below 21 = .ok (.iload 4, 2) := by decide +kernel
theorem dX4_below_23 : decode cX4_below 23 = .ok (.iadd, 1) := by decide +kernel
theorem dX4_below_24 : decode cX4_below 24 = .ok (.iaload, 1) := by decide +kernel
theorem dX4_below_25 : decode cX4_below 25 = .ok (.iadd, 1) := by decide +kernel
theorem dX4_below_26 : decode cX4_below 26 = .ok (.istore_n 3, 1) := by decide +kernel
theorem dX4_below_27 : decode cX4_below 27 = .ok (.iinc 4 1, 3) := by decide +kernel
theorem dX4_below_30 : decode cX4_below 30 = .ok (.goto (-25), 3) := by decide +kernel
theorem dX4_below_33 : decode cX4_below 33 = .ok (.iload_n 3, 1) := by decide +kernel
theorem dX4_below_34 : decode cX4_below 34 = .ok (.ireturn, 1) := by decide +kernel
theorem dX4_sorted_0 : decode cX4_sorted 0 = .ok (.aload_n 0, 1) := by decide +kernel
theorem dX4_sorted_1 : decode cX4_sorted 1 = .ok (.iconst 0, 1) := by decide +kernel
theorem dX4_sorted_2 : decode cX4_sorted 2 = .ok (.putfield 61, 3) := by decide +kernel
theorem dX4_sorted_5 : decode cX4_sorted 5 = .ok (.aload_n 0, 1) := by decide +kernel
theorem dX4_sorted_6 : decode cX4_sorted 6 = .ok (.iload_n 1, 1) := by decide +kernel
theorem dX4_sorted_7 : decode cX4_sorted 7 = .ok (.invokevirtual 247, 3) := by decide +kernel
theorem dX4_sorted_10 : decode cX4_sorted 10 = .ok (.ifCond .ne 9, 3) := by decide +kernel
theorem dX4_sorted_13 : decode cX4_sorted 13 = .ok (.aload_n 0, 1) := by decide +kernel
theorem dX4_sorted_14 : decode cX4_sorted 14 = .ok (.iconst 1, 1) := by decide +kernel
theorem dX4_sorted_15 : decode cX4_sorted 15 = .ok (.invokevirtual 179, 3) := by decide +kernel
theorem dX4_sorted_18 : decode cX4_sorted 18 = .ok (.ireturn, 1) := by decide +kernel
theorem dX4_sorted_19 : decode cX4_sorted 19 = .ok (.aload_n 0, 1) := by decide +kernel
theorem dX4_sorted_20 : decode cX4_sorted 20 = .ok (.iload_n 1, 1) := by decide +kernel
theorem dX4_sorted_21 : decode cX4_sorted 21 = .ok (.iload_n 2, 1) := by decide +kernel
theorem dX4_sorted_22 : decode cX4_sorted 22 = .ok (.invokevirtual 273, 3) := by decide +kernel
theorem dX4_sorted_25 : decode cX4_sorted 25 = .ok (.ifCond .ne 9, 3) := by decide +kernel
theorem dX4_sorted_28 : decode cX4_sorted 28 = .ok (.aload_n 0, 1) := by decide +kernel
theorem dX4_sorted_29 : decode cX4_sorted 29 = .ok (.iconst 2, 1) := by decide +kernel
theorem dX4_sorted_30 : decode cX4_sorted 30 = .ok (.invokevirtual 179, 3) := by decide +kernel
theorem dX4_sorted_33 : decode cX4_sorted 33 = .ok (.ireturn, 1) := by decide +kernel
theorem dX4_sorted_34 : decode cX4_sorted 34 = .ok (.iconst 0, 1) := by decide +kernel
theorem dX4_sorted_35 : decode cX4_sorted 35 = .ok (.istore_n 3, 1) := by decide +kernel
theorem dX4_sorted_36 : decode cX4_sorted 36 = .ok (.aload_n 0, 1) := by decide +kernel
theorem dX4_sorted_37 : decode cX4_sorted 37 = .ok (.getfield 55, 3) := by decide +kernel
theorem dX4_sorted_40 : decode cX4_sorted 40 = .ok (.sipush 1000, 3) := by decide +kernel
theorem dX4_sorted_43 : decode cX4_sorted 43 = .ok (.iload_n 1, 1) := by decide +kernel
theorem dX4_sorted_44 : decode cX4_sorted 44 = .ok (.imul, 1) := by decide +kernel
theorem dX4_sorted_45 : decode cX4_sorted 45 = .ok (.iaload, 1) := by decide +kernel
theorem dX4_sorted_46 : decode cX4_sorted 46 = .ok (.istore 4, 2) := by decide +kernel
theorem dX4_sorted_48 : decode cX4_sorted 48 = .ok (.iload 4, 2) := by decide +kernel
theorem dX4_sorted_50 : decode cX4_sorted 50 = .ok (.iload_n 2, 1) := by decide +kernel
theorem dX4_sorted_51 : decode cX4_sorted 51 = .ok (.if_icmp .ge 26, 3) := by decide +kernel
theorem dX4_sorted_54 : decode cX4_sorted 54 = .ok (.iinc 3 1, 3) := by decide +kernel
theorem dX4_sorted_57 : decode cX4_sorted 57 = .ok (.iload 4, 2) := by decide +kernel
theorem dX4_sorted_59 : decode cX4_sorted 59 = .ok (.aload_n 0, 1) := by decide +kernel
theorem dX4_sorted_60 : decode cX4_sorted 60 = .ok (.getfield 55, 3) := by decide +kernel
theorem dX4_sorted_63 : decode cX4_sorted 63 = .ok (.sipush 1000, 3) := by decide +kernel
theorem dX4_sorted_66 : decode cX4_sorted 66 = .ok (.iload_n 1, 1) := by decide +kernel
theorem dX4_sorted_67 : decode cX4_sorted 67 = .ok (.imul, 1) := by decide +kernel
theorem dX4_sorted_68 : decode cX4_sorted 68 = .ok (.iload_n 3, 1) := by decide +kernel
theorem dX4_sorted_69 : decode cX4_sorted 69 = .ok (.iadd, 1) := by decide +kernel
theorem dX4_sorted_70 : decode cX4_sorted 70 = .ok (.iaload, 1) := by decide +kernel
theorem dX4_sorted_71 : decode cX4_sorted 71 = .ok (.iadd, 1) := by decide +kernel
theorem dX4_sorted_72 : decode cX4_sorted 72 = .ok (.istore 4, 2) := by decide +kernel
theorem dX4_sorted_74 : decode cX4_sorted 74 = .ok (.goto (-26), 3) := by decide +kernel
theorem dX4_sorted_77 : decode cX4_sorted 77 = .ok (.aload_n 0, 1) := by decide +kernel
theorem dX4_sorted_78 : decode cX4_sorted 78 = .ok (.iload_n 3, 1) := by decide +kernel
theorem dX4_sorted_79 : decode cX4_sorted 79 = .ok (.invokevirtual 195, 3) := by decide +kernel
theorem dX4_sorted_82 : decode cX4_sorted 82 = .ok (.ireturn, 1) := by decide +kernel
theorem dX4_times_0 : decode cX4_times 0 = .ok (.aload_n 0, 1) := by decide +kernel
theorem dX4_times_1 : decode cX4_times 1 = .ok (.iconst 0, 1) := by decide +kernel
theorem dX4_times_2 : decode cX4_times 2 = .ok (.putfield 61, 3) := by decide +kernel
theorem dX4_times_5 : decode cX4_times 5 = .ok (.aload_n 0, 1) := by decide +kernel
theorem dX4_times_6 : decode cX4_times 6 = .ok (.iload_n 1, 1) := by decide +kernel
theorem dX4_times_7 : decode cX4_times 7 = .ok (.invokevirtual 247, 3) := by decide +kernel
theorem dX4_times_10 : decode cX4_times 10 = .ok (.ifCond .ne 9, 3) := by decide +kernel
theorem dX4_times_13 : decode cX4_times 13 = .ok (.aload_n 0, 1) := by decide +kernel
theorem dX4_times_14 : decode cX4_times 14 = .ok (.iconst 1, 1) := by decide +kernel
theorem dX4_times_15 : decode cX4_times 15 = .ok (.invokevirtual 179, 3) := by decide +kernel
theorem dX4_times_18 : decode cX4_times 18 = .ok (.ireturn, 1) := by decide +kernel
theorem dX4_times_19 : decode cX4_times 19 = .ok (.iload_n 2, 1) := by decide +kernel
theorem dX4_times_20 : decode cX4_times 20 = .ok (.invokestatic 304, 3) := by decide +kernel
theorem dX4_times_23 : decode cX4_times 23 = .ok (.ifCond .eq 22, 3) := by decide +kernel
theorem dX4_times_26 : decode cX4_times 26 = .ok (.aload_n 0, 1) := by decide +kernel
theorem dX4_times_27 : decode cX4_times 27 = .ok (.aload_n 0, 1) := by decide +kernel
theorem dX4_times_28 : decode cX4_times 28 = .ok (.getfield 55, 3) := by decide +kernel
theorem dX4_times_31 : decode cX4_times 31 = .ok (.sipush 1000, 3) := by decide +kernel
theorem dX4_times_34 : decode cX4_times 34 = .ok (.iload_n 1, 1) := by decide +kernel
theorem dX4_times_35 : decode cX4_times 35 = .ok (.imul, 1) := by decide +kernel
theorem dX4_times_36 : decode cX4_times 36 = .ok (.iload_n 2, 1) := by decide +kernel
theorem dX4_times_37 : decode cX4_times 37 = .ok (.iadd, 1) := by decide +kernel
theorem dX4_times_38 : decode cX4_times 38 = .ok (.iaload, 1) := by decide +kernel
theorem dX4_times_39 : decode cX4_times 39 = .ok (.invokevirtual 195, 3) := by decide +kernel
theorem dX4_times_42 : decode cX4_times 42 = .ok (.goto 8, 3) := by decide +kernel
theorem dX4_times_45 : decode cX4_times 45 = .ok (.aload_n 0, 1) := by decide +kernel
theorem dX4_times_46 : decode cX4_times 46 = .ok (.iconst 2, 1) := by decide +kernel
theorem dX4_times_47 : decode cX4_times 47 = .ok (.invokevirtual 179, 3) := by decide +kernel
theorem dX4_times_50 : decode cX4_times 50 = .ok (.ireturn, 1) := by decide +kernel
theorem dX4_missOf_0 : decode cX4_missOf 0 = .ok (.aload_n 0, 1) := by decide +kernel
theorem dX4_missOf_1 : decode cX4_missOf 1 = .ok (.getfield 31, 3) := by decide +kernel
theorem dX4_missOf_4 : decode cX4_missOf 4 = .ok (.sipush 1000, 3) := by decide +kernel
theorem dX4_missOf_7 : decode cX4_missOf 7 = .ok (.iload_n 1, 1) := by decide +kernel
theorem dX4_missOf_8 : decode cX4_missOf 8 = .ok (.imul, 1) := by decide +kernel
theorem dX4_missOf_9 : decode cX4_missOf 9 = .ok (.aload_n 0, 1) := by decide +kernel
theorem dX4_missOf_10 : decode cX4_missOf 10 = .ok (.iload_n 1, 1) := by decide +kernel
theorem dX4_missOf_11 : decode cX4_missOf 11 = .ok (.iload_n 2, 1) := by decide +kernel
theorem dX4_missOf_12 : decode cX4_missOf 12 = .ok (.invokevirtual 276, 3) := by decide +kernel
theorem dX4_missOf_15 : decode cX4_missOf 15 = .ok (.iadd, 1) := by decide +kernel
theorem dX4_missOf_16 : decode cX4_missOf 16 = .ok (.iaload, 1) := by decide +kernel
theorem dX4_missOf_17 : decode cX4_missOf 17 = .ok (.istore_n 3, 1) := by decide +kernel
theorem dX4_missOf_18 : decode cX4_missOf 18 = .ok (.aload_n 0, 1) := by decide +kernel
theorem dX4_missOf_19 : decode cX4_missOf 19 = .ok (.iload_n 1, 1) := by decide +kernel
theorem dX4_missOf_20 : decode cX4_missOf 20 = .ok (.iload_n 3, 1) := by decide +kernel
theorem dX4_missOf_21 : decode cX4_missOf 21 = .ok (.invokevirtual 313, 3) := by decide +kernel
theorem dX4_missOf_24 : decode cX4_missOf 24 = .ok (.iconst 1, 1) := by decide +kernel
theorem dX4_missOf_25 : decode cX4_missOf 25 = .ok (.iadd, 1) := by decide +kernel
theorem dX4_missOf_26 : decode cX4_missOf 26 = .ok (.istore 4, 2) := by decide +kernel
theorem dX4_missOf_28 : decode cX4_missOf 28 = .ok (.iload 4, 2) := by decide +kernel
theorem dX4_missOf_30 : decode cX4_missOf 30 = .ok (.aload_n 0, 1) := by decide +kernel
theorem dX4_missOf_31 : decode cX4_missOf 31 = .ok (.getfield 55, 3) := by decide +kernel
theorem dX4_missOf_34 : decode cX4_missOf 34 = .ok (.sipush 1000, 3) := by decide +kernel
theorem dX4_missOf_37 : decode cX4_missOf 37 = .ok (.iload_n 1, 1) := by decide +kernel
theorem dX4_missOf_38 : decode cX4_missOf 38 = .ok (.imul, 1) := by decide +kernel
theorem dX4_missOf_39 : decode cX4_missOf 39 = .ok (.iload_n 3, 1) := by decide +kernel
theorem dX4_missOf_40 : decode cX4_missOf 40 = .ok (.iadd, 1) := by decide +kernel
theorem dX4_missOf_41 : decode cX4_missOf 41 = .ok (.iaload, 1) := by decide +kernel
theorem dX4_missOf_42 : decode cX4_missOf 42 = .ok (.iadd, 1) := by decide +kernel
theorem dX4_missOf_43 : decode cX4_missOf 43 = .ok (.iconst 1, 1) := by decide +kernel
theorem dX4_missOf_44 : decode cX4_missOf 44 = .ok (.isub, 1) := by decide +kernel
theorem dX4_missOf_45 : decode cX4_missOf 45 = .ok (.istore 5, 2) := by decide +kernel
theorem dX4_missOf_47 : decode cX4_missOf 47 = .ok (.iload_n 2, 1) := by decide +kernel
theorem dX4_missOf_48 : decode cX4_missOf 48 = .ok (.iload 4, 2) := by decide +kernel
theorem dX4_missOf_50 : decode cX4_missOf 50 = .ok (.if_icmp .ge 10, 3) := by decide +kernel
theorem dX4_missOf_53 : decode cX4_missOf 53 = .ok (.iload 4, 2) := by decide +kernel
theorem dX4_missOf_55 : decode cX4_missOf 55 = .ok (.iload_n 2, 1) := by decide +kernel
theorem dX4_missOf_56 : decode cX4_missOf 56 = .ok (.isub, 1) := by decide +kernel
theorem dX4_missOf_57 : decode cX4_missOf 57 = .ok (.goto 17, 3) := by decide +kernel
theorem dX4_missOf_60 : decode cX4_missOf 60 = .ok (.iload_n 2, 1) := by decide +kernel
theorem dX4_missOf_61 : decode cX4_missOf 61 = .ok (.iload 5, 2) := by decide +kernel
theorem dX4_missOf_63 : decode cX4_missOf 63 = .ok (.if_icmp .le 10, 3) := by decide +kernel
theorem dX4_missOf_66 : decode cX4_missOf 66 = .ok (.iload_n 2, 1) := by decide +kernel
theorem dX4_missOf_67 : decode cX4_missOf 67 = .ok (.iload 5, 2) := by decide +kernel
theorem dX4_missOf_69 : decode cX4_missOf 69 = .ok (.isub, 1) := by decide +kernel
theorem dX4_missOf_70 : decode cX4_missOf 70 = .ok (.goto 4, 3) := by decide +kernel
theorem dX4_missOf_73 : decode cX4_missOf 73 = .ok (.iconst 0, 1) := by decide +kernel
theorem dX4_missOf_74 : decode cX4_missOf 74 = .ok (.ireturn, 1) := by decide +kernel
theorem dX4_miss_0 : decode cX4_miss 0 = .ok (.aload_n 0, 1) := by decide +kernel
theorem dX4_miss_1 : decode cX4_miss 1 = .ok (.iconst 0, 1) := by decide +kernel
theorem dX4_miss_2 : decode cX4_miss 2 = .ok (.putfield 61, 3) := by decide +kernel
theorem dX4_miss_5 : decode cX4_miss 5 = .ok (.aload_n 0, 1) := by decide +kernel
theorem dX4_miss_6 : decode cX4_miss 6 = .ok (.iload_n 1, 1) := by decide +kernel
theorem dX4_miss_7 : decode cX4_miss 7 = .ok (.invokevirtual 247, 3) := by decide +kernel
theorem dX4_miss_10 : decode cX4_miss 10 = .ok (.ifCond .ne 9, 3) := by decide +kernel
theorem dX4_miss_13 : decode cX4_miss 13 = .ok (.aload_n 0, 1) := by decide +kernel
theorem dX4_miss_14 : decode cX4_miss 14 = .ok (.iconst 1, 1) := by decide +kernel
theorem dX4_miss_15 : decode cX4_miss 15 = .ok (.invokevirtual 179, 3) := by decide +kernel
theorem dX4_miss_18 : decode cX4_miss 18 = .ok (.ireturn, 1) := by decide +kernel
theorem dX4_miss_19 : decode cX4_miss 19 = .ok (.aload_n 0, 1) := by decide +kernel
theorem dX4_miss_20 : decode cX4_miss 20 = .ok (.iload_n 1, 1) := by decide +kernel
theorem dX4_miss_21 : decode cX4_miss 21 = .ok (.iload_n 2, 1) := by decide +kernel
theorem dX4_miss_22 : decode cX4_miss 22 = .ok (.invokevirtual 273, 3) := by decide +kernel
theorem dX4_miss_25 : decode cX4_miss 25 = .ok (.ifCond .eq 16, 3) := by decide +kernel
theorem dX4_miss_28 : decode cX4_miss 28 = .ok (.aload_n 0, 1) := by decide +kernel
theorem dX4_miss_29 : decode cX4_miss 29 = .ok (.aload_n 0, 1) := by decide +kernel
theorem dX4_miss_30 : decode cX4_miss 30 = .ok (.iload_n 1, 1) := by decide +kernel
theorem dX4_miss_31 : decode cX4_miss 31 = .ok (.iload_n 2, 1) := by decide +kernel
theorem dX4_miss_32 : decode cX4_miss 32 = .ok (.invokevirtual 316, 3) := by decide +kernel
theorem dX4_miss_35 : decode cX4_miss 35 = .ok (.invokevirtual 195, 3) := by decide +kernel
theorem dX4_miss_38 : decode cX4_miss 38 = .ok (.goto 8, 3) := by decide +kernel
theorem dX4_miss_41 : decode cX4_miss 41 = .ok (.aload_n 0, 1) := by decide +kernel
theorem dX4_miss_42 : decode cX4_miss 42 = .ok (.iconst 2, 1) := by decide +kernel
theorem dX4_miss_43 : decode cX4_miss 43 = .ok (.invokevirtual 179, 3) := by decide +kernel
theorem dX4_miss_46 : decode cX4_miss 46 = .ok (.ireturn, 1) := by decide +kernel
theorem dX4_missed_0 : decode cX4_missed 0 = .ok (.aload_n 0, 1) := by decide +kernel
theorem dX4_missed_1 : decode cX4_missed 1 = .ok (.iconst 0, 1) := by decide +kernel
theorem dX4_missed_2 : decode cX4_missed 2 = .ok (.putfield 61, 3) := by decide +kernel
theorem dX4_missed_5 : decode cX4_missed 5 = .ok (.aload_n 0, 1) := by decide +kernel
theorem dX4_missed_6 : decode cX4_missed 6 = .ok (.iload_n 1, 1) := by decide +kernel
theorem dX4_missed_7 : decode cX4_missed 7 = .ok (.invokevirtual 247, 3) := by decide +kernel
theorem dX4_missed_10 : decode cX4_missed 10 = .ok (.ifCond .ne 9, 3) := by decide +kernel
theorem dX4_missed_13 : decode cX4_missed 13 = .ok (.aload_n 0, 1) := by decide +kernel
theorem dX4_missed_14 : decode cX4_missed 14 = .ok (.iconst 1, 1) := by decide +kernel
theorem dX4_missed_15 : decode cX4_missed 15 = .ok (.invokevirtual 179, 3) := by decide +kernel
theorem dX4_missed_18 : decode cX4_missed 18 = .ok (.ireturn, 1) := by decide +kernel
theorem dX4_missed_19 : decode cX4_missed 19 = .ok (.bipush (-2), 2) := by decide +kernel
theorem dX4_missed_21 : decode cX4_missed 21 = .ok (.istore_n 2, 1) := by decide +kernel
theorem dX4_missed_22 : decode cX4_missed 22 = .ok (.iconst 1, 1) := by decide +kernel
theorem dX4_missed_23 : decode cX4_missed 23 = .ok (.istore_n 3, 1) := by decide +kernel
theorem dX4_missed_24 : decode cX4_missed 24 = .ok (.iload_n 3, 1) := by decide +kernel
theorem dX4_missed_25 : decode cX4_missed 25 = .ok (.aload_n 0, 1) := by decide +kernel
theorem dX4_missed_26 : decode cX4_missed 26 = .ok (.getfield 43, 3) := by decide +kernel
theorem dX4_missed_29 : decode cX4_missed 29 = .ok (.iload_n 1, 1) := by decide +kernel
theorem dX4_missed_30 : decode cX4_missed 30 = .ok (.iaload, 1) := by decide +kernel
theorem dX4_missed_31 : decode cX4_missed 31 = .ok (.if_icmp .gt 26, 3) := by decide +kernel
theorem dX4_missed_34 : decode cX4_missed 34 = .ok (.aload_n 0, 1) := by decide +kernel
theorem dX4_missed_35 : decode cX4_missed 35 = .ok (.iload_n 1, 1) := by decide +kernel
theorem dX4_missed_36 : decode cX4_missed 36 = .ok (.iload_n 3, 1) := by decide +kernel
theorem dX4_missed_37 : decode cX4_missed 37 = .ok (.invokevirtual 316, 3) := by decide +kernel
theorem dX4_missed_40 : decode cX4_missed 40 = .ok (.iload_n 2, 1) := by decide +kernel
theorem dX4_missed_41 : decode cX4_missed 41 = .ok (.if_icmp .le 10, 3) := by decide +kernel
theorem dX4_missed_44 : decode cX4_missed 44 = .ok (.aload_n 0, 1) := by decide +kernel
theorem dX4_missed_45 : decode cX4_missed 45 = .ok (.iload_n 1, 1) := by decide +kernel
theorem dX4_missed_46 : decode cX4_missed 46 = .ok (.iload_n 3, 1) := by decide +kernel
theorem dX4_missed_47 : decode cX4_missed 47 = .ok (.invokevirtual 316, 3) := by decide +kernel
theorem dX4_missed_50 : decode cX4_missed 50 = .ok (.istore_n 2, 1) := by decide +kernel
theorem dX4_missed_51 : decode cX4_missed 51 = .ok (.iinc 3 1, 3) := by decide +kernel
theorem dX4_missed_54 : decode cX4_missed 54 = .ok (.goto (-30), 3) := by decide +kernel
theorem dX4_missed_57 : decode cX4_missed 57 = .ok (.aload_n 0, 1) := by decide +kernel
theorem dX4_missed_58 : decode cX4_missed 58 = .ok (.iload_n 2, 1) := by decide +kernel
theorem dX4_missed_59 : decode cX4_missed 59 = .ok (.invokevirtual 195, 3) := by decide +kernel
theorem dX4_missed_62 : decode cX4_missed 62 = .ok (.ireturn, 1) := by decide +kernel
theorem dX4_sum_0 : decode cX4_sum 0 = .ok (.aload_n 0, 1) := by decide +kernel
theorem dX4_sum_1 : decode cX4_sum 1 = .ok (.iconst 0, 1) := by decide +kernel
theorem dX4_sum_2 : decode cX4_sum 2 = .ok (.putfield 61, 3) := by decide +kernel
theorem dX4_sum_5 : decode cX4_sum 5 = .ok (.aload_n 0, 1) := by decide +kernel
theorem dX4_sum_6 : decode cX4_sum 6 = .ok (.iload_n 1, 1) := by decide +kernel
theorem dX4_sum_7 : decode cX4_sum 7 = .ok (.invokevirtual 247, 3) := by decide +kernel
theorem dX4_sum_10 : decode cX4_sum 10 = .ok (.ifCond .ne 9, 3) := by decide +kernel
theorem dX4_sum_13 : decode cX4_sum 13 = .ok (.aload_n 0, 1) := by decide +kernel
theorem dX4_sum_14 : decode cX4_sum 14 = .ok (.iconst 1, 1) := by decide +kernel
theorem dX4_sum_15 : decode cX4_sum 15 = .ok (.invokevirtual 179, 3) := by decide +kernel
theorem dX4_sum_18 : decode cX4_sum 18 = .ok (.ireturn, 1) := by decide +kernel
theorem dX4_sum_19 : decode cX4_sum 19 = .ok (.iconst 0, 1) := by decide +kernel
theorem dX4_sum_20 : decode cX4_sum 20 = .ok (.istore_n 2, 1) := by decide +kernel
theorem dX4_sum_21 : decode cX4_sum 21 = .ok (.iconst 0, 1) := by decide +kernel
theorem dX4_sum_22 : decode cX4_sum 22 = .ok (.istore_n 3, 1) := by decide +kernel
