theorem dX7_houseOf_14 : decode cX7_houseOf 14 = .ok (.if_icmp .le 10, 3) := by decide +kernel
theorem dX7_houseOf_17 : decode cX7_houseOf 17 = .ok (.aload_n 0, 1) := by decide +kernel
theorem dX7_houseOf_18 : decode cX7_houseOf 18 = .ok (.ldc 69, 2) := by decide +kernel
theorem dX7_houseOf_20 : decode cX7_houseOf 20 = .ok (.invokevirtual 70, 3) := by decide +kernel
theorem dX7_houseOf_23 : decode cX7_houseOf 23 = .ok (.ireturn, 1) := by decide +kernel
theorem dX7_houseOf_24 : decode cX7_houseOf 24 = .ok (.iload_n 2, 1) := by decide +kernel
theorem dX7_houseOf_25 : decode cX7_houseOf 25 = .ok (.ifCond .ne 15, 3) := by decide +kernel
theorem dX7_houseOf_28 : decode cX7_houseOf 28 = .ok (.aload_n 0, 1) := by decide +kernel
theorem dX7_houseOf_29 : decode cX7_houseOf 29 = .ok (.getfield 10, 3) := by decide +kernel
theorem dX7_houseOf_32 : decode cX7_houseOf 32 = .ok (.getfield 138, 3) := by decide +kernel
theorem dX7_houseOf_35 : decode cX7_houseOf 35 = .ok (.iload_n 1, 1) := by decide +kernel
theorem dX7_houseOf_36 : decode cX7_houseOf 36 = .ok (.iaload, 1) := by decide +kernel
theorem dX7_houseOf_37 : decode cX7_houseOf 37 = .ok (.goto 12, 3) := by decide +kernel
theorem dX7_houseOf_40 : decode cX7_houseOf 40 = .ok (.aload_n 0, 1) := by decide +kernel
theorem dX7_houseOf_41 : decode cX7_houseOf 41 = .ok (.getfield 10, 3) := by decide +kernel
theorem dX7_houseOf_44 : decode cX7_houseOf 44 = .ok (.getfield 141, 3) := by decide +kernel
theorem dX7_houseOf_47 : decode cX7_houseOf 47 = .ok (.iload_n 1, 1) := by decide +kernel
theorem dX7_houseOf_48 : decode cX7_houseOf 48 = .ok (.iaload, 1) := by decide +kernel
theorem dX7_houseOf_49 : decode cX7_houseOf 49 = .ok (.ireturn, 1) := by decide +kernel
theorem dX7_turn_0 : decode cX7_turn 0 = .ok (.aload_n 0, 1) := by decide +kernel
theorem dX7_turn_1 : decode cX7_turn 1 = .ok (.iload_n 1, 1) := by decide +kernel
theorem dX7_turn_2 : decode cX7_turn 2 = .ok (.invokevirtual 135, 3) := by decide +kernel
theorem dX7_turn_5 : decode cX7_turn 5 = .ok (.ifCond .eq 10, 3) := by decide +kernel
theorem dX7_turn_8 : decode cX7_turn 8 = .ok (.iload_n 2, 1) := by decide +kernel
theorem dX7_turn_9 : decode cX7_turn 9 = .ok (.invokestatic 87, 3) := by decide +kernel
theorem dX7_turn_12 : decode cX7_turn 12 = .ok (.ifCond .ne 10, 3) := by decide +kernel
theorem dX7_turn_15 : decode cX7_turn 15 = .ok (.aload_n 0, 1) := by decide +kernel
theorem dX7_turn_16 : decode cX7_turn 16 = .ok (.ldc 69, 2) := by decide +kernel
theorem dX7_turn_18 : decode cX7_turn 18 = .ok (.invokevirtual 70, 3) := by decide +kernel
theorem dX7_turn_21 : decode cX7_turn 21 = .ok (.ireturn, 1) := by decide +kernel
theorem dX7_turn_22 : decode cX7_turn 22 = .ok (.aload_n 0, 1) := by decide +kernel
theorem dX7_turn_23 : decode cX7_turn 23 = .ok (.getfield 10, 3) := by decide +kernel
theorem dX7_turn_26 : decode cX7_turn 26 = .ok (.getfield 141, 3) := by decide +kernel
theorem dX7_turn_29 : decode cX7_turn 29 = .ok (.iload_n 1, 1) := by decide +kernel
theorem dX7_turn_30 : decode cX7_turn 30 = .ok (.iaload, 1) := by decide +kernel
theorem dX7_turn_31 : decode cX7_turn 31 = .ok (.istore_n 3, 1) := by decide +kernel
theorem dX7_turn_32 : decode cX7_turn 32 = .ok (.aload_n 0, 1) := by decide +kernel
theorem dX7_turn_33 : decode cX7_turn 33 = .ok (.getfield 10, 3) := by decide +kernel
theorem dX7_turn_36 : decode cX7_turn 36 = .ok (.getfield 141, 3) := by decide +kernel
theorem dX7_turn_39 : decode cX7_turn 39 = .ok (.iload_n 1, 1) := by decide +kernel
theorem dX7_turn_40 : decode cX7_turn 40 = .ok (.iload_n 2, 1) := by decide +kernel
theorem dX7_turn_41 : decode cX7_turn 41 = .ok (.iastore, 1) := by decide +kernel
theorem dX7_turn_42 : decode cX7_turn 42 = .ok (.iload_n 3, 1) := by decide +kernel
theorem dX7_turn_43 : decode cX7_turn 43 = .ok (.ireturn, 1) := by decide +kernel
theorem dX7_as_0 : decode cX7_as 0 = .ok (.aload_n 0, 1) := by decide +kernel
theorem dX7_as_1 : decode cX7_as 1 = .ok (.iload_n 1, 1) := by decide +kernel
theorem dX7_as_2 : decode cX7_as 2 = .ok (.invokevirtual 135, 3) := by decide +kernel
theorem dX7_as_5 : decode cX7_as 5 = .ok (.ifCond .eq 10, 3) := by decide +kernel
theorem dX7_as_8 : decode cX7_as 8 = .ok (.iload_n 2, 1) := by decide +kernel
theorem dX7_as_9 : decode cX7_as 9 = .ok (.invokestatic 124, 3) := by decide +kernel
theorem dX7_as_12 : decode cX7_as 12 = .ok (.ifCond .ne 10, 3) := by decide +kernel
theorem dX7_as_15 : decode cX7_as 15 = .ok (.aload_n 0, 1) := by decide +kernel
theorem dX7_as_16 : decode cX7_as 16 = .ok (.ldc 69, 2) := by decide +kernel
theorem dX7_as_18 : decode cX7_as 18 = .ok (.invokevirtual 70, 3) := by decide +kernel
theorem dX7_as_21 : decode cX7_as 21 = .ok (.ireturn, 1) := by decide +kernel
theorem dX7_as_22 : decode cX7_as 22 = .ok (.aload_n 0, 1) := by decide +kernel
theorem dX7_as_23 : decode cX7_as 23 = .ok (.getfield 10, 3) := by decide +kernel
theorem dX7_as_26 : decode cX7_as 26 = .ok (.getfield 138, 3) := by decide +kernel
theorem dX7_as_29 : decode cX7_as 29 = .ok (.iload_n 1, 1) := by decide +kernel
theorem dX7_as_30 : decode cX7_as 30 = .ok (.iaload, 1) := by decide +kernel
theorem dX7_as_31 : decode cX7_as 31 = .ok (.iload_n 2, 1) := by decide +kernel
theorem dX7_as_32 : decode cX7_as 32 = .ok (.invokestatic 144, 3) := by decide +kernel
theorem dX7_as_35 : decode cX7_as 35 = .ok (.ifCond .ne 10, 3) := by decide +kernel
theorem dX7_as_38 : decode cX7_as 38 = .ok (.aload_n 0, 1) := by decide +kernel
theorem dX7_as_39 : decode cX7_as 39 = .ok (.ldc 147, 2) := by decide +kernel
theorem dX7_as_41 : decode cX7_as 41 = .ok (.invokevirtual 70, 3) := by decide +kernel
theorem dX7_as_44 : decode cX7_as 44 = .ok (.ireturn, 1) := by decide +kernel
theorem dX7_as_45 : decode cX7_as 45 = .ok (.aload_n 0, 1) := by decide +kernel
theorem dX7_as_46 : decode cX7_as 46 = .ok (.getfield 10, 3) := by decide +kernel
theorem dX7_as_49 : decode cX7_as 49 = .ok (.getfield 141, 3) := by decide +kernel
theorem dX7_as_52 : decode cX7_as 52 = .ok (.iload_n 1, 1) := by decide +kernel
theorem dX7_as_53 : decode cX7_as 53 = .ok (.iaload, 1) := by decide +kernel
theorem dX7_as_54 : decode cX7_as 54 = .ok (.ireturn, 1) := by decide +kernel
theorem dX7_gain_0 : decode cX7_gain 0 = .ok (.aload_n 0, 1) := by decide +kernel
theorem dX7_gain_1 : decode cX7_gain 1 = .ok (.iload_n 1, 1) := by decide +kernel
theorem dX7_gain_2 : decode cX7_gain 2 = .ok (.invokevirtual 135, 3) := by decide +kernel
theorem dX7_gain_5 : decode cX7_gain 5 = .ok (.ifCond .eq 10, 3) := by decide +kernel
theorem dX7_gain_8 : decode cX7_gain 8 = .ok (.iload_n 2, 1) := by decide +kernel
theorem dX7_gain_9 : decode cX7_gain 9 = .ok (.invokestatic 104, 3) := by decide +kernel
theorem dX7_gain_12 : decode cX7_gain 12 = .ok (.ifCond .ne 10, 3) := by decide +kernel
theorem dX7_gain_15 : decode cX7_gain 15 = .ok (.aload_n 0, 1) := by decide +kernel
theorem dX7_gain_16 : decode cX7_gain 16 = .ok (.ldc 69, 2) := by decide +kernel
theorem dX7_gain_18 : decode cX7_gain 18 = .ok (.invokevirtual 70, 3) := by decide +kernel
theorem dX7_gain_21 : decode cX7_gain 21 = .ok (.ireturn, 1) := by decide +kernel
theorem dX7_gain_22 : decode cX7_gain 22 = .ok (.aload_n 0, 1) := by decide +kernel
theorem dX7_gain_23 : decode cX7_gain 23 = .ok (.getfield 10, 3) := by decide +kernel
theorem dX7_gain_26 : decode cX7_gain 26 = .ok (.getfield 77, 3) := by decide +kernel
theorem dX7_gain_29 : decode cX7_gain 29 = .ok (.iload_n 2, 1) := by decide +kernel
theorem dX7_gain_30 : decode cX7_gain 30 = .ok (.invokevirtual 107, 3) := by decide +kernel
theorem dX7_gain_33 : decode cX7_gain 33 = .ok (.aload_n 0, 1) := by decide +kernel
theorem dX7_gain_34 : decode cX7_gain 34 = .ok (.getfield 10, 3) := by decide +kernel
theorem dX7_gain_37 : decode cX7_gain 37 = .ok (.aload_n 0, 1) := by decide +kernel
theorem dX7_gain_38 : decode cX7_gain 38 = .ok (.getfield 10, 3) := by decide +kernel
theorem dX7_gain_41 : decode cX7_gain 41 = .ok (.getfield 138, 3) := by decide +kernel
theorem dX7_gain_44 : decode cX7_gain 44 = .ok (.iload_n 1, 1) := by decide +kernel
theorem dX7_gain_45 : decode cX7_gain 45 = .ok (.iaload, 1) := by decide +kernel
theorem dX7_gain_46 : decode cX7_gain 46 = .ok (.aload_n 0, 1) := by decide +kernel
theorem dX7_gain_47 : decode cX7_gain 47 = .ok (.getfield 10, 3) := by decide +kernel
theorem dX7_gain_50 : decode cX7_gain 50 = .ok (.getfield 77, 3) := by decide +kernel
theorem dX7_gain_53 : decode cX7_gain 53 = .ok (.aload_n 0, 1) := by decide +kernel
theorem dX7_gain_54 : decode cX7_gain 54 = .ok (.getfield 10, 3) := by decide +kernel
theorem dX7_gain_57 : decode cX7_gain 57 = .ok (.getfield 141, 3) := by decide +kernel
theorem dX7_gain_60 : decode cX7_gain 60 = .ok (.iload_n 1, 1) := by decide +kernel
theorem dX7_gain_61 : decode cX7_gain 61 = .ok (.iaload, 1) := by decide +kernel
theorem dX7_gain_62 : decode cX7_gain 62 = .ok (.invokevirtual 117, 3) := by decide +kernel
theorem dX7_gain_65 : decode cX7_gain 65 = .ok (.iload_n 2, 1) := by decide +kernel
theorem dX7_gain_66 : decode cX7_gain 66 = .ok (.invokestatic 148, 3) := by decide +kernel
theorem dX7_gain_69 : decode cX7_gain 69 = .ok (.invokevirtual 151, 3) := by decide +kernel
theorem dX7_gain_72 : decode cX7_gain 72 = .ok (.ireturn, 1) := by decide +kernel
theorem dX7_sum_0 : decode cX7_sum 0 = .ok (.aload_n 0, 1) := by decide +kernel
theorem dX7_sum_1 : decode cX7_sum 1 = .ok (.iload_n 1, 1) := by decide +kernel
theorem dX7_sum_2 : decode cX7_sum 2 = .ok (.invokevirtual 135, 3) := by decide +kernel
theorem dX7_sum_5 : decode cX7_sum 5 = .ok (.ifCond .eq 11, 3) := by decide +kernel
theorem dX7_sum_8 : decode cX7_sum 8 = .ok (.iload_n 2, 1) := by decide +kernel
theorem dX7_sum_9 : decode cX7_sum 9 = .ok (.iload_n 3, 1) := by decide +kernel
theorem dX7_sum_10 : decode cX7_sum 10 = .ok (.invokestatic 155, 3) := by decide +kernel
theorem dX7_sum_13 : decode cX7_sum 13 = .ok (.ifCond .ne 10, 3) := by decide +kernel
theorem dX7_sum_16 : decode cX7_sum 16 = .ok (.aload_n 0, 1) := by decide +kernel
theorem dX7_sum_17 : decode cX7_sum 17 = .ok (.ldc 69, 2) := by decide +kernel
theorem dX7_sum_19 : decode cX7_sum 19 = .ok (.invokevirtual 70, 3) := by decide +kernel
theorem dX7_sum_22 : decode cX7_sum 22 = .ok (.ireturn, 1) := by decide +kernel
theorem dX7_sum_23 : decode cX7_sum 23 = .ok (.aload_n 0, 1) := by decide +kernel
theorem dX7_sum_24 : decode cX7_sum 24 = .ok (.getfield 29, 3) := by decide +kernel
theorem dX7_sum_27 : decode cX7_sum 27 = .ok (.aload_n 0, 1) := by decide +kernel
theorem dX7_sum_28 : decode cX7_sum 28 = .ok (.getfield 10, 3) := by decide +kernel
theorem dX7_sum_31 : decode cX7_sum 31 = .ok (.getfield 77, 3) := by decide +kernel
theorem dX7_sum_34 : decode cX7_sum 34 = .ok (.iload_n 2, 1) := by decide +kernel
theorem dX7_sum_35 : decode cX7_sum 35 = .ok (.iload_n 3, 1) := by decide +kernel
theorem dX7_sum_36 : decode cX7_sum 36 = .ok (.invokevirtual 158, 3) := by decide +kernel
theorem dX7_sum_39 : decode cX7_sum 39 = .ok (.aload_n 0, 1) := by decide +kernel
theorem dX7_sum_40 : decode cX7_sum 40 = .ok (.getfield 29, 3) := by decide +kernel
theorem dX7_sum_43 : decode cX7_sum 43 = .ok (.aload_n 0, 1) := by decide +kernel
theorem dX7_sum_44 : decode cX7_sum 44 = .ok (.getfield 10, 3) := by decide +kernel
theorem dX7_sum_47 : decode cX7_sum 47 = .ok (.aload_n 0, 1) := by decide +kernel
theorem dX7_sum_48 : decode cX7_sum 48 = .ok (.getfield 10, 3) := by decide +kernel
theorem dX7_sum_51 : decode cX7_sum 51 = .ok (.getfield 138, 3) := by decide +kernel
theorem dX7_sum_54 : decode cX7_sum 54 = .ok (.iload_n 1, 1) := by decide +kernel
theorem dX7_sum_55 : decode cX7_sum 55 = .ok (.iaload, 1) := by decide +kernel
theorem dX7_sum_56 : decode cX7_sum 56 = .ok (.aload_n 0, 1) := by decide +kernel
theorem dX7_sum_57 : decode cX7_sum 57 = .ok (.getfield 10, 3) := by decide +kernel
theorem dX7_sum_60 : decode cX7_sum 60 = .ok (.getfield 141, 3) := by decide +kernel
theorem dX7_sum_63 : decode cX7_sum 63 = .ok (.iload_n 1, 1) := by decide +kernel
theorem dX7_sum_64 : decode cX7_sum 64 = .ok (.iaload, 1) := by decide +kernel
theorem dX7_sum_65 : decode cX7_sum 65 = .ok (.invokevirtual 162, 3) := by decide +kernel
theorem dX7_sum_68 : decode cX7_sum 68 = .ok (.ireturn, 1) := by decide +kernel
theorem dX7_best_0 : decode cX7_best 0 = .ok (.aload_n 0, 1) := by decide +kernel
theorem dX7_best_1 : decode cX7_best 1 = .ok (.iload_n 1, 1) := by decide +kernel
theorem dX7_best_2 : decode cX7_best 2 = .ok (.invokevirtual 135, 3) := by decide +kernel
theorem dX7_best_5 : decode cX7_best 5 = .ok (.ifCond .eq 11, 3) := by decide +kernel
theorem dX7_best_8 : decode cX7_best 8 = .ok (.iload_n 2, 1) := by decide +kernel
theorem dX7_best_9 : decode cX7_best 9 = .ok (.iload_n 3, 1) := by decide +kernel
theorem dX7_best_10 : decode cX7_best 10 = .ok (.invokestatic 155, 3) := by decide +kernel
theorem dX7_best_13 : decode cX7_best 13 = .ok (.ifCond .ne 10, 3) := by decide +kernel
theorem dX7_best_16 : decode cX7_best 16 = .ok (.aload_n 0, 1) := by decide +kernel
theorem dX7_best_17 : decode cX7_best 17 = .ok (.ldc 69, 2) := by decide +kernel
theorem dX7_best_19 : decode cX7_best 19 = .ok (.invokevirtual 70, 3) := by decide +kernel
theorem dX7_best_22 : decode cX7_best 22 = .ok (.ireturn, 1) := by decide +kernel
theorem dX7_best_23 : decode cX7_best 23 = .ok (.aload_n 0, 1) := by decide +kernel
theorem dX7_best_24 : decode cX7_best 24 = .ok (.getfield 29, 3) := by decide +kernel
theorem dX7_best_27 : decode cX7_best 27 = .ok (.aload_n 0, 1) := by decide +kernel
theorem dX7_best_28 : decode cX7_best 28 = .ok (.getfield 10, 3) := by decide +kernel
theorem dX7_best_31 : decode cX7_best 31 = .ok (.getfield 77, 3) := by decide +kernel
theorem dX7_best_34 : decode cX7_best 34 = .ok (.iload_n 2, 1) := by decide +kernel
theorem dX7_best_35 : decode cX7_best 35 = .ok (.iload_n 3, 1) := by decide +kernel
theorem dX7_best_36 : decode cX7_best 36 = .ok (.invokevirtual 158, 3) := by decide +kernel
theorem dX7_best_39 : decode cX7_best 39 = .ok (.iconst 0, 1) := by decide +kernel
theorem dX7_best_40 : decode cX7_best 40 = .ok (.istore 4, 2) := by decide +kernel
theorem dX7_best_42 : decode cX7_best 42 = .ok (.aload_n 0, 1) := by decide +kernel
theorem dX7_best_43 : decode cX7_best 43 = .ok (.getfield 29, 3) := by decide +kernel
theorem dX7_best_46 : decode cX7_best 46 = .ok (.aload_n 0, 1) := by decide +kernel
theorem dX7_best_47 : decode cX7_best 47 = .ok (.getfield 10, 3) := by decide +kernel
theorem dX7_best_50 : decode cX7_best 50 = .ok (.aload_n 0, 1) := by decide +kernel
theorem dX7_best_51 : decode cX7_best 51 = .ok (.getfield 10, 3) := by decide +kernel
theorem dX7_best_54 : decode cX7_best 54 = .ok (.getfield 138, 3) := by decide +kernel
theorem dX7_best_57 : decode cX7_best 57 = .ok (.iload_n 1, 1) := by decide +kernel
theorem dX7_best_58 : decode cX7_best 58 = .ok (.iaload, 1) := by decide +kernel
theorem dX7_best_59 : decode cX7_best 59 = .ok (.iconst 0, 1) := by decide +kernel
theorem dX7_best_60 : decode cX7_best 60 = .ok (.invokevirtual 162, 3) := by decide +kernel
theorem dX7_best_63 : decode cX7_best 63 = .ok (.istore 5, 2) := by decide +kernel
theorem dX7_best_65 : decode cX7_best 65 = .ok (.iconst 1, 1) := by decide +kernel
theorem dX7_best_66 : decode cX7_best 66 = .ok (.istore 6, 2) := by decide +kernel
theorem dX7_best_68 : decode cX7_best 68 = .ok (.iload 6, 2) := by decide +kernel
theorem dX7_best_70 : decode cX7_best 70 = .ok (.iconst 4, 1) := by decide +kernel
theorem dX7_best_71 : decode cX7_best 71 = .ok (.if_icmp .ge 48, 3) := by decide +kernel
theorem dX7_best_74 : decode cX7_best 74 = .ok (.aload_n 0, 1) := by decide +kernel
theorem dX7_best_75 : decode cX7_best 75 = .ok (.getfield 29, 3) := by decide +kernel
theorem dX7_best_78 : decode cX7_best 78 = .ok (.aload_n 0, 1) := by decide +kernel
theorem dX7_best_79 : decode cX7_best 79 = .ok (.getfield 10, 3) := by decide +kernel
theorem dX7_best_82 : decode cX7_best 82 = .ok (.aload_n 0, 1) := by decide +kernel
theorem dX7_best_83 : decode cX7_best 83 = .ok (.getfield 10, 3) := by decide +kernel
theorem dX7_best_86 : decode cX7_best 86 = .ok (.getfield 138, 3) := by decide +kernel
theorem dX7_best_89 : decode cX7_best 89 = .ok (.iload_n 1, 1) := by decide +kernel
theorem dX7_best_90 : decode cX7_best 90 = .ok (.iaload, 1) := by decide +kernel
theorem dX7_best_91 : decode cX7_best 91 = .ok (.iload 6, 2) := by decide +kernel
theorem dX7_best_93 : decode cX7_best 93 = .ok (.invokevirtual 162, 3) := by decide +kernel
theorem dX7_best_96 : decode cX7_best 96 = .ok (.istore 7, 2) := by decide +kernel
theorem dX7_best_98 : decode cX7_best 98 = .ok (.iload 7, 2) := by decide +kernel
theorem dX7_best_100 : decode cX7_best 100 = .ok (.iload 5, 2) := by decide +kernel
theorem dX7_best_102 : decode cX7_best 102 = .ok (.if_icmp .le 11, 3) := by decide +kernel
theorem dX7_best_105 : decode cX7_best 105 = .ok (.iload 6, 2) := by decide +kernel
theorem dX7_best_107 : decode cX7_best 107 = .ok (.istore 4, 2) := by decide +kernel
theorem dX7_best_109 : decode cX7_best 109 = .ok (.iload 7, 2) := by decide +kernel
theorem dX7_best_111 : decode cX7_best 111 = .ok (.istore 5, 2) := by decide +kernel
theorem dX7_best_113 : decode cX7_best 113 = .ok (.iinc 6 1, 3) := by decide +kernel
theorem dX7_best_116 : decode cX7_best 116 = .ok (.goto (-48), 3) := by decide +kernel
theorem dX7_best_119 : decode cX7_best 119 = .ok (.iload 4, 2) := by decide +kernel
theorem dX7_best_121 : decode cX7_best 121 = .ok (.ireturn, 1) := by decide +kernel
theorem dX7_sunniest_0 : decode cX7_sunniest 0 = .ok (.iload_n 1, 1) := by decide +kernel
theorem dX7_sunniest_1 : decode cX7_sunniest 1 = .ok (.iload_n 2, 1) := by decide +kernel
theorem dX7_sunniest_2 : decode cX7_sunniest 2 = .ok (.invokestatic 155, 3) := by decide +kernel
theorem dX7_sunniest_5 : decode cX7_sunniest 5 = .ok (.ifCond .ne 10, 3) := by decide +kernel
theorem dX7_sunniest_8 : decode cX7_sunniest 8 = .ok (.aload_n 0, 1) := by decide +kernel
theorem dX7_sunniest_9 : decode cX7_sunniest 9 = .ok (.ldc 69, 2) := by decide +kernel
theorem dX7_sunniest_11 : decode cX7_sunniest 11 = .ok (.invokevirtual 70, 3) := by decide +kernel
theorem dX7_sunniest_14 : decode cX7_sunniest 14 = .ok (.ireturn, 1) := by decide +kernel
theorem dX7_sunniest_15 : decode cX7_sunniest 15 = .ok (.aload_n 0, 1) := by decide +kernel
theorem dX7_sunniest_16 : decode cX7_sunniest 16 = .ok (.getfield 10, 3) := by decide +kernel
theorem dX7_sunniest_19 : decode cX7_sunniest 19 = .ok (.getfield 127, 3) := by decide +kernel
theorem dX7_sunniest_22 : decode cX7_sunniest 22 = .ok (.ifCond .ne 10, 3) := by decide +kernel
theorem dX7_sunniest_25 : decode cX7_sunniest 25 = .ok (.aload_n 0, 1) := by decide +kernel
theorem dX7_sunniest_26 : decode cX7_sunniest 26 = .ok (.ldc 120, 2) := by decide +kernel
theorem dX7_sunniest_28 : decode cX7_sunniest 28 = .ok (.invokevirtual 70, 3) := by decide +kernel
theorem dX7_sunniest_31 : decode cX7_sunniest 31 = .ok (.ireturn, 1) := by decide +kernel
theorem dX7_sunniest_32 : decode cX7_sunniest 32 = .ok (.aload_n 0, 1) := by decide +kernel
theorem dX7_sunniest_33 : decode cX7_sunniest 33 = .ok (.getfield 29, 3) := by decide +kernel
theorem dX7_sunniest_36 : decode cX7_sunniest 36 = .ok (.aload_n 0, 1) := by decide +kernel
theorem dX7_sunniest_37 : decode cX7_sunniest 37 = .ok (.getfield 10, 3) := by decide +kernel
theorem dX7_sunniest_40 : decode cX7_sunniest 40 = .ok (.getfield 77, 3) := by decide +kernel
theorem dX7_sunniest_43 : decode cX7_sunniest 43 = .ok (.iload_n 1, 1) := by decide +kernel
theorem dX7_sunniest_44 : decode cX7_sunniest 44 = .ok (.iload_n 2, 1) := by decide +kernel
theorem dX7_sunniest_45 : decode cX7_sunniest 45 = .ok (.invokevirtual 158, 3) := by decide +kernel
theorem dX7_sunniest_48 : decode cX7_sunniest 48 = .ok (.iconst 0, 1) := by decide +kernel
theorem dX7_sunniest_49 : decode cX7_sunniest 49 = .ok (.istore_n 3, 1) := by decide +kernel
theorem dX7_sunniest_50 : decode cX7_sunniest 50 = .ok (.aload_n 0, 1) := by decide +kernel
theorem dX7_sunniest_51 : decode cX7_sunniest 51 = .ok (.getfield 29, 3) := by decide +kernel
theorem dX7_sunniest_54 : decode cX7_sunniest 54 = .ok (.aload_n 0, 1) := by decide +kernel
theorem dX7_sunniest_55 : decode cX7_sunniest 55 = .ok (.getfield 10, 3) := by decide +kernel
theorem dX7_sunniest_58 : decode cX7_sunniest 58 = .ok (.aload_n 0, 1) := by decide +kernel
theorem dX7_sunniest_59 : decode cX7_sunniest 59 = .ok (.getfield 10, 3) := by decide +kernel
theorem dX7_sunniest_62 : decode cX7_sunniest 62 = .ok (.getfield 138, 3) := by decide +kernel
theorem dX7_sunniest_65 : decode cX7_sunniest 65 = .ok (.iconst 0, 1) := by decide +kernel
theorem dX7_sunniest_66 : decode cX7_sunniest 66 = .ok (.iaload, 1) := by decide +kernel
theorem dX7_sunniest_67 : decode cX7_sunniest 67 = .ok (.aload_n 0, 1) := by decide +kernel
theorem dX7_sunniest_68 : decode cX7_sunniest 68 = .ok (.getfield 10, 3) := by decide +kernel
theorem dX7_sunniest_71 : decode cX7_sunniest 71 = .ok (.getfield 141, 3) := by decide +kernel
theorem dX7_sunniest_74 : decode cX7_sunniest 74 = .ok (.iconst 0, 1) := by decide +kernel
theorem dX7_sunniest_75 : decode cX7_sunniest 75 = .ok (.iaload, 1) := by decide +kernel
theorem dX7_sunniest_76 : decode cX7_sunniest 76 = .ok (.invokevirtual 162, 3) := by decide +kernel
theorem dX7_sunniest_79 : decode cX7_sunniest 79 = .ok (.istore 4, 2) := by decide +kernel
theorem dX7_sunniest_81 : decode cX7_sunniest 81 = .ok (.iconst 1, 1) := by decide +kernel
theorem dX7_sunniest_82 : decode cX7_sunniest 82 = .ok (.istore 5, 2) := by decide +kernel
theorem dX7_sunniest_84 : decode cX7_sunniest 84 = .ok (.iload 5, 2) := by decide +kernel
theorem dX7_sunniest_86 : decode cX7_sunniest 86 = .ok (.aload_n 0, 1) := by decide +kernel
theorem dX7_sunniest_87 : decode cX7_sunniest 87 = .ok (.getfield 10, 3) := by decide +kernel
theorem dX7_sunniest_90 : decode cX7_sunniest 90 = .ok (.getfield 127, 3) := by decide +kernel
theorem dX7_sunniest_93 : decode cX7_sunniest 93 = .ok (.if_icmp .ge 56, 3) := by decide +kernel
theorem dX7_sunniest_96 : decode cX7_sunniest 96 = .ok (.aload_n 0, 1) := by decide +kernel
theorem dX7_sunniest_97 : decode cX7_sunniest 97 = .ok (.getfield 29, 3) := by decide +kernel
theorem dX7_sunniest_100 : decode cX7_sunniest 100 = .ok (.aload_n 0, 1) := by decide +kernel
theorem dX7_sunniest_101 : decode cX7_sunniest 101 = .ok (.getfield 10, 3) := by decide +kernel
theorem dX7_sunniest_104 : decode cX7_sunniest 104 = .ok (.aload_n 0, 1) := by decide +kernel
theorem dX7_sunniest_105 : decode cX7_sunniest 105 = .ok (.getfield 10, 3) := by decide +kernel
theorem dX7_sunniest_108 : decode cX7_sunniest 108 = .ok (.getfield 138, 3) := by decide +kernel
theorem dX7_sunniest_111 : decode cX7_sunniest 111 = .ok (.iload 5, 2) := by decide +kernel
theorem dX7_sunniest_113 : decode cX7_sunniest 113 = .ok (.iaload, 1) := by decide +kernel
theorem dX7_sunniest_114 : decode cX7_sunniest 114 = .ok (.aload_n 0, 1) := by decide +kernel
theorem dX7_sunniest_115 : decode cX7_sunniest 115 = .ok (.getfield 10, 3) := by decide +kernel
theorem dX7_sunniest_118 : decode cX7_sunniest 118 = .ok (.getfield 141, 3) := by decide +kernel
theorem dX7_sunniest_121 : decode cX7_sunniest 121 = .ok (.iload 5, 2) := by decide +kernel
theorem dX7_sunniest_123 : decode cX7_sunniest 123 = .ok (.iaload, 1) := by decide +kernel
theorem dX7_sunniest_124 : decode cX7_sunniest 124 = .ok (.invokevirtual 162, 3) := by decide +kernel
theorem dX7_sunniest_127 : decode cX7_sunniest 127 = .ok (.istore 6, 2) := by decide +kernel
theorem dX7_sunniest_129 : decode cX7_sunniest 129 = .ok (.iload 6, 2) := by decide +kernel
theorem dX7_sunniest_131 : decode cX7_sunniest 131 = .ok (.iload 4, 2) := by decide +kernel
theorem dX7_sunniest_133 : decode cX7_sunniest 133 = .ok (.if_icmp .le 10, 3) := by decide +kernel
theorem dX7_sunniest_136 : decode cX7_sunniest 136 = .ok (.iload 5, 2) := by decide +kernel
theorem dX7_sunniest_138 : decode cX7_sunniest 138 = .ok (.istore_n 3, 1) := by decide +kernel
theorem dX7_sunniest_139 : decode cX7_sunniest 139 = .ok (.iload 6, 2) := by decide +kernel
theorem dX7_sunniest_141 : decode cX7_sunniest 141 = .ok (.istore 4, 2) := by decide +kernel
theorem dX7_sunniest_143 : decode cX7_sunniest 143 = .ok (.iinc 5 1, 3) := by decide +kernel
theorem dX7_sunniest_146 : decode cX7_sunniest 146 = .ok (.goto (-62), 3) := by decide +kernel
theorem dX7_sunniest_149 : decode cX7_sunniest 149 = .ok (.iload_n 3, 1) := by decide +kernel
theorem dX7_sunniest_150 : decode cX7_sunniest 150 = .ok (.ireturn, 1) := by decide +kernel
theorem dX7_days_0 : decode cX7_days 0 = .ok (.aload_n 0, 1) := by decide +kernel
theorem dX7_days_1 : decode cX7_days 1 = .ok (.iload_n 1, 1) := by decide +kernel
theorem dX7_days_2 : decode cX7_days 2 = .ok (.invokevirtual 135, 3) := by decide +kernel
theorem dX7_days_5 : decode cX7_days 5 = .ok (.ifCond .eq 28, 3) := by decide +kernel
theorem dX7_days_8 : decode cX7_days 8 = .ok (.iload_n 2, 1) := by decide +kernel
theorem dX7_days_9 : decode cX7_days 9 = .ok (.invokestatic 87, 3) := by decide +kernel
theorem dX7_days_12 : decode cX7_days 12 = .ok (.ifCond .eq 21, 3) := by decide +kernel
theorem dX7_days_15 : decode cX7_days 15 = .ok (.iload_n 3, 1) := by decide +kernel
theorem dX7_days_16 : decode cX7_days 16 = .ok (.ifCond .lt 17, 3) := by decide +kernel
theorem dX7_days_19 : decode cX7_days 19 = .ok (.iload_n 3, 1) := by decide +kernel
theorem dX7_days_20 : decode cX7_days 20 = .ok (.bipush 24, 2) := by decide +kernel
theorem dX7_days_22 : decode cX7_days 22 = .ok (.if_icmp .ge 11, 3) := by decide +kernel
theorem dX7_days_25 : decode cX7_days 25 = .ok (.iload 4, 2) := by decide +kernel
theorem dX7_days_27 : decode cX7_days 27 = .ok (.invokestatic 104, 3) := by decide +kernel
theorem dX7_days_30 : decode cX7_days 30 = .ok (.ifCond .ne 10, 3) := by decide +kernel
theorem dX7_days_33 : decode cX7_days 33 = .ok (.aload_n 0, 1) := by decide +kernel
theorem dX7_days_34 : decode cX7_days 34 = .ok (.ldc 69, 2) := by decide +kernel
theorem dX7_days_36 : decode cX7_days 36 = .ok (.invokevirtual 70, 3) := by decide +kernel
theorem dX7_days_39 : decode cX7_days 39 = .ok (.ireturn, 1) := by decide +kernel
theorem dX7_days_40 : decode cX7_days 40 = .ok (.iload 4, 2) := by decide +kernel
theorem dX7_days_42 : decode cX7_days 42 = .ok (.iload 4, 2) := by decide +kernel
theorem dX7_days_44 : decode cX7_days 44 = .ok (.bipush 96, 2) := by decide +kernel
theorem dX7_days_46 : decode cX7_days 46 = .ok (.irem, 1) := by decide +kernel
theorem dX7_days_47 : decode cX7_days 47 = .ok (.isub, 1) := by decide +kernel
theorem dX7_days_48 : decode cX7_days 48 = .ok (.iload_n 3, 1) := by decide +kernel
theorem dX7_days_49 : decode cX7_days 49 = .ok (.iconst 4, 1) := by decide +kernel
theorem dX7_days_50 : decode cX7_days 50 = .ok (.imul, 1) := by decide +kernel
theorem dX7_days_51 : decode cX7_days 51 = .ok (.iadd, 1) := by decide +kernel
theorem dX7_days_52 : decode cX7_days 52 = .ok (.istore 5, 2) := by decide +kernel
theorem dX7_days_54 : decode cX7_days 54 = .ok (.iconst 0, 1) := by decide +kernel
theorem dX7_days_55 : decode cX7_days 55 = .ok (.istore 6, 2) := by decide +kernel
theorem dX7_days_57 : decode cX7_days 57 = .ok (.iconst 0, 1) := by decide +kernel
theorem dX7_days_58 : decode cX7_days 58 = .ok (.istore 7, 2) := by decide +kernel
theorem dX7_days_60 : decode cX7_days 60 = .ok (.iload 7, 2) := by decide +kernel
theorem dX7_days_62 : decode cX7_days 62 = .ok (.bipush 30, 2) := by decide +kernel
theorem dX7_days_64 : decode cX7_days 64 = .ok (.if_icmp .ge 37, 3) := by decide +kernel
theorem dX7_days_67 : decode cX7_days 67 = .ok (.aload_n 0, 1) := by decide +kernel
theorem dX7_days_68 : decode cX7_days 68 = .ok (.aload_n 0, 1) := by decide +kernel
theorem dX7_days_69 : decode cX7_days 69 = .ok (.getfield 10, 3) := by decide +kernel
theorem dX7_days_72 : decode cX7_days 72 = .ok (.getfield 141, 3) := by decide +kernel
theorem dX7_days_75 : decode cX7_days 75 = .ok (.iload_n 1, 1) := by decide +kernel
theorem dX7_days_76 : decode cX7_days 76 = .ok (.iaload, 1) := by decide +kernel
theorem dX7_days_77 : decode cX7_days 77 = .ok (.iload_n 2, 1) := by decide +kernel
theorem dX7_days_78 : decode cX7_days 78 = .ok (.iload 5, 2) := by decide +kernel
theorem dX7_days_80 : decode cX7_days 80 = .ok (.iload 7, 2) := by decide +kernel
theorem dX7_days_82 : decode cX7_days 82 = .ok (.bipush 96, 2) := by decide +kernel
theorem dX7_days_84 : decode cX7_days 84 = .ok (.imul, 1) := by decide +kernel
theorem dX7_days_85 : decode cX7_days 85 = .ok (.iadd, 1) := by decide +kernel
theorem dX7_days_86 : decode cX7_days 86 = .ok (.invokevirtual 166, 3) := by decide +kernel
theorem dX7_days_89 : decode cX7_days 89 = .ok (.ifCond .eq 6, 3) := by decide +kernel
theorem dX7_days_92 : decode cX7_days 92 = .ok (.iinc 6 1, 3) := by decide +kernel
theorem dX7_days_95 : decode cX7_days 95 = .ok (.iinc 7 1, 3) := by decide +kernel
theorem dX7_days_98 : decode cX7_days 98 = .ok (.goto (-38), 3) := by decide +kernel
theorem dX7_days_101 : decode cX7_days 101 = .ok (.iload 6, 2) := by decide +kernel
theorem dX7_days_103 : decode cX7_days 103 = .ok (.ireturn, 1) := by decide +kernel
theorem dX7_exchange_0 : decode cX7_exchange 0 = .ok (.iload_n 1, 1) := by decide +kernel
theorem dX7_exchange_1 : decode cX7_exchange 1 = .ok (.iload_n 2, 1) := by decide +kernel
theorem dX7_exchange_2 : decode cX7_exchange 2 = .ok (.invokestatic 155, 3) := by decide +kernel
theorem dX7_exchange_5 : decode cX7_exchange 5 = .ok (.ifCond .ne 10, 3) := by decide +kernel
theorem dX7_exchange_8 : decode cX7_exchange 8 = .ok (.aload_n 0, 1) := by decide +kernel
theorem dX7_exchange_9 : decode cX7_exchange 9 = .ok (.ldc 69, 2) := by decide +kernel
theorem dX7_exchange_11 : decode cX7_exchange 11 = .ok (.invokevirtual 70, 3) := by decide +kernel
theorem dX7_exchange_14 : decode cX7_exchange 14 = .ok (.ireturn, 1) := by decide +kernel
theorem dX7_exchange_15 : decode cX7_exchange 15 = .ok (.aload_n 0, 1) := by decide +kernel
theorem dX7_exchange_16 : decode cX7_exchange 16 = .ok (.getfield 29, 3) := by decide +kernel
theorem dX7_exchange_19 : decode cX7_exchange 19 = .ok (.aload_n 0, 1) := by decide +kernel
theorem dX7_exchange_20 : decode cX7_exchange 20 = .ok (.getfield 10, 3) := by decide +kernel
theorem dX7_exchange_23 : decode cX7_exchange 23 = .ok (.getfield 77, 3) := by decide +kernel
theorem dX7_exchange_26 : decode cX7_exchange 26 = .ok (.iload_n 1, 1) := by decide +kernel
theorem dX7_exchange_27 : decode cX7_exchange 27 = .ok (.iload_n 2, 1) := by decide +kernel
theorem dX7_exchange_28 : decode cX7_exchange 28 = .ok (.invokevirtual 158, 3) := by decide +kernel
theorem dX7_exchange_31 : decode cX7_exchange 31 = .ok (.aload_n 0, 1) := by decide +kernel
theorem dX7_exchange_32 : decode cX7_exchange 32 = .ok (.getfield 29, 3) := by decide +kernel
theorem dX7_exchange_35 : decode cX7_exchange 35 = .ok (.aload_n 0, 1) := by decide +kernel
theorem dX7_exchange_36 : decode cX7_exchange 36 = .ok (.getfield 10, 3) := by decide +kernel
theorem dX7_exchange_39 : decode cX7_exchange 39 = .ok (.invokevirtual 170, 3) := by decide +kernel
theorem dX7_exchange_42 : decode cX7_exchange 42 = .ok (.ldc 120, 2) := by decide +kernel
theorem dX7_exchange_44 : decode cX7_exchange 44 = .ok (.istore_n 3, 1) := by decide +kernel
theorem dX7_exchange_45 : decode cX7_exchange 45 = .ok (.iconst 0, 1) := by decide +kernel
theorem dX7_exchange_46 : decode cX7_exchange 46 = .ok (.istore 4, 2) := by decide +kernel
theorem dX7_exchange_48 : decode cX7_exchange 48 = .ok (.iconst 0, 1) := by decide +kernel
theorem dX7_exchange_49 : decode cX7_exchange 49 = .ok (.istore 5, 2) := by decide +kernel
theorem dX7_exchange_51 : decode cX7_exchange 51 = .ok (.iload 5, 2) := by decide +kernel
theorem dX7_exchange_53 : decode cX7_exchange 53 = .ok (.aload_n 0, 1) := by decide +kernel
theorem dX7_exchange_54 : decode cX7_exchange 54 = .ok (.getfield 10, 3) := by decide +kernel
theorem dX7_exchange_57 : decode cX7_exchange 57 = .ok (.getfield 127, 3) := by decide +kernel
theorem dX7_exchange_60 : decode cX7_exchange 60 = .ok (.if_icmp .ge 63, 3) := by decide +kernel
theorem dX7_exchange_63 : decode cX7_exchange 63 = .ok (.iload 5, 2) := by decide +kernel
theorem dX7_exchange_65 : decode cX7_exchange 65 = .ok (.iconst 1, 1) := by decide +kernel
theorem dX7_exchange_66 : decode cX7_exchange 66 = .ok (.iadd, 1) := by decide +kernel
theorem dX7_exchange_67 : decode cX7_exchange 67 = .ok (.istore 6, 2) := by decide +kernel
theorem dX7_exchange_69 : decode cX7_exchange 69 = .ok (.iload 6, 2) := by decide +kernel
theorem dX7_exchange_71 : decode cX7_exchange 71 = .ok (.aload_n 0, 1) := by decide +kernel
theorem dX7_exchange_72 : decode cX7_exchange 72 = .ok (.getfield 10, 3) := by decide +kernel
theorem dX7_exchange_75 : decode cX7_exchange 75 = .ok (.getfield 127, 3) := by decide +kernel
theorem dX7_exchange_78 : decode cX7_exchange 78 = .ok (.if_icmp .ge 39, 3) := by decide +kernel
theorem dX7_exchange_81 : decode cX7_exchange 81 = .ok (.aload_n 0, 1) := by decide +kernel
theorem dX7_exchange_82 : decode cX7_exchange 82 = .ok (.iload 5, 2) := by decide +kernel
theorem dX7_exchange_84 : decode cX7_exchange 84 = .ok (.iload 6, 2) := by decide +kernel
theorem dX7_exchange_86 : decode cX7_exchange 86 = .ok (.invokevirtual 174, 3) := by decide +kernel
theorem dX7_exchange_89 : decode cX7_exchange 89 = .ok (.istore 7, 2) := by decide +kernel
theorem dX7_exchange_91 : decode cX7_exchange 91 = .ok (.iload 7, 2) := by decide +kernel
theorem dX7_exchange_93 : decode cX7_exchange 93 = .ok (.iload 4, 2) := by decide +kernel
theorem dX7_exchange_95 : decode cX7_exchange 95 = .ok (.if_icmp .le 16, 3) := by decide +kernel
theorem dX7_exchange_98 : decode cX7_exchange 98 = .ok (.bipush 10, 2) := by decide +kernel
theorem dX7_exchange_100 : decode cX7_exchange 100 = .ok (.iload 5, 2) := by decide +kernel
theorem dX7_exchange_102 : decode cX7_exchange 102 = .ok (.imul, 1) := by decide +kernel
theorem dX7_exchange_103 : decode cX7_exchange 103 = .ok (.iload 6, 2) := by decide +kernel
theorem dX7_exchange_105 : decode cX7_exchange 105 = .ok (.iadd, 1) := by decide +kernel
theorem dX7_exchange_106 : decode cX7_exchange 106 = .ok (.istore_n 3, 1) := by decide +kernel
theorem dX7_exchange_107 : decode cX7_exchange 107 = .ok (.iload 7, 2) := by decide +kernel
theorem dX7_exchange_109 : decode cX7_exchange 109 = .ok (.istore 4, 2) := by decide +kernel
theorem dX7_exchange_111 : decode cX7_exchange 111 = .ok (.iinc 6 1, 3) := by decide +kernel
theorem dX7_exchange_114 : decode cX7_exchange 114 = .ok (.goto (-45), 3) := by decide +kernel
theorem dX7_exchange_117 : decode cX7_exchange 117 = .ok (.iinc 5 1, 3) := by decide +kernel
theorem dX7_exchange_120 : decode cX7_exchange 120 = .ok (.goto (-69), 3) := by decide +kernel
theorem dX7_exchange_123 : decode cX7_exchange 123 = .ok (.iload_n 3, 1) := by decide +kernel
theorem dX7_exchange_124 : decode cX7_exchange 124 = .ok (.ldc 120, 2) := by decide +kernel
theorem dX7_exchange_126 : decode cX7_exchange 126 = .ok (.if_icmp .ne 12, 3) := by decide +kernel
theorem dX7_exchange_129 : decode cX7_exchange 129 = .ok (.aload_n 0, 1) := by decide +kernel
theorem dX7_exchange_130 : decode cX7_exchange 130 = .ok (.ldc 120, 2) := by decide +kernel
theorem dX7_exchange_132 : decode cX7_exchange 132 = .ok (.invokevirtual 70, 3) := by decide +kernel
theorem dX7_exchange_135 : decode cX7_exchange 135 = .ok (.goto 4, 3) := by decide +kernel
theorem dX7_exchange_138 : decode cX7_exchange 138 = .ok (.iload_n 3, 1) := by decide +kernel
theorem dX7_exchange_139 : decode cX7_exchange 139 = .ok (.ireturn, 1) := by decide +kernel
theorem dX7_ship_0 : decode cX7_ship 0 = .ok (.iload_n 1, 1) := by decide +kernel
theorem dX7_ship_1 : decode cX7_ship 1 = .ok (.invokestatic 87, 3) := by decide +kernel
theorem dX7_ship_4 : decode cX7_ship 4 = .ok (.ifCond .eq 21, 3) := by decide +kernel
theorem dX7_ship_7 : decode cX7_ship 7 = .ok (.iload_n 2, 1) := by decide +kernel
theorem dX7_ship_8 : decode cX7_ship 8 = .ok (.invokestatic 104, 3) := by decide +kernel
theorem dX7_ship_11 : decode cX7_ship 11 = .ok (.ifCond .eq 14, 3) := by decide +kernel
theorem dX7_ship_14 : decode cX7_ship 14 = .ok (.iload_n 3, 1) := by decide +kernel
theorem dX7_ship_15 : decode cX7_ship 15 = .ok (.iconst 1, 1) := by decide +kernel
theorem dX7_ship_16 : decode cX7_ship 16 = .ok (.if_icmp .lt 9, 3) := by decide +kernel
theorem dX7_ship_19 : decode cX7_ship 19 = .ok (.iload_n 3, 1) := by decide +kernel
theorem dX7_ship_20 : decode cX7_ship 20 = .ok (.bipush 40, 2) := by decide +kernel
theorem dX7_ship_22 : decode cX7_ship 22 = .ok (.if_icmp .le 10, 3) := by decide +kernel
theorem dX7_ship_25 : decode cX7_ship 25 = .ok (.aload_n 0, 1) := by decide +kernel
theorem dX7_ship_26 : decode cX7_ship 26 = .ok (.ldc 69, 2) := by decide +kernel
theorem dX7_ship_28 : decode cX7_ship 28 = .ok (.invokevirtual 70, 3) := by decide +kernel
theorem dX7_ship_31 : decode cX7_ship 31 = .ok (.ireturn, 1) := by decide +kernel
theorem dX7_ship_32 : decode cX7_ship 32 = .ok (.aload_n 0, 1) := by decide +kernel
theorem dX7_ship_33 : decode cX7_ship 33 = .ok (.getfield 10, 3) := by decide +kernel
theorem dX7_ship_36 : decode cX7_ship 36 = .ok (.getfield 177, 3) := by decide +kernel
theorem dX7_ship_39 : decode cX7_ship 39 = .ok (.bipush 6, 2) := by decide +kernel
theorem dX7_ship_41 : decode cX7_ship 41 = .ok (.if_icmp .lt 10, 3) := by decide +kernel
theorem dX7_ship_44 : decode cX7_ship 44 = .ok (.aload_n 0, 1) := by decide +kernel
theorem dX7_ship_45 : decode cX7_ship 45 = .ok (.ldc 130, 2) := by decide +kernel
theorem dX7_ship_47 : decode cX7_ship 47 = .ok (.invokevirtual 70, 3) := by decide +kernel
theorem dX7_ship_50 : decode cX7_ship 50 = .ok (.ireturn, 1) := by decide +kernel
theorem dX7_ship_51 : decode cX7_ship 51 = .ok (.aload_n 0, 1) := by decide +kernel
theorem dX7_ship_52 : decode cX7_ship 52 = .ok (.getfield 36, 3) := by decide +kernel
theorem dX7_ship_55 : decode cX7_ship 55 = .ok (.invokevirtual 74, 3) := by decide +kernel
theorem dX7_ship_58 : decode cX7_ship 58 = .ok (.aload_n 0, 1) := by decide +kernel
theorem dX7_ship_59 : decode cX7_ship 59 = .ok (.getfield 10, 3) := by decide +kernel
theorem dX7_ship_62 : decode cX7_ship 62 = .ok (.iload_n 1, 1) := by decide +kernel
theorem dX7_ship_63 : decode cX7_ship 63 = .ok (.iload_n 2, 1) := by decide +kernel
theorem dX7_ship_64 : decode cX7_ship 64 = .ok (.iload_n 3, 1) := by decide +kernel
theorem dX7_ship_65 : decode cX7_ship 65 = .ok (.iconst (-1), 1) := by decide +kernel
theorem dX7_ship_66 : decode cX7_ship 66 = .ok (.invokevirtual 180, 3) := by decide +kernel
theorem dX7_ship_69 : decode cX7_ship 69 = .ok (.ireturn, 1) := by decide +kernel
theorem dX7_shipOf_0 : decode cX7_shipOf 0 = .ok (.aload_n 0, 1) := by decide +kernel
theorem dX7_shipOf_1 : decode cX7_shipOf 1 = .ok (.iload_n 1, 1) := by decide +kernel
theorem dX7_shipOf_2 : decode cX7_shipOf 2 = .ok (.invokevirtual 184, 3) := by decide +kernel
theorem dX7_shipOf_5 : decode cX7_shipOf 5 = .ok (.ifCond .ne 10, 3) := by decide +kernel
theorem dX7_shipOf_8 : decode cX7_shipOf 8 = .ok (.aload_n 0, 1) := by decide +kernel
theorem dX7_shipOf_9 : decode cX7_shipOf 9 = .ok (.ldc 69, 2) := by decide +kernel
theorem dX7_shipOf_11 : decode cX7_shipOf 11 = .ok (.invokevirtual 70, 3) := by decide +kernel
theorem dX7_shipOf_14 : decode cX7_shipOf 14 = .ok (.ireturn, 1) := by decide +kernel
theorem dX7_shipOf_15 : decode cX7_shipOf 15 = .ok (.iload_n 2, 1) := by decide +kernel
theorem dX7_shipOf_16 : decode cX7_shipOf 16 = .ok (.tableswitch 72 0 3 #[32, 42, 52, 62], 32) := by decide +kernel
theorem dX7_shipOf_48 : decode cX7_shipOf 48 = .ok (.aload_n 0, 1) := by decide +kernel
theorem dX7_shipOf_49 : decode cX7_shipOf 49 = .ok (.getfield 10, 3) := by decide +kernel
theorem dX7_shipOf_52 : decode cX7_shipOf 52 = .ok (.getfield 187, 3) := by decide +kernel
theorem dX7_shipOf_55 : decode cX7_shipOf 55 = .ok (.iload_n 1, 1) := by decide +kernel
theorem dX7_shipOf_56 : decode cX7_shipOf 56 = .ok (.iaload, 1) := by decide +kernel
theorem dX7_shipOf_57 : decode cX7_shipOf 57 = .ok (.ireturn, 1) := by decide +kernel
theorem dX7_shipOf_58 : decode cX7_shipOf 58 = .ok (.aload_n 0, 1) := by decide +kernel
theorem dX7_shipOf_59 : decode cX7_shipOf 59 = .ok (.getfield 10, 3) := by decide +kernel
theorem dX7_shipOf_62 : decode cX7_shipOf 62 = .ok (.getfield 190, 3) := by decide +kernel
theorem dX7_shipOf_65 : decode cX7_shipOf 65 = .ok (.iload_n 1, 1) := by decide +kernel
theorem dX7_shipOf_66 : decode cX7_shipOf 66 = .ok (.iaload, 1) := by decide +kernel
theorem dX7_shipOf_67 : decode cX7_shipOf 67 = .ok (.ireturn, 1) := by decide +kernel
theorem dX7_shipOf_68 : decode cX7_shipOf 68 = .ok (.aload_n 0, 1) := by decide +kernel
theorem dX7_shipOf_69 : decode cX7_shipOf 69 = .ok (.getfield 10, 3) := by decide +kernel
theorem dX7_shipOf_72 : decode cX7_shipOf 72 = .ok (.getfield 193, 3) := by decide +kernel
theorem dX7_shipOf_75 : decode cX7_shipOf 75 = .ok (.iload_n 1, 1) := by decide +kernel
theorem dX7_shipOf_76 : decode cX7_shipOf 76 = .ok (.iaload, 1) := by decide +kernel
theorem dX7_shipOf_77 : decode cX7_shipOf 77 = .ok (.ireturn, 1) := by decide +kernel
theorem dX7_shipOf_78 : decode cX7_shipOf 78 = .ok (.aload_n 0, 1) := by decide +kernel
theorem dX7_shipOf_79 : decode cX7_shipOf 79 = .ok (.getfield 10, 3) := by decide +kernel
theorem dX7_shipOf_82 : decode cX7_shipOf 82 = .ok (.getfield 196, 3) := by decide +kernel
theorem dX7_shipOf_85 : decode cX7_shipOf 85 = .ok (.iload_n 1, 1) := by decide +kernel
theorem dX7_shipOf_86 : decode cX7_shipOf 86 = .ok (.iaload, 1) := by decide +kernel
theorem dX7_shipOf_87 : decode cX7_shipOf 87 = .ok (.ireturn, 1) := by decide +kernel
theorem dX7_shipOf_88 : decode cX7_shipOf 88 = .ok (.aload_n 0, 1) := by decide +kernel
theorem dX7_shipOf_89 : decode cX7_shipOf 89 = .ok (.ldc 69, 2) := by decide +kernel
theorem dX7_shipOf_91 : decode cX7_shipOf 91 = .ok (.invokevirtual 70, 3) := by decide +kernel
theorem dX7_shipOf_94 : decode cX7_shipOf 94 = .ok (.ireturn, 1) := by decide +kernel
theorem dX7_quay_0 : decode cX7_quay 0 = .ok (.aload_n 0, 1) := by decide +kernel
theorem dX7_quay_1 : decode cX7_quay 1 = .ok (.iload_n 1, 1) := by decide +kernel
theorem dX7_quay_2 : decode cX7_quay 2 = .ok (.invokevirtual 184, 3) := by decide +kernel
theorem dX7_quay_5 : decode cX7_quay 5 = .ok (.ifCond .eq 13, 3) := by decide +kernel
theorem dX7_quay_8 : decode cX7_quay 8 = .ok (.iload_n 2, 1) := by decide +kernel
theorem dX7_quay_9 : decode cX7_quay 9 = .ok (.iconst (-1), 1) := by decide +kernel
theorem dX7_quay_10 : decode cX7_quay 10 = .ok (.if_icmp .lt 8, 3) := by decide +kernel
theorem dX7_quay_13 : decode cX7_quay 13 = .ok (.iload_n 2, 1) := by decide +kernel
theorem dX7_quay_14 : decode cX7_quay 14 = .ok (.iconst 4, 1) := by decide +kernel
theorem dX7_quay_15 : decode cX7_quay 15 = .ok (.if_icmp .lt 10, 3) := by decide +kernel
theorem dX7_quay_18 : decode cX7_quay 18 = .ok (.aload_n 0, 1) := by decide +kernel
theorem dX7_quay_19 : decode cX7_quay 19 = .ok (.ldc 69, 2) := by decide +kernel
theorem dX7_quay_21 : decode cX7_quay 21 = .ok (.invokevirtual 70, 3) := by decide +kernel
theorem dX7_quay_24 : decode cX7_quay 24 = .ok (.ireturn, 1) := by decide +kernel
theorem dX7_quay_25 : decode cX7_quay 25 = .ok (.aload_n 0, 1) := by decide +kernel
theorem dX7_quay_26 : decode cX7_quay 26 = .ok (.getfield 36, 3) := by decide +kernel
theorem dX7_quay_29 : decode cX7_quay 29 = .ok (.invokevirtual 74, 3) := by decide +kernel
theorem dX7_quay_32 : decode cX7_quay 32 = .ok (.aload_n 0, 1) := by decide +kernel
theorem dX7_quay_33 : decode cX7_quay 33 = .ok (.getfield 10, 3) := by decide +kernel
theorem dX7_quay_36 : decode cX7_quay 36 = .ok (.getfield 196, 3) := by decide +kernel
theorem dX7_quay_39 : decode cX7_quay 39 = .ok (.iload_n 1, 1) := by decide +kernel
theorem dX7_quay_40 : decode cX7_quay 40 = .ok (.iaload, 1) := by decide +kernel
theorem dX7_quay_41 : decode cX7_quay 41 = .ok (.istore_n 3, 1) := by decide +kernel
theorem dX7_quay_42 : decode cX7_quay 42 = .ok (.aload_n 0, 1) := by decide +kernel
theorem dX7_quay_43 : decode cX7_quay 43 = .ok (.getfield 10, 3) := by decide +kernel
theorem dX7_quay_46 : decode cX7_quay 46 = .ok (.getfield 196, 3) := by decide +kernel
theorem dX7_quay_49 : decode cX7_quay 49 = .ok (.iload_n 1, 1) := by decide +kernel
theorem dX7_quay_50 : decode cX7_quay 50 = .ok (.iload_n 2, 1) := by decide +kernel
theorem dX7_quay_51 : decode cX7_quay 51 = .ok (.iastore, 1) := by decide +kernel
theorem dX7_quay_52 : decode cX7_quay 52 = .ok (.iload_n 3, 1) := by decide +kernel
theorem dX7_quay_53 : decode cX7_quay 53 = .ok (.ireturn, 1) := by decide +kernel
theorem dX7_clear_0 : decode cX7_clear 0 = .ok (.aload_n 0, 1) := by decide +kernel
theorem dX7_clear_1 : decode cX7_clear 1 = .ok (.getfield 36, 3) := by decide +kernel
theorem dX7_clear_4 : decode cX7_clear 4 = .ok (.invokevirtual 74, 3) := by decide +kernel
theorem dX7_clear_7 : decode cX7_clear 7 = .ok (.aload_n 0, 1) := by decide +kernel
theorem dX7_clear_8 : decode cX7_clear 8 = .ok (.getfield 10, 3) := by decide +kernel
theorem dX7_clear_11 : decode cX7_clear 11 = .ok (.getfield 177, 3) := by decide +kernel
theorem dX7_clear_14 : decode cX7_clear 14 = .ok (.istore_n 1, 1) := by decide +kernel
theorem dX7_clear_15 : decode cX7_clear 15 = .ok (.aload_n 0, 1) := by decide +kernel
theorem dX7_clear_16 : decode cX7_clear 16 = .ok (.getfield 10, 3) := by decide +kernel
theorem dX7_clear_19 : decode cX7_clear 19 = .ok (.iconst 0, 1) := by decide +kernel
theorem dX7_clear_20 : decode cX7_clear 20 = .ok (.putfield 177, 3) := by decide +kernel
theorem dX7_clear_23 : decode cX7_clear 23 = .ok (.iload_n 1, 1) := by decide +kernel
theorem dX7_clear_24 : decode cX7_clear 24 = .ok (.ireturn, 1) := by decide +kernel
theorem dX7_lies_0 : decode cX7_lies 0 = .ok (.aload_n 0, 1) := by decide +kernel
theorem dX7_lies_1 : decode cX7_lies 1 = .ok (.iload_n 1, 1) := by decide +kernel
theorem dX7_lies_2 : decode cX7_lies 2 = .ok (.invokevirtual 184, 3) := by decide +kernel
theorem dX7_lies_5 : decode cX7_lies 5 = .ok (.ifCond .eq 17, 3) := by decide +kernel
theorem dX7_lies_8 : decode cX7_lies 8 = .ok (.iload_n 2, 1) := by decide +kernel
theorem dX7_lies_9 : decode cX7_lies 9 = .ok (.invokestatic 87, 3) := by decide +kernel
theorem dX7_lies_12 : decode cX7_lies 12 = .ok (.ifCond .eq 10, 3) := by decide +kernel
theorem dX7_lies_15 : decode cX7_lies 15 = .ok (.iload_n 3, 1) := by decide +kernel
theorem dX7_lies_16 : decode cX7_lies 16 = .ok (.invokestatic 104, 3) := by decide +kernel
theorem dX7_lies_19 : decode cX7_lies 19 = .ok (.ifCond .ne 10, 3) := by decide +kernel
theorem dX7_lies_22 : decode cX7_lies 22 = .ok (.aload_n 0, 1) := by decide +kernel
theorem dX7_lies_23 : decode cX7_lies 23 = .ok (.ldc 69, 2) := by decide +kernel
theorem dX7_lies_25 : decode cX7_lies 25 = .ok (.invokevirtual 70, 3) := by decide +kernel
theorem dX7_lies_28 : decode cX7_lies 28 = .ok (.ireturn, 1) := by decide +kernel
theorem dX7_lies_29 : decode cX7_lies 29 = .ok (.aload_n 0, 1) := by decide +kernel
theorem dX7_lies_30 : decode cX7_lies 30 = .ok (.getfield 10, 3) := by decide +kernel
theorem dX7_lies_33 : decode cX7_lies 33 = .ok (.getfield 77, 3) := by decide +kernel
theorem dX7_lies_36 : decode cX7_lies 36 = .ok (.iload_n 3, 1) := by decide +kernel
theorem dX7_lies_37 : decode cX7_lies 37 = .ok (.invokevirtual 107, 3) := by decide +kernel
theorem dX7_lies_40 : decode cX7_lies 40 = .ok (.aload_n 0, 1) := by decide +kernel
theorem dX7_lies_41 : decode cX7_lies 41 = .ok (.getfield 10, 3) := by decide +kernel
theorem dX7_lies_44 : decode cX7_lies 44 = .ok (.getfield 77, 3) := by decide +kernel
theorem dX7_lies_47 : decode cX7_lies 47 = .ok (.iload_n 2, 1) := by decide +kernel
theorem dX7_lies_48 : decode cX7_lies 48 = .ok (.invokevirtual 117, 3) := by decide +kernel
theorem dX7_lies_51 : decode cX7_lies 51 = .ok (.aload_n 0, 1) := by decide +kernel
theorem dX7_lies_52 : decode cX7_lies 52 = .ok (.getfield 10, 3) := by decide +kernel
theorem dX7_lies_55 : decode cX7_lies 55 = .ok (.getfield 187, 3) := by decide +kernel
theorem dX7_lies_58 : decode cX7_lies 58 = .ok (.iload_n 1, 1) := by decide +kernel
theorem dX7_lies_59 : decode cX7_lies 59 = .ok (.iaload, 1) := by decide +kernel
theorem dX7_lies_60 : decode cX7_lies 60 = .ok (.if_icmp .ne 7, 3) := by decide +kernel
theorem dX7_lies_63 : decode cX7_lies 63 = .ok (.iconst 1, 1) := by decide +kernel
theorem dX7_lies_64 : decode cX7_lies 64 = .ok (.goto 4, 3) := by decide +kernel
theorem dX7_lies_67 : decode cX7_lies 67 = .ok (.iconst 0, 1) := by decide +kernel
theorem dX7_lies_68 : decode cX7_lies 68 = .ok (.istore 4, 2) := by decide +kernel
theorem dX7_lies_70 : decode cX7_lies 70 = .ok (.iload 4, 2) := by decide +kernel
theorem dX7_lies_72 : decode cX7_lies 72 = .ok (.ifCond .eq 31, 3) := by decide +kernel
theorem dX7_lies_75 : decode cX7_lies 75 = .ok (.aload_n 0, 1) := by decide +kernel
theorem dX7_lies_76 : decode cX7_lies 76 = .ok (.getfield 10, 3) := by decide +kernel
theorem dX7_lies_79 : decode cX7_lies 79 = .ok (.getfield 77, 3) := by decide +kernel
theorem dX7_lies_82 : decode cX7_lies 82 = .ok (.invokevirtual 199, 3) := by decide +kernel
theorem dX7_lies_85 : decode cX7_lies 85 = .ok (.iload_n 3, 1) := by decide +kernel
theorem dX7_lies_86 : decode cX7_lies 86 = .ok (.isub, 1) := by decide +kernel
theorem dX7_lies_87 : decode cX7_lies 87 = .ok (.aload_n 0, 1) := by decide +kernel
theorem dX7_lies_88 : decode cX7_lies 88 = .ok (.getfield 10, 3) := by decide +kernel
theorem dX7_lies_91 : decode cX7_lies 91 = .ok (.getfield 193, 3) := by decide +kernel
theorem dX7_lies_94 : decode cX7_lies 94 = .ok (.iload_n 1, 1) := by decide +kernel
theorem dX7_lies_95 : decode cX7_lies 95 = .ok (.iaload, 1) := by decide +kernel
theorem dX7_lies_96 : decode cX7_lies 96 = .ok (.if_icmp .lt 7, 3) := by decide +kernel
theorem dX7_lies_99 : decode cX7_lies 99 = .ok (.iconst 1, 1) := by decide +kernel
theorem dX7_lies_100 : decode cX7_lies 100 = .ok (.goto 4, 3) := by decide +kernel
theorem dX7_lies_103 : decode cX7_lies 103 = .ok (.iconst 0, 1) := by decide +kernel
theorem dX7_lies_104 : decode cX7_lies 104 = .ok (.ireturn, 1) := by decide +kernel
theorem dX7_entry_0 : decode cX7_entry 0 = .ok (.aload_n 0, 1) := by decide +kernel
theorem dX7_entry_1 : decode cX7_entry 1 = .ok (.iload_n 1, 1) := by decide +kernel
theorem dX7_entry_2 : decode cX7_entry 2 = .ok (.invokevirtual 184, 3) := by decide +kernel
theorem dX7_entry_5 : decode cX7_entry 5 = .ok (.ifCond .eq 12, 3) := by decide +kernel
theorem dX7_entry_8 : decode cX7_entry 8 = .ok (.iload_n 2, 1) := by decide +kernel
theorem dX7_entry_9 : decode cX7_entry 9 = .ok (.ifCond .lt 8, 3) := by decide +kernel
theorem dX7_entry_12 : decode cX7_entry 12 = .ok (.iload_n 2, 1) := by decide +kernel
theorem dX7_entry_13 : decode cX7_entry 13 = .ok (.iconst 1, 1) := by decide +kernel
theorem dX7_entry_14 : decode cX7_entry 14 = .ok (.if_icmp .le 10, 3) := by decide +kernel
theorem dX7_entry_17 : decode cX7_entry 17 = .ok (.aload_n 0, 1) := by decide +kernel
theorem dX7_entry_18 : decode cX7_entry 18 = .ok (.ldc 69, 2) := by decide +kernel
theorem dX7_entry_20 : decode cX7_entry 20 = .ok (.invokevirtual 70, 3) := by decide +kernel
theorem dX7_entry_23 : decode cX7_entry 23 = .ok (.ireturn, 1) := by decide +kernel
theorem dX7_entry_24 : decode cX7_entry 24 = .ok (.aload_n 0, 1) := by decide +kernel
theorem dX7_entry_25 : decode cX7_entry 25 = .ok (.getfield 10, 3) := by decide +kernel
theorem dX7_entry_28 : decode cX7_entry 28 = .ok (.iload_n 1, 1) := by decide +kernel
theorem dX7_entry_29 : decode cX7_entry 29 = .ok (.aload_n 0, 1) := by decide +kernel
theorem dX7_entry_30 : decode cX7_entry 30 = .ok (.getfield 10, 3) := by decide +kernel
theorem dX7_entry_33 : decode cX7_entry 33 = .ok (.getfield 190, 3) := by decide +kernel
theorem dX7_entry_36 : decode cX7_entry 36 = .ok (.iload_n 1, 1) := by decide +kernel
theorem dX7_entry_37 : decode cX7_entry 37 = .ok (.iaload, 1) := by decide +kernel
theorem dX7_entry_38 : decode cX7_entry 38 = .ok (.invokevirtual 203, 3) := by decide +kernel
theorem dX7_entry_41 : decode cX7_entry 41 = .ok (.istore_n 3, 1) := by decide +kernel
theorem dX7_entry_42 : decode cX7_entry 42 = .ok (.iload_n 3, 1) := by decide +kernel
theorem dX7_entry_43 : decode cX7_entry 43 = .ok (.aload_n 0, 1) := by decide +kernel
theorem dX7_entry_44 : decode cX7_entry 44 = .ok (.getfield 10, 3) := by decide +kernel
theorem dX7_entry_47 : decode cX7_entry 47 = .ok (.getfield 190, 3) := by decide +kernel
theorem dX7_entry_50 : decode cX7_entry 50 = .ok (.iload_n 1, 1) := by decide +kernel
theorem dX7_entry_51 : decode cX7_entry 51 = .ok (.iaload, 1) := by decide +kernel
theorem dX7_entry_52 : decode cX7_entry 52 = .ok (.sipush 960, 3) := by decide +kernel
theorem dX7_entry_55 : decode cX7_entry 55 = .ok (.iadd, 1) := by decide +kernel
theorem dX7_entry_56 : decode cX7_entry 56 = .ok (.if_icmp .lt 10, 3) := by decide +kernel
theorem dX7_entry_59 : decode cX7_entry 59 = .ok (.aload_n 0, 1) := by decide +kernel
theorem dX7_entry_60 : decode cX7_entry 60 = .ok (.ldc 120, 2) := by decide +kernel
theorem dX7_entry_62 : decode cX7_entry 62 = .ok (.invokevirtual 70, 3) := by decide +kernel
theorem dX7_entry_65 : decode cX7_entry 65 = .ok (.ireturn, 1) := by decide +kernel
theorem dX7_entry_66 : decode cX7_entry 66 = .ok (.iload_n 2, 1) := by decide +kernel
theorem dX7_entry_67 : decode cX7_entry 67 = .ok (.ifCond .ne 7, 3) := by decide +kernel
theorem dX7_entry_70 : decode cX7_entry 70 = .ok (.iload_n 3, 1) := by decide +kernel
theorem dX7_entry_71 : decode cX7_entry 71 = .ok (.goto 12, 3) := by decide +kernel
theorem dX7_entry_74 : decode cX7_entry 74 = .ok (.aload_n 0, 1) := by decide +kernel
theorem dX7_entry_75 : decode cX7_entry 75 = .ok (.getfield 10, 3) := by decide +kernel
theorem dX7_entry_78 : decode cX7_entry 78 = .ok (.iload_n 1, 1) := by decide +kernel
theorem dX7_entry_79 : decode cX7_entry 79 = .ok (.iload_n 3, 1) := by decide +kernel
theorem dX7_entry_80 : decode cX7_entry 80 = .ok (.invokevirtual 206, 3) := by decide +kernel
theorem dX7_entry_83 : decode cX7_entry 83 = .ok (.ireturn, 1) := by decide +kernel
theorem dX7_order_0 : decode cX7_order 0 = .ok (.iload_n 1, 1) := by decide +kernel
theorem dX7_order_1 : decode cX7_order 1 = .ok (.iconst (-1), 1) := by decide +kernel
theorem dX7_order_2 : decode cX7_order 2 = .ok (.if_icmp .lt 9, 3) := by decide +kernel
theorem dX7_order_5 : decode cX7_order 5 = .ok (.iload_n 1, 1) := by decide +kernel
theorem dX7_order_6 : decode cX7_order 6 = .ok (.bipush 6, 2) := by decide +kernel
theorem dX7_order_8 : decode cX7_order 8 = .ok (.if_icmp .lt 10, 3) := by decide +kernel
theorem dX7_order_11 : decode cX7_order 11 = .ok (.aload_n 0, 1) := by decide +kernel
theorem dX7_order_12 : decode cX7_order 12 = .ok (.ldc 69, 2) := by decide +kernel
theorem dX7_order_14 : decode cX7_order 14 = .ok (.invokevirtual 70, 3) := by decide +kernel
theorem dX7_order_17 : decode cX7_order 17 = .ok (.ireturn, 1) := by decide +kernel
theorem dX7_order_18 : decode cX7_order 18 = .ok (.iload_n 1, 1) := by decide +kernel
theorem dX7_order_19 : decode cX7_order 19 = .ok (.aload_n 0, 1) := by decide +kernel
theorem dX7_order_20 : decode cX7_order 20 = .ok (.getfield 10, 3) := by decide +kernel
theorem dX7_order_23 : decode cX7_order 23 = .ok (.getfield 177, 3) := by decide +kernel
theorem dX7_order_26 : decode cX7_order 26 = .ok (.if_icmp .lt 10, 3) := by decide +kernel
theorem dX7_order_29 : decode cX7_order 29 = .ok (.aload_n 0, 1) := by decide +kernel
theorem dX7_order_30 : decode cX7_order 30 = .ok (.ldc 120, 2) := by decide +kernel
theorem dX7_order_32 : decode cX7_order 32 = .ok (.invokevirtual 70, 3) := by decide +kernel
theorem dX7_order_35 : decode cX7_order 35 = .ok (.ireturn, 1) := by decide +kernel
theorem dX7_order_36 : decode cX7_order 36 = .ok (.aload_n 0, 1) := by decide +kernel
theorem dX7_order_37 : decode cX7_order 37 = .ok (.getfield 36, 3) := by decide +kernel
theorem dX7_order_40 : decode cX7_order 40 = .ok (.aload_n 0, 1) := by decide +kernel
theorem dX7_order_41 : decode cX7_order 41 = .ok (.getfield 10, 3) := by decide +kernel
theorem dX7_order_44 : decode cX7_order 44 = .ok (.invokevirtual 209, 3) := by decide +kernel
theorem dX7_order_47 : decode cX7_order 47 = .ok (.iload_n 1, 1) := by decide +kernel
theorem dX7_order_48 : decode cX7_order 48 = .ok (.iconst (-1), 1) := by decide +kernel
theorem dX7_order_49 : decode cX7_order 49 = .ok (.if_icmp .ne 13, 3) := by decide +kernel
theorem dX7_order_52 : decode cX7_order 52 = .ok (.aload_n 0, 1) := by decide +kernel
theorem dX7_order_53 : decode cX7_order 53 = .ok (.getfield 36, 3) := by decide +kernel
theorem dX7_order_56 : decode cX7_order 56 = .ok (.getfield 212, 3) := by decide +kernel
theorem dX7_order_59 : decode cX7_order 59 = .ok (.goto 12, 3) := by decide +kernel
theorem dX7_order_62 : decode cX7_order 62 = .ok (.aload_n 0, 1) := by decide +kernel
theorem dX7_order_63 : decode cX7_order 63 = .ok (.getfield 36, 3) := by decide +kernel
theorem dX7_order_66 : decode cX7_order 66 = .ok (.getfield 215, 3) := by decide +kernel
theorem dX7_order_69 : decode cX7_order 69 = .ok (.iload_n 1, 1) := by decide +kernel
theorem dX7_order_70 : decode cX7_order 70 = .ok (.iaload, 1) := by decide +kernel
theorem dX7_order_71 : decode cX7_order 71 = .ok (.ireturn, 1) := by decide +kernel
theorem dX7_waits_0 : decode cX7_waits 0 = .ok (.aload_n 0, 1) := by decide +kernel
theorem dX7_waits_1 : decode cX7_waits 1 = .ok (.iload_n 1, 1) := by decide +kernel
theorem dX7_waits_2 : decode cX7_waits 2 = .ok (.invokevirtual 184, 3) := by decide +kernel
theorem dX7_waits_5 : decode cX7_waits 5 = .ok (.ifCond .eq 12, 3) := by decide +kernel
theorem dX7_waits_8 : decode cX7_waits 8 = .ok (.iload_n 2, 1) := by decide +kernel
theorem dX7_waits_9 : decode cX7_waits 9 = .ok (.ifCond .lt 8, 3) := by decide +kernel
theorem dX7_waits_12 : decode cX7_waits 12 = .ok (.iload_n 2, 1) := by decide +kernel
theorem dX7_waits_13 : decode cX7_waits 13 = .ok (.iconst 1, 1) := by decide +kernel
theorem dX7_waits_14 : decode cX7_waits 14 = .ok (.if_icmp .le 10, 3) := by decide +kernel
theorem dX7_waits_17 : decode cX7_waits 17 = .ok (.aload_n 0, 1) := by decide +kernel
theorem dX7_waits_18 : decode cX7_waits 18 = .ok (.ldc 69, 2) := by decide +kernel
theorem dX7_waits_20 : decode cX7_waits 20 = .ok (.invokevirtual 70, 3) := by decide +kernel
theorem dX7_waits_23 : decode cX7_waits 23 = .ok (.ireturn, 1) := by decide +kernel
theorem dX7_waits_24 : decode cX7_waits 24 = .ok (.aload_n 0, 1) := by decide +kernel
theorem dX7_waits_25 : decode cX7_waits 25 = .ok (.getfield 36, 3) := by decide +kernel
theorem dX7_waits_28 : decode cX7_waits 28 = .ok (.aload_n 0, 1) := by decide +kernel
theorem dX7_waits_29 : decode cX7_waits 29 = .ok (.getfield 10, 3) := by decide +kernel
theorem dX7_waits_32 : decode cX7_waits 32 = .ok (.invokevirtual 209, 3) := by decide +kernel
theorem dX7_waits_35 : decode cX7_waits 35 = .ok (.iload_n 2, 1) := by decide +kernel
theorem dX7_waits_36 : decode cX7_waits 36 = .ok (.ifCond .ne 15, 3) := by decide +kernel
theorem dX7_waits_39 : decode cX7_waits 39 = .ok (.aload_n 0, 1) := by decide +kernel
theorem dX7_waits_40 : decode cX7_waits 40 = .ok (.getfield 36, 3) := by decide +kernel
theorem dX7_waits_43 : decode cX7_waits 43 = .ok (.getfield 218, 3) := by decide +kernel
theorem dX7_waits_46 : decode cX7_waits 46 = .ok (.iload_n 1, 1) := by decide +kernel
theorem dX7_waits_47 : decode cX7_waits 47 = .ok (.iaload, 1) := by decide +kernel
theorem dX7_waits_48 : decode cX7_waits 48 = .ok (.goto 12, 3) := by decide +kernel
theorem dX7_waits_51 : decode cX7_waits 51 = .ok (.aload_n 0, 1) := by decide +kernel
theorem dX7_waits_52 : decode cX7_waits 52 = .ok (.getfield 36, 3) := by decide +kernel
theorem dX7_waits_55 : decode cX7_waits 55 = .ok (.getfield 221, 3) := by decide +kernel
theorem dX7_waits_58 : decode cX7_waits 58 = .ok (.iload_n 1, 1) := by decide +kernel
theorem dX7_waits_59 : decode cX7_waits 59 = .ok (.iaload, 1) := by decide +kernel
theorem dX7_waits_60 : decode cX7_waits 60 = .ok (.ireturn, 1) := by decide +kernel
theorem dX7_fast_0 : decode cX7_fast 0 = .ok (.iload_n 1, 1) := by decide +kernel
theorem dX7_fast_1 : decode cX7_fast 1 = .ok (.invokestatic 104, 3) := by decide +kernel
theorem dX7_fast_4 : decode cX7_fast 4 = .ok (.ifCond .ne 10, 3) := by decide +kernel
theorem dX7_fast_7 : decode cX7_fast 7 = .ok (.aload_n 0, 1) := by decide +kernel
theorem dX7_fast_8 : decode cX7_fast 8 = .ok (.ldc 69, 2) := by decide +kernel
theorem dX7_fast_10 : decode cX7_fast 10 = .ok (.invokevirtual 70, 3) := by decide +kernel
theorem dX7_fast_13 : decode cX7_fast 13 = .ok (.ireturn, 1) := by decide +kernel
theorem dX7_fast_14 : decode cX7_fast 14 = .ok (.aload_n 0, 1) := by decide +kernel
theorem dX7_fast_15 : decode cX7_fast 15 = .ok (.getfield 10, 3) := by decide +kernel
theorem dX7_fast_18 : decode cX7_fast 18 = .ok (.getfield 77, 3) := by decide +kernel
theorem dX7_fast_21 : decode cX7_fast 21 = .ok (.iload_n 1, 1) := by decide +kernel
theorem dX7_fast_22 : decode cX7_fast 22 = .ok (.invokevirtual 107, 3) := by decide +kernel
theorem dX7_fast_25 : decode cX7_fast 25 = .ok (.aload_n 0, 1) := by decide +kernel
theorem dX7_fast_26 : decode cX7_fast 26 = .ok (.getfield 10, 3) := by decide +kernel
theorem dX7_fast_29 : decode cX7_fast 29 = .ok (.getfield 77, 3) := by decide +kernel
theorem dX7_fast_32 : decode cX7_fast 32 = .ok (.getfield 114, 3) := by decide +kernel
theorem dX7_fast_35 : decode cX7_fast 35 = .ok (.ifCond .eq 7, 3) := by decide +kernel
theorem dX7_fast_38 : decode cX7_fast 38 = .ok (.iconst 0, 1) := by decide +kernel
theorem dX7_fast_39 : decode cX7_fast 39 = .ok (.goto 21, 3) := by decide +kernel
theorem dX7_fast_42 : decode cX7_fast 42 = .ok (.sipush 960, 3) := by decide +kernel
theorem dX7_fast_45 : decode cX7_fast 45 = .ok (.aload_n 0, 1) := by decide +kernel
theorem dX7_fast_46 : decode cX7_fast 46 = .ok (.getfield 10, 3) := by decide +kernel
theorem dX7_fast_49 : decode cX7_fast 49 = .ok (.getfield 77, 3) := by decide +kernel
theorem dX7_fast_52 : decode cX7_fast 52 = .ok (.invokevirtual 199, 3) := by decide +kernel
theorem dX7_fast_55 : decode cX7_fast 55 = .ok (.iload_n 1, 1) := by decide +kernel
theorem dX7_fast_56 : decode cX7_fast 56 = .ok (.isub, 1) := by decide +kernel
theorem dX7_fast_57 : decode cX7_fast 57 = .ok (.invokestatic 222, 3) := by decide +kernel
theorem dX7_fast_60 : decode cX7_fast 60 = .ok (.ireturn, 1) := by decide +kernel
theorem dX7_off_0 : decode cX7_off 0 = .ok (.iload_n 1, 1) := by decide +kernel
theorem dX7_off_1 : decode cX7_off 1 = .ok (.iload_n 2, 1) := by decide +kernel
theorem dX7_off_2 : decode cX7_off 2 = .ok (.invokestatic 155, 3) := by decide +kernel
theorem dX7_off_5 : decode cX7_off 5 = .ok (.ifCond .ne 10, 3) := by decide +kernel
theorem dX7_off_8 : decode cX7_off 8 = .ok (.aload_n 0, 1) := by decide +kernel
theorem dX7_off_9 : decode cX7_off 9 = .ok (.ldc 69, 2) := by decide +kernel
theorem dX7_off_11 : decode cX7_off 11 = .ok (.invokevirtual 70, 3) := by decide +kernel
theorem dX7_off_14 : decode cX7_off 14 = .ok (.ireturn, 1) := by decide +kernel
theorem dX7_off_15 : decode cX7_off 15 = .ok (.iconst 0, 1) := by decide +kernel
theorem dX7_off_16 : decode cX7_off 16 = .ok (.istore_n 3, 1) := by decide +kernel
theorem dX7_off_17 : decode cX7_off 17 = .ok (.iload_n 1, 1) := by decide +kernel
theorem dX7_off_18 : decode cX7_off 18 = .ok (.istore 4, 2) := by decide +kernel
theorem dX7_off_20 : decode cX7_off 20 = .ok (.iload 4, 2) := by decide +kernel
theorem dX7_off_22 : decode cX7_off 22 = .ok (.iload_n 1, 1) := by decide +kernel
theorem dX7_off_23 : decode cX7_off 23 = .ok (.iload_n 2, 1) := by decide +kernel
theorem dX7_off_24 : decode cX7_off 24 = .ok (.iadd, 1) := by decide +kernel
theorem dX7_off_25 : decode cX7_off 25 = .ok (.if_icmp .ge 37, 3) := by decide +kernel
theorem dX7_off_28 : decode cX7_off 28 = .ok (.aload_n 0, 1) := by decide +kernel
theorem dX7_off_29 : decode cX7_off 29 = .ok (.getfield 10, 3) := by decide +kernel
theorem dX7_off_32 : decode cX7_off 32 = .ok (.getfield 77, 3) := by decide +kernel
theorem dX7_off_35 : decode cX7_off 35 = .ok (.iload 4, 2) := by decide +kernel
theorem dX7_off_37 : decode cX7_off 37 = .ok (.invokevirtual 107, 3) := by decide +kernel
theorem dX7_off_40 : decode cX7_off 40 = .ok (.aload_n 0, 1) := by decide +kernel
theorem dX7_off_41 : decode cX7_off 41 = .ok (.getfield 10, 3) := by decide +kernel
theorem dX7_off_44 : decode cX7_off 44 = .ok (.getfield 77, 3) := by decide +kernel
theorem dX7_off_47 : decode cX7_off 47 = .ok (.getfield 114, 3) := by decide +kernel
theorem dX7_off_50 : decode cX7_off 50 = .ok (.ifCond .eq 6, 3) := by decide +kernel
theorem dX7_off_53 : decode cX7_off 53 = .ok (.iinc 3 1, 3) := by decide +kernel
theorem dX7_off_56 : decode cX7_off 56 = .ok (.iinc 4 1, 3) := by decide +kernel
theorem dX7_off_59 : decode cX7_off 59 = .ok (.goto (-39), 3) := by decide +kernel
theorem dX7_off_62 : decode cX7_off 62 = .ok (.iload_n 3, 1) := by decide +kernel
theorem dX7_off_63 : decode cX7_off 63 = .ok (.ireturn, 1) := by decide +kernel
theorem dX7_feed_0 : decode cX7_feed 0 = .ok (.iload_n 2, 1) := by decide +kernel
theorem dX7_feed_1 : decode cX7_feed 1 = .ok (.iconst 1, 1) := by decide +kernel
theorem dX7_feed_2 : decode cX7_feed 2 = .ok (.if_icmp .lt 8, 3) := by decide +kernel
theorem dX7_feed_5 : decode cX7_feed 5 = .ok (.iload_n 2, 1) := by decide +kernel
theorem dX7_feed_6 : decode cX7_feed 6 = .ok (.iconst 4, 1) := by decide +kernel
theorem dX7_feed_7 : decode cX7_feed 7 = .ok (.if_icmp .le 10, 3) := by decide +kernel
theorem dX7_feed_10 : decode cX7_feed 10 = .ok (.aload_n 0, 1) := by decide +kernel
theorem dX7_feed_11 : decode cX7_feed 11 = .ok (.ldc 69, 2) := by decide +kernel
theorem dX7_feed_13 : decode cX7_feed 13 = .ok (.invokevirtual 70, 3) := by decide +kernel
theorem dX7_feed_16 : decode cX7_feed 16 = .ok (.ireturn, 1) := by decide +kernel
theorem dX7_feed_17 : decode cX7_feed 17 = .ok (.aload_n 0, 1) := by decide +kernel
theorem dX7_feed_18 : decode cX7_feed 18 = .ok (.getfield 51, 3) := by decide +kernel
theorem dX7_feed_21 : decode cX7_feed 21 = .ok (.getfield 227, 3) := by decide +kernel
theorem dX7_feed_24 : decode cX7_feed 24 = .ok (.iload_n 2, 1) := by decide +kernel
theorem dX7_feed_25 : decode cX7_feed 25 = .ok (.iadd, 1) := by decide +kernel
theorem dX7_feed_26 : decode cX7_feed 26 = .ok (.bipush 120, 2) := by decide +kernel
theorem dX7_feed_28 : decode cX7_feed 28 = .ok (.if_icmp .le 10, 3) := by decide +kernel
theorem dX7_feed_31 : decode cX7_feed 31 = .ok (.aload_n 0, 1) := by decide +kernel
theorem dX7_feed_32 : decode cX7_feed 32 = .ok (.ldc 130, 2) := by decide +kernel
theorem dX7_feed_34 : decode cX7_feed 34 = .ok (.invokevirtual 70, 3) := by decide +kernel
theorem dX7_feed_37 : decode cX7_feed 37 = .ok (.ireturn, 1) := by decide +kernel
theorem dX7_feed_38 : decode cX7_feed 38 = .ok (.iload_n 2, 1) := by decide +kernel
theorem dX7_feed_39 : decode cX7_feed 39 = .ok (.iconst 1, 1) := by decide +kernel
theorem dX7_feed_40 : decode cX7_feed 40 = .ok (.isub, 1) := by decide +kernel
theorem dX7_feed_41 : decode cX7_feed 41 = .ok (.istore_n 3, 1) := by decide +kernel
theorem dX7_feed_42 : decode cX7_feed 42 = .ok (.iload_n 3, 1) := by decide +kernel
theorem dX7_feed_43 : decode cX7_feed 43 = .ok (.ifCond .lt 23, 3) := by decide +kernel
theorem dX7_feed_46 : decode cX7_feed 46 = .ok (.aload_n 0, 1) := by decide +kernel
theorem dX7_feed_47 : decode cX7_feed 47 = .ok (.getfield 51, 3) := by decide +kernel
theorem dX7_feed_50 : decode cX7_feed 50 = .ok (.iload_n 1, 1) := by decide +kernel
theorem dX7_feed_51 : decode cX7_feed 51 = .ok (.bipush 8, 2) := by decide +kernel
theorem dX7_feed_53 : decode cX7_feed 53 = .ok (.iload_n 3, 1) := by decide +kernel
theorem dX7_feed_54 : decode cX7_feed 54 = .ok (.imul, 1) := by decide +kernel
theorem dX7_feed_55 : decode cX7_feed 55 = .ok (.ishr, 1) := by decide +kernel
theorem dX7_feed_56 : decode cX7_feed 56 = .ok (.i2b, 1) := by decide +kernel
theorem dX7_feed_57 : decode cX7_feed 57 = .ok (.invokevirtual 232, 3) := by decide +kernel
theorem dX7_feed_60 : decode cX7_feed 60 = .ok (.iinc 3 (-1), 3) := by decide +kernel
theorem dX7_feed_63 : decode cX7_feed 63 = .ok (.goto (-21), 3) := by decide +kernel
theorem dX7_feed_66 : decode cX7_feed 66 = .ok (.aload_n 0, 1) := by decide +kernel
theorem dX7_feed_67 : decode cX7_feed 67 = .ok (.getfield 51, 3) := by decide +kernel
theorem dX7_feed_70 : decode cX7_feed 70 = .ok (.getfield 227, 3) := by decide +kernel
theorem dX7_feed_73 : decode cX7_feed 73 = .ok (.ireturn, 1) := by decide +kernel
theorem dX7_wipe_0 : decode cX7_wipe 0 = .ok (.aload_n 0, 1) := by decide +kernel
theorem dX7_wipe_1 : decode cX7_wipe 1 = .ok (.getfield 51, 3) := by decide +kernel
theorem dX7_wipe_4 : decode cX7_wipe 4 = .ok (.getfield 227, 3) := by decide +kernel
theorem dX7_wipe_7 : decode cX7_wipe 7 = .ok (.istore_n 1, 1) := by decide +kernel
theorem dX7_wipe_8 : decode cX7_wipe 8 = .ok (.aload_n 0, 1) := by decide +kernel
theorem dX7_wipe_9 : decode cX7_wipe 9 = .ok (.getfield 51, 3) := by decide +kernel
theorem dX7_wipe_12 : decode cX7_wipe 12 = .ok (.iconst 0, 1) := by decide +kernel
theorem dX7_wipe_13 : decode cX7_wipe 13 = .ok (.putfield 227, 3) := by decide +kernel
theorem dX7_wipe_16 : decode cX7_wipe 16 = .ok (.iload_n 1, 1) := by decide +kernel
theorem dX7_wipe_17 : decode cX7_wipe 17 = .ok (.ireturn, 1) := by decide +kernel
theorem dX7_island_0 : decode cX7_island 0 = .ok (.aload_n 0, 1) := by decide +kernel
theorem dX7_island_1 : decode cX7_island 1 = .ok (.getfield 16, 3) := by decide +kernel
theorem dX7_island_4 : decode cX7_island 4 = .ok (.aload_n 0, 1) := by decide +kernel
theorem dX7_island_5 : decode cX7_island 5 = .ok (.getfield 10, 3) := by decide +kernel
theorem dX7_island_8 : decode cX7_island 8 = .ok (.invokevirtual 236, 3) := by decide +kernel
theorem dX7_island_11 : decode cX7_island 11 = .ok (.aload_n 0, 1) := by decide +kernel
theorem dX7_island_12 : decode cX7_island 12 = .ok (.getfield 43, 3) := by decide +kernel
theorem dX7_island_15 : decode cX7_island 15 = .ok (.aload_n 0, 1) := by decide +kernel
theorem dX7_island_16 : decode cX7_island 16 = .ok (.getfield 16, 3) := by decide +kernel
theorem dX7_island_19 : decode cX7_island 19 = .ok (.invokevirtual 239, 3) := by decide +kernel
theorem dX7_island_22 : decode cX7_island 22 = .ok (.istore_n 1, 1) := by decide +kernel
theorem dX7_island_23 : decode cX7_island 23 = .ok (.aload_n 0, 1) := by decide +kernel
theorem dX7_island_24 : decode cX7_island 24 = .ok (.getfield 51, 3) := by decide +kernel
theorem dX7_island_27 : decode cX7_island 27 = .ok (.iconst 0, 1) := by decide +kernel
theorem dX7_island_28 : decode cX7_island 28 = .ok (.putfield 227, 3) := by decide +kernel
theorem dX7_island_31 : decode cX7_island 31 = .ok (.iload_n 1, 1) := by decide +kernel
theorem dX7_island_32 : decode cX7_island 32 = .ok (.ifCond .lt 21, 3) := by decide +kernel
theorem dX7_island_35 : decode cX7_island 35 = .ok (.aload_n 0, 1) := by decide +kernel
theorem dX7_island_36 : decode cX7_island 36 = .ok (.getfield 36, 3) := by decide +kernel
theorem dX7_island_39 : decode cX7_island 39 = .ok (.invokevirtual 74, 3) := by decide +kernel
theorem dX7_island_42 : decode cX7_island 42 = .ok (.aload_n 0, 1) := by decide +kernel
theorem dX7_island_43 : decode cX7_island 43 = .ok (.getfield 10, 3) := by decide +kernel
theorem dX7_island_46 : decode cX7_island 46 = .ok (.aload_n 0, 1) := by decide +kernel
theorem dX7_island_47 : decode cX7_island 47 = .ok (.getfield 16, 3) := by decide +kernel
theorem dX7_island_50 : decode cX7_island 50 = .ok (.invokevirtual 236, 3) := by decide +kernel
theorem dX7_island_53 : decode cX7_island 53 = .ok (.iload_n 1, 1) := by decide +kernel
theorem dX7_island_54 : decode cX7_island 54 = .ok (.ireturn, 1) := by decide +kernel
theorem dX7_sheet_0 : decode cX7_sheet 0 = .ok (.iload_n 1, 1) := by decide +kernel
theorem dX7_sheet_1 : decode cX7_sheet 1 = .ok (.invokestatic 243, 3) := by decide +kernel
theorem dX7_sheet_4 : decode cX7_sheet 4 = .ok (.ifCond .eq 10, 3) := by decide +kernel
theorem dX7_sheet_7 : decode cX7_sheet 7 = .ok (.iload_n 2, 1) := by decide +kernel
theorem dX7_sheet_8 : decode cX7_sheet 8 = .ok (.invokestatic 246, 3) := by decide +kernel
theorem dX7_sheet_11 : decode cX7_sheet 11 = .ok (.ifCond .ne 10, 3) := by decide +kernel
theorem dX7_sheet_14 : decode cX7_sheet 14 = .ok (.aload_n 0, 1) := by decide +kernel
theorem dX7_sheet_15 : decode cX7_sheet 15 = .ok (.ldc 69, 2) := by decide +kernel
theorem dX7_sheet_17 : decode cX7_sheet 17 = .ok (.invokevirtual 70, 3) := by decide +kernel
theorem dX7_sheet_20 : decode cX7_sheet 20 = .ok (.ireturn, 1) := by decide +kernel
theorem dX7_sheet_21 : decode cX7_sheet 21 = .ok (.iload_n 3, 1) := by decide +kernel
theorem dX7_sheet_22 : decode cX7_sheet 22 = .ok (.ifCond .ge 10, 3) := by decide +kernel
theorem dX7_sheet_25 : decode cX7_sheet 25 = .ok (.aload_n 0, 1) := by decide +kernel
theorem dX7_sheet_26 : decode cX7_sheet 26 = .ok (.ldc 248, 2) := by decide +kernel
theorem dX7_sheet_28 : decode cX7_sheet 28 = .ok (.invokevirtual 70, 3) := by decide +kernel
theorem dX7_sheet_31 : decode cX7_sheet 31 = .ok (.ireturn, 1) := by decide +kernel
theorem dX7_sheet_32 : decode cX7_sheet 32 = .ok (.iload_n 3, 1) := by decide +kernel
theorem dX7_sheet_33 : decode cX7_sheet 33 = .ok (.bipush 40, 2) := by decide +kernel
theorem dX7_sheet_35 : decode cX7_sheet 35 = .ok (.if_icmp .le 10, 3) := by decide +kernel
theorem dX7_sheet_38 : decode cX7_sheet 38 = .ok (.aload_n 0, 1) := by decide +kernel
theorem dX7_sheet_39 : decode cX7_sheet 39 = .ok (.ldc 69, 2) := by decide +kernel
theorem dX7_sheet_41 : decode cX7_sheet 41 = .ok (.invokevirtual 70, 3) := by decide +kernel
theorem dX7_sheet_44 : decode cX7_sheet 44 = .ok (.ireturn, 1) := by decide +kernel
theorem dX7_sheet_45 : decode cX7_sheet 45 = .ok (.aload_n 0, 1) := by decide +kernel
theorem dX7_sheet_46 : decode cX7_sheet 46 = .ok (.getfield 54, 3) := by decide +kernel
theorem dX7_sheet_49 : decode cX7_sheet 49 = .ok (.iload_n 1, 1) := by decide +kernel
theorem dX7_sheet_50 : decode cX7_sheet 50 = .ok (.aaload, 1) := by decide +kernel
theorem dX7_sheet_51 : decode cX7_sheet 51 = .ok (.iload_n 2, 1) := by decide +kernel
theorem dX7_sheet_52 : decode cX7_sheet 52 = .ok (.iload_n 3, 1) := by decide +kernel
theorem dX7_sheet_53 : decode cX7_sheet 53 = .ok (.invokevirtual 249, 3) := by decide +kernel
theorem dX7_sheet_56 : decode cX7_sheet 56 = .ok (.ireturn, 1) := by decide +kernel
theorem dX7_write_0 : decode cX7_write 0 = .ok (.iload_n 1, 1) := by decide +kernel
theorem dX7_write_1 : decode cX7_write 1 = .ok (.invokestatic 243, 3) := by decide +kernel
theorem dX7_write_4 : decode cX7_write 4 = .ok (.ifCond .ne 11, 3) := by decide +kernel
theorem dX7_write_7 : decode cX7_write 7 = .ok (.aload_n 0, 1) := by decide +kernel
theorem dX7_write_8 : decode cX7_write 8 = .ok (.ldc 69, 2) := by decide +kernel
theorem dX7_write_10 : decode cX7_write 10 = .ok (.invokevirtual 70, 3) := by decide +kernel
theorem dX7_write_13 : decode cX7_write 13 = .ok (.i2l, 1) := by decide +kernel
theorem dX7_write_14 : decode cX7_write 14 = .ok (.lreturn, 1) := by decide +kernel
theorem dX7_write_15 : decode cX7_write 15 = .ok (.aload_n 0, 1) := by decide +kernel
theorem dX7_write_16 : decode cX7_write 16 = .ok (.getfield 54, 3) := by decide +kernel
theorem dX7_write_19 : decode cX7_write 19 = .ok (.iload_n 1, 1) := by decide +kernel
theorem dX7_write_20 : decode cX7_write 20 = .ok (.aaload, 1) := by decide +kernel
theorem dX7_write_21 : decode cX7_write 21 = .ok (.invokevirtual 252, 3) := by decide +kernel
theorem dX7_write_24 : decode cX7_write 24 = .ok (.ifCond .eq 12, 3) := by decide +kernel
theorem dX7_write_27 : decode cX7_write 27 = .ok (.aload_n 0, 1) := by decide +kernel
theorem dX7_write_28 : decode cX7_write 28 = .ok (.ldc_w 256, 3) := by decide +kernel
theorem dX7_write_31 : decode cX7_write 31 = .ok (.invokevirtual 70, 3) := by decide +kernel
theorem dX7_write_34 : decode cX7_write 34 = .ok (.i2l, 1) := by decide +kernel
theorem dX7_write_35 : decode cX7_write 35 = .ok (.lreturn, 1) := by decide +kernel
theorem dX7_write_36 : decode cX7_write 36 = .ok (.iload_n 2, 1) := by decide +kernel
theorem dX7_write_37 : decode cX7_write 37 = .ok (.ifCond .lt 16, 3) := by decide +kernel
theorem dX7_write_40 : decode cX7_write 40 = .ok (.iload_n 2, 1) := by decide +kernel
theorem dX7_write_41 : decode cX7_write 41 = .ok (.aload_n 0, 1) := by decide +kernel
theorem dX7_write_42 : decode cX7_write 42 = .ok (.getfield 54, 3) := by decide +kernel
theorem dX7_write_45 : decode cX7_write 45 = .ok (.iload_n 1, 1) := by decide +kernel
theorem dX7_write_46 : decode cX7_write 46 = .ok (.aaload, 1) := by decide +kernel
theorem dX7_write_47 : decode cX7_write 47 = .ok (.getfield 257, 3) := by decide +kernel
theorem dX7_write_50 : decode cX7_write 50 = .ok (.if_icmp .lt 11, 3) := by decide +kernel
theorem dX7_write_53 : decode cX7_write 53 = .ok (.aload_n 0, 1) := by decide +kernel
theorem dX7_write_54 : decode cX7_write 54 = .ok (.ldc 69, 2) := by decide +kernel
theorem dX7_write_56 : decode cX7_write 56 = .ok (.invokevirtual 70, 3) := by decide +kernel
theorem dX7_write_59 : decode cX7_write 59 = .ok (.i2l, 1) := by decide +kernel
theorem dX7_write_60 : decode cX7_write 60 = .ok (.lreturn, 1) := by decide +kernel
theorem dX7_write_61 : decode cX7_write 61 = .ok (.aload_n 0, 1) := by decide +kernel
theorem dX7_write_62 : decode cX7_write 62 = .ok (.getfield 54, 3) := by decide +kernel
theorem dX7_write_65 : decode cX7_write 65 = .ok (.iload_n 1, 1) := by decide +kernel
theorem dX7_write_66 : decode cX7_write 66 = .ok (.aaload, 1) := by decide +kernel
theorem dX7_write_67 : decode cX7_write 67 = .ok (.getfield 260, 3) := by decide +kernel
theorem dX7_write_70 : decode cX7_write 70 = .ok (.iload_n 2, 1) := by decide +kernel
theorem dX7_write_71 : decode cX7_write 71 = .ok (.laload, 1) := by decide +kernel
theorem dX7_write_72 : decode cX7_write 72 = .ok (.lstore 5, 2) := by decide +kernel
theorem dX7_write_74 : decode cX7_write 74 = .ok (.aload_n 0, 1) := by decide +kernel
theorem dX7_write_75 : decode cX7_write 75 = .ok (.getfield 54, 3) := by decide +kernel
theorem dX7_write_78 : decode cX7_write 78 = .ok (.iload_n 1, 1) := by decide +kernel
theorem dX7_write_79 : decode cX7_write 79 = .ok (.aaload, 1) := by decide +kernel
theorem dX7_write_80 : decode cX7_write 80 = .ok (.iload_n 2, 1) := by decide +kernel
theorem dX7_write_81 : decode cX7_write 81 = .ok (.lload_n 3, 1) := by decide +kernel
theorem dX7_write_82 : decode cX7_write 82 = .ok (.invokevirtual 264, 3) := by decide +kernel
theorem dX7_write_85 : decode cX7_write 85 = .ok (.lload 5, 2) := by decide +kernel
theorem dX7_write_87 : decode cX7_write 87 = .ok (.lreturn, 1) := by decide +kernel
theorem dX7_copy_0 : decode cX7_copy 0 = .ok (.iload_n 1, 1) := by decide +kernel
theorem dX7_copy_1 : decode cX7_copy 1 = .ok (.invokestatic 243, 3) := by decide +kernel
theorem dX7_copy_4 : decode cX7_copy 4 = .ok (.ifCond .eq 10, 3) := by decide +kernel
theorem dX7_copy_7 : decode cX7_copy 7 = .ok (.iload_n 3, 1) := by decide +kernel
theorem dX7_copy_8 : decode cX7_copy 8 = .ok (.invokestatic 243, 3) := by decide +kernel
theorem dX7_copy_11 : decode cX7_copy 11 = .ok (.ifCond .ne 10, 3) := by decide +kernel
theorem dX7_copy_14 : decode cX7_copy 14 = .ok (.aload_n 0, 1) := by decide +kernel
theorem dX7_copy_15 : decode cX7_copy 15 = .ok (.ldc 69, 2) := by decide +kernel
theorem dX7_copy_17 : decode cX7_copy 17 = .ok (.invokevirtual 70, 3) := by decide +kernel
theorem dX7_copy_20 : decode cX7_copy 20 = .ok (.ireturn, 1) := by decide +kernel
theorem dX7_copy_21 : decode cX7_copy 21 = .ok (.aload_n 0, 1) := by decide +kernel
theorem dX7_copy_22 : decode cX7_copy 22 = .ok (.getfield 54, 3) := by decide +kernel
theorem dX7_copy_25 : decode cX7_copy 25 = .ok (.iload_n 1, 1) := by decide +kernel
theorem dX7_copy_26 : decode cX7_copy 26 = .ok (.aaload, 1) := by decide +kernel
theorem dX7_copy_27 : decode cX7_copy 27 = .ok (.invokevirtual 252, 3) := by decide +kernel
theorem dX7_copy_30 : decode cX7_copy 30 = .ok (.ifCond .ne 15, 3) := by decide +kernel
theorem dX7_copy_33 : decode cX7_copy 33 = .ok (.aload_n 0, 1) := by decide +kernel
theorem dX7_copy_34 : decode cX7_copy 34 = .ok (.getfield 54, 3) := by decide +kernel
theorem dX7_copy_37 : decode cX7_copy 37 = .ok (.iload_n 3, 1) := by decide +kernel
theorem dX7_copy_38 : decode cX7_copy 38 = .ok (.aaload, 1) := by decide +kernel
theorem dX7_copy_39 : decode cX7_copy 39 = .ok (.invokevirtual 252, 3) := by decide +kernel
theorem dX7_copy_42 : decode cX7_copy 42 = .ok (.ifCond .eq 11, 3) := by decide +kernel
theorem dX7_copy_45 : decode cX7_copy 45 = .ok (.aload_n 0, 1) := by decide +kernel
theorem dX7_copy_46 : decode cX7_copy 46 = .ok (.ldc_w 256, 3) := by decide +kernel
theorem dX7_copy_49 : decode cX7_copy 49 = .ok (.invokevirtual 70, 3) := by decide +kernel
theorem dX7_copy_52 : decode cX7_copy 52 = .ok (.ireturn, 1) := by decide +kernel
theorem dX7_copy_53 : decode cX7_copy 53 = .ok (.aload_n 0, 1) := by decide +kernel
theorem dX7_copy_54 : decode cX7_copy 54 = .ok (.getfield 54, 3) := by decide +kernel
theorem dX7_copy_57 : decode cX7_copy 57 = .ok (.iload_n 1, 1) := by decide +kernel
theorem dX7_copy_58 : decode cX7_copy 58 = .ok (.aaload, 1) := by decide +kernel
theorem dX7_copy_59 : decode cX7_copy 59 = .ok (.getfield 268, 3) := by decide +kernel
theorem dX7_copy_62 : decode cX7_copy 62 = .ok (.aload_n 0, 1) := by decide +kernel
theorem dX7_copy_63 : decode cX7_copy 63 = .ok (.getfield 54, 3) := by decide +kernel
theorem dX7_copy_66 : decode cX7_copy 66 = .ok (.iload_n 3, 1) := by decide +kernel
theorem dX7_copy_67 : decode cX7_copy 67 = .ok (.aaload, 1) := by decide +kernel
theorem dX7_copy_68 : decode cX7_copy 68 = .ok (.getfield 268, 3) := by decide +kernel
theorem dX7_copy_71 : decode cX7_copy 71 = .ok (.if_icmp .eq 10, 3) := by decide +kernel
theorem dX7_copy_74 : decode cX7_copy 74 = .ok (.aload_n 0, 1) := by decide +kernel
theorem dX7_copy_75 : decode cX7_copy 75 = .ok (.ldc 147, 2) := by decide +kernel
theorem dX7_copy_77 : decode cX7_copy 77 = .ok (.invokevirtual 70, 3) := by decide +kernel
theorem dX7_copy_80 : decode cX7_copy 80 = .ok (.ireturn, 1) := by decide +kernel
theorem dX7_copy_81 : decode cX7_copy 81 = .ok (.aload_n 0, 1) := by decide +kernel
theorem dX7_copy_82 : decode cX7_copy 82 = .ok (.getfield 54, 3) := by decide +kernel
theorem dX7_copy_85 : decode cX7_copy 85 = .ok (.iload_n 1, 1) := by decide +kernel
theorem dX7_copy_86 : decode cX7_copy 86 = .ok (.aaload, 1) := by decide +kernel
theorem dX7_copy_87 : decode cX7_copy 87 = .ok (.iload_n 2, 1) := by decide +kernel
theorem dX7_copy_88 : decode cX7_copy 88 = .ok (.iload 5, 2) := by decide +kernel
theorem dX7_copy_90 : decode cX7_copy 90 = .ok (.invokevirtual 271, 3) := by decide +kernel
theorem dX7_copy_93 : decode cX7_copy 93 = .ok (.ifCond .eq 19, 3) := by decide +kernel
theorem dX7_copy_96 : decode cX7_copy 96 = .ok (.aload_n 0, 1) := by decide +kernel
theorem dX7_copy_97 : decode cX7_copy 97 = .ok (.getfield 54, 3) := by decide +kernel
theorem dX7_copy_100 : decode cX7_copy 100 = .ok (.iload_n 3, 1) := by decide +kernel
theorem dX7_copy_101 : decode cX7_copy 101 = .ok (.aaload, 1) := by decide +kernel
theorem dX7_copy_102 : decode cX7_copy 102 = .ok (.iload 4, 2) := by decide +kernel
theorem dX7_copy_104 : decode cX7_copy 104 = .ok (.iload 5, 2) := by decide +kernel
theorem dX7_copy_106 : decode cX7_copy 106 = .ok (.invokevirtual 271, 3) := by decide +kernel
theorem dX7_copy_109 : decode cX7_copy 109 = .ok (.ifCond .ne 10, 3) := by decide +kernel
theorem dX7_copy_112 : decode cX7_copy 112 = .ok (.aload_n 0, 1) := by decide +kernel
theorem dX7_copy_113 : decode cX7_copy 113 = .ok (.ldc 69, 2) := by decide +kernel
theorem dX7_copy_115 : decode cX7_copy 115 = .ok (.invokevirtual 70, 3) := by decide +kernel
theorem dX7_copy_118 : decode cX7_copy 118 = .ok (.ireturn, 1) := by decide +kernel
theorem dX7_copy_119 : decode cX7_copy 119 = .ok (.aload_n 0, 1) := by decide +kernel
theorem dX7_copy_120 : decode cX7_copy 120 = .ok (.getfield 54, 3) := by decide +kernel
theorem dX7_copy_123 : decode cX7_copy 123 = .ok (.iload_n 1, 1) := by decide +kernel
theorem dX7_copy_124 : decode cX7_copy 124 = .ok (.aaload, 1) := by decide +kernel
theorem dX7_copy_125 : decode cX7_copy 125 = .ok (.getfield 260, 3) := by decide +kernel
theorem dX7_copy_128 : decode cX7_copy 128 = .ok (.iload_n 2, 1) := by decide +kernel
theorem dX7_copy_129 : decode cX7_copy 129 = .ok (.aload_n 0, 1) := by decide +kernel
theorem dX7_copy_130 : decode cX7_copy 130 = .ok (.getfield 54, 3) := by decide +kernel
theorem dX7_copy_133 : decode cX7_copy 133 = .ok (.iload_n 3, 1) := by decide +kernel
theorem dX7_copy_134 : decode cX7_copy 134 = .ok (.aaload, 1) := by decide +kernel
theorem dX7_copy_135 : decode cX7_copy 135 = .ok (.getfield 260, 3) := by decide +kernel
theorem dX7_copy_138 : decode cX7_copy 138 = .ok (.iload 4, 2) := by decide +kernel
theorem dX7_copy_140 : decode cX7_copy 140 = .ok (.iload 5, 2) := by decide +kernel
theorem dX7_copy_142 : decode cX7_copy 142 = .ok (.invokestatic 274, 3) := by decide +kernel
theorem dX7_copy_145 : decode cX7_copy 145 = .ok (.iload 5, 2) := by decide +kernel
theorem dX7_copy_147 : decode cX7_copy 147 = .ok (.ireturn, 1) := by decide +kernel
theorem dX7_lays_0 : decode cX7_lays 0 = .ok (.iload_n 1, 1) := by decide +kernel
theorem dX7_lays_1 : decode cX7_lays 1 = .ok (.invokestatic 243, 3) := by decide +kernel
theorem dX7_lays_4 : decode cX7_lays 4 = .ok (.ifCond .ne 10, 3) := by decide +kernel
theorem dX7_lays_7 : decode cX7_lays 7 = .ok (.aload_n 0, 1) := by decide +kernel
theorem dX7_lays_8 : decode cX7_lays 8 = .ok (.ldc 69, 2) := by decide +kernel
theorem dX7_lays_10 : decode cX7_lays 10 = .ok (.invokevirtual 70, 3) := by decide +kernel
theorem dX7_lays_13 : decode cX7_lays 13 = .ok (.ireturn, 1) := by decide +kernel
theorem dX7_lays_14 : decode cX7_lays 14 = .ok (.aload_n 0, 1) := by decide +kernel
theorem dX7_lays_15 : decode cX7_lays 15 = .ok (.getfield 54, 3) := by decide +kernel
theorem dX7_lays_18 : decode cX7_lays 18 = .ok (.iload_n 1, 1) := by decide +kernel
theorem dX7_lays_19 : decode cX7_lays 19 = .ok (.aaload, 1) := by decide +kernel
theorem dX7_lays_20 : decode cX7_lays 20 = .ok (.invokevirtual 252, 3) := by decide +kernel
theorem dX7_lays_23 : decode cX7_lays 23 = .ok (.ifCond .eq 11, 3) := by decide +kernel
theorem dX7_lays_26 : decode cX7_lays 26 = .ok (.aload_n 0, 1) := by decide +kernel
theorem dX7_lays_27 : decode cX7_lays 27 = .ok (.ldc_w 256, 3) := by decide +kernel
theorem dX7_lays_30 : decode cX7_lays 30 = .ok (.invokevirtual 70, 3) := by decide +kernel
theorem dX7_lays_33 : decode cX7_lays 33 = .ok (.ireturn, 1) := by decide +kernel
theorem dX7_lays_34 : decode cX7_lays 34 = .ok (.iconst 0, 1) := by decide +kernel
theorem dX7_lays_35 : decode cX7_lays 35 = .ok (.istore_n 2, 1) := by decide +kernel
theorem dX7_lays_36 : decode cX7_lays 36 = .ok (.iconst 0, 1) := by decide +kernel
theorem dX7_lays_37 : decode cX7_lays 37 = .ok (.istore_n 3, 1) := by decide +kernel
theorem dX7_lays_38 : decode cX7_lays 38 = .ok (.iload_n 3, 1) := by decide +kernel
theorem dX7_lays_39 : decode cX7_lays 39 = .ok (.aload_n 0, 1) := by decide +kernel
theorem dX7_lays_40 : decode cX7_lays 40 = .ok (.getfield 54, 3) := by decide +kernel
theorem dX7_lays_43 : decode cX7_lays 43 = .ok (.iload_n 1, 1) := by decide +kernel
theorem dX7_lays_44 : decode cX7_lays 44 = .ok (.aaload, 1) := by decide +kernel
theorem dX7_lays_45 : decode cX7_lays 45 = .ok (.getfield 257, 3) := by decide +kernel
theorem dX7_lays_48 : decode cX7_lays 48 = .ok (.if_icmp .ge 64, 3) := by decide +kernel
theorem dX7_lays_51 : decode cX7_lays 51 = .ok (.iload_n 3, 1) := by decide +kernel
theorem dX7_lays_52 : decode cX7_lays 52 = .ok (.aload_n 0, 1) := by decide +kernel
theorem dX7_lays_53 : decode cX7_lays 53 = .ok (.getfield 10, 3) := by decide +kernel
theorem dX7_lays_56 : decode cX7_lays 56 = .ok (.getfield 127, 3) := by decide +kernel
theorem dX7_lays_59 : decode cX7_lays 59 = .ok (.if_icmp .ge 53, 3) := by decide +kernel
theorem dX7_lays_62 : decode cX7_lays 62 = .ok (.aload_n 0, 1) := by decide +kernel
theorem dX7_lays_63 : decode cX7_lays 63 = .ok (.getfield 54, 3) := by decide +kernel
theorem dX7_lays_66 : decode cX7_lays 66 = .ok (.iload_n 1, 1) := by decide +kernel
theorem dX7_lays_67 : decode cX7_lays 67 = .ok (.aaload, 1) := by decide +kernel
theorem dX7_lays_68 : decode cX7_lays 68 = .ok (.getfield 260, 3) := by decide +kernel
theorem dX7_lays_71 : decode cX7_lays 71 = .ok (.iload_n 3, 1) := by decide +kernel
theorem dX7_lays_72 : decode cX7_lays 72 = .ok (.laload, 1) := by decide +kernel
theorem dX7_lays_73 : decode cX7_lays 73 = .ok (.lstore 4, 2) := by decide +kernel
theorem dX7_lays_75 : decode cX7_lays 75 = .ok (.lload 4, 2) := by decide +kernel
theorem dX7_lays_77 : decode cX7_lays 77 = .ok (.lconst 0, 1) := by decide +kernel
theorem dX7_lays_78 : decode cX7_lays 78 = .ok (.lcmp, 1) := by decide +kernel
theorem dX7_lays_79 : decode cX7_lays 79 = .ok (.ifCond .lt 27, 3) := by decide +kernel
theorem dX7_lays_82 : decode cX7_lays 82 = .ok (.lload 4, 2) := by decide +kernel
theorem dX7_lays_84 : decode cX7_lays 84 = .ok (.ldc2_w 280, 3) := by decide +kernel
theorem dX7_lays_87 : decode cX7_lays 87 = .ok (.lcmp, 1) := by decide +kernel
theorem dX7_lays_88 : decode cX7_lays 88 = .ok (.ifCond .ge 18, 3) := by decide +kernel
theorem dX7_lays_91 : decode cX7_lays 91 = .ok (.aload_n 0, 1) := by decide +kernel
theorem dX7_lays_92 : decode cX7_lays 92 = .ok (.getfield 10, 3) := by decide +kernel
theorem dX7_lays_95 : decode cX7_lays 95 = .ok (.getfield 141, 3) := by decide +kernel
theorem dX7_lays_98 : decode cX7_lays 98 = .ok (.iload_n 3, 1) := by decide +kernel
theorem dX7_lays_99 : decode cX7_lays 99 = .ok (.lload 4, 2) := by decide +kernel
theorem dX7_lays_101 : decode cX7_lays 101 = .ok (.l2i, 1) := by decide +kernel
theorem dX7_lays_102 : decode cX7_lays 102 = .ok (.iastore, 1) := by decide +kernel
theorem dX7_lays_103 : decode cX7_lays 103 = .ok (.iinc 2 1, 3) := by decide +kernel
theorem dX7_lays_106 : decode cX7_lays 106 = .ok (.iinc 3 1, 3) := by decide +kernel
theorem dX7_lays_109 : decode cX7_lays 109 = .ok (.goto (-71), 3) := by decide +kernel
theorem dX7_lays_112 : decode cX7_lays 112 = .ok (.iload_n 2, 1) := by decide +kernel
theorem dX7_lays_113 : decode cX7_lays 113 = .ok (.ireturn, 1) := by decide +kernel
theorem dX7_calendar_0 : decode cX7_calendar 0 = .ok (.aload_n 0, 1) := by decide +kernel
theorem dX7_calendar_1 : decode cX7_calendar 1 = .ok (.iload_n 1, 1) := by decide +kernel
theorem dX7_calendar_2 : decode cX7_calendar 2 = .ok (.iload_n 2, 1) := by decide +kernel
theorem dX7_calendar_3 : decode cX7_calendar 3 = .ok (.iload_n 3, 1) := by decide +kernel
theorem dX7_calendar_4 : decode cX7_calendar 4 = .ok (.iload 4, 2) := by decide +kernel
theorem dX7_calendar_6 : decode cX7_calendar 6 = .ok (.invokevirtual 282, 3) := by decide +kernel
theorem dX7_calendar_9 : decode cX7_calendar 9 = .ok (.istore 5, 2) := by decide +kernel
theorem dX7_calendar_11 : decode cX7_calendar 11 = .ok (.iload 5, 2) := by decide +kernel
theorem dX7_calendar_13 : decode cX7_calendar 13 = .ok (.ifCond .eq 10, 3) := by decide +kernel
theorem dX7_calendar_16 : decode cX7_calendar 16 = .ok (.aload_n 0, 1) := by decide +kernel
theorem dX7_calendar_17 : decode cX7_calendar 17 = .ok (.iload 5, 2) := by decide +kernel
theorem dX7_calendar_19 : decode cX7_calendar 19 = .ok (.invokevirtual 70, 3) := by decide +kernel
theorem dX7_calendar_22 : decode cX7_calendar 22 = .ok (.ireturn, 1) := by decide +kernel
theorem dX7_calendar_23 : decode cX7_calendar 23 = .ok (.iconst 0, 1) := by decide +kernel
theorem dX7_calendar_24 : decode cX7_calendar 24 = .ok (.istore 6, 2) := by decide +kernel
theorem dX7_calendar_26 : decode cX7_calendar 26 = .ok (.iload 6, 2) := by decide +kernel
theorem dX7_calendar_28 : decode cX7_calendar 28 = .ok (.aload_n 0, 1) := by decide +kernel
theorem dX7_calendar_29 : decode cX7_calendar 29 = .ok (.getfield 54, 3) := by decide +kernel
theorem dX7_calendar_32 : decode cX7_calendar 32 = .ok (.iload_n 1, 1) := by decide +kernel
theorem dX7_calendar_33 : decode cX7_calendar 33 = .ok (.aaload, 1) := by decide +kernel
theorem dX7_calendar_34 : decode cX7_calendar 34 = .ok (.getfield 257, 3) := by decide +kernel
theorem dX7_calendar_37 : decode cX7_calendar 37 = .ok (.if_icmp .ge 49, 3) := by decide +kernel
theorem dX7_calendar_40 : decode cX7_calendar 40 = .ok (.aload_n 0, 1) := by decide +kernel
theorem dX7_calendar_41 : decode cX7_calendar 41 = .ok (.getfield 10, 3) := by decide +kernel
theorem dX7_calendar_44 : decode cX7_calendar 44 = .ok (.getfield 77, 3) := by decide +kernel
theorem dX7_calendar_47 : decode cX7_calendar 47 = .ok (.iload_n 3, 1) := by decide +kernel
theorem dX7_calendar_48 : decode cX7_calendar 48 = .ok (.iload 6, 2) := by decide +kernel
theorem dX7_calendar_50 : decode cX7_calendar 50 = .ok (.iload 4, 2) := by decide +kernel
theorem dX7_calendar_52 : decode cX7_calendar 52 = .ok (.imul, 1) := by decide +kernel
theorem dX7_calendar_53 : decode cX7_calendar 53 = .ok (.iadd, 1) := by decide +kernel
theorem dX7_calendar_54 : decode cX7_calendar 54 = .ok (.invokevirtual 107, 3) := by decide +kernel
theorem dX7_calendar_57 : decode cX7_calendar 57 = .ok (.aload_n 0, 1) := by decide +kernel
theorem dX7_calendar_58 : decode cX7_calendar 58 = .ok (.getfield 54, 3) := by decide +kernel
theorem dX7_calendar_61 : decode cX7_calendar 61 = .ok (.iload_n 1, 1) := by decide +kernel
theorem dX7_calendar_62 : decode cX7_calendar 62 = .ok (.aaload, 1) := by decide +kernel
theorem dX7_calendar_63 : decode cX7_calendar 63 = .ok (.iload 6, 2) := by decide +kernel
theorem dX7_calendar_65 : decode cX7_calendar 65 = .ok (.aload_n 0, 1) := by decide +kernel
theorem dX7_calendar_66 : decode cX7_calendar 66 = .ok (.getfield 10, 3) := by decide +kernel
theorem dX7_calendar_69 : decode cX7_calendar 69 = .ok (.getfield 77, 3) := by decide +kernel
theorem dX7_calendar_72 : decode cX7_calendar 72 = .ok (.iload_n 2, 1) := by decide +kernel
theorem dX7_calendar_73 : decode cX7_calendar 73 = .ok (.invokevirtual 117, 3) := by decide +kernel
theorem dX7_calendar_76 : decode cX7_calendar 76 = .ok (.i2l, 1) := by decide +kernel
theorem dX7_calendar_77 : decode cX7_calendar 77 = .ok (.invokevirtual 264, 3) := by decide +kernel
theorem dX7_calendar_80 : decode cX7_calendar 80 = .ok (.iinc 6 1, 3) := by decide +kernel
theorem dX7_calendar_83 : decode cX7_calendar 83 = .ok (.goto (-57), 3) := by decide +kernel
theorem dX7_calendar_86 : decode cX7_calendar 86 = .ok (.aload_n 0, 1) := by decide +kernel
theorem dX7_calendar_87 : decode cX7_calendar 87 = .ok (.getfield 54, 3) := by decide +kernel
theorem dX7_calendar_90 : decode cX7_calendar 90 = .ok (.iload_n 1, 1) := by decide +kernel
theorem dX7_calendar_91 : decode cX7_calendar 91 = .ok (.aaload, 1) := by decide +kernel
theorem dX7_calendar_92 : decode cX7_calendar 92 = .ok (.getfield 257, 3) := by decide +kernel
theorem dX7_calendar_95 : decode cX7_calendar 95 = .ok (.ireturn, 1) := by decide +kernel
theorem dX7_read_0 : decode cX7_read 0 = .ok (.aload_n 0, 1) := by decide +kernel
theorem dX7_read_1 : decode cX7_read 1 = .ok (.iload_n 1, 1) := by decide +kernel
theorem dX7_read_2 : decode cX7_read 2 = .ok (.iload_n 2, 1) := by decide +kernel
theorem dX7_read_3 : decode cX7_read 3 = .ok (.iload_n 3, 1) := by decide +kernel
theorem dX7_read_4 : decode cX7_read 4 = .ok (.iload 4, 2) := by decide +kernel
theorem dX7_read_6 : decode cX7_read 6 = .ok (.invokevirtual 282, 3) := by decide +kernel
theorem dX7_read_9 : decode cX7_read 9 = .ok (.istore 5, 2) := by decide +kernel
theorem dX7_read_11 : decode cX7_read 11 = .ok (.iload 5, 2) := by decide +kernel
theorem dX7_read_13 : decode cX7_read 13 = .ok (.ifCond .eq 10, 3) := by decide +kernel
theorem dX7_read_16 : decode cX7_read 16 = .ok (.aload_n 0, 1) := by decide +kernel
theorem dX7_read_17 : decode cX7_read 17 = .ok (.iload 5, 2) := by decide +kernel
theorem dX7_read_19 : decode cX7_read 19 = .ok (.invokevirtual 70, 3) := by decide +kernel
theorem dX7_read_22 : decode cX7_read 22 = .ok (.ireturn, 1) := by decide +kernel
theorem dX7_read_23 : decode cX7_read 23 = .ok (.iconst 0, 1) := by decide +kernel
theorem dX7_read_24 : decode cX7_read 24 = .ok (.istore 6, 2) := by decide +kernel
theorem dX7_read_26 : decode cX7_read 26 = .ok (.iload 6, 2) := by decide +kernel
theorem dX7_read_28 : decode cX7_read 28 = .ok (.aload_n 0, 1) := by decide +kernel
theorem dX7_read_29 : decode cX7_read 29 = .ok (.getfield 54, 3) := by decide +kernel
theorem dX7_read_32 : decode cX7_read 32 = .ok (.iload_n 1, 1) := by decide +kernel
theorem dX7_read_33 : decode cX7_read 33 = .ok (.aaload, 1) := by decide +kernel
theorem dX7_read_34 : decode cX7_read 34 = .ok (.getfield 257, 3) := by decide +kernel
theorem dX7_read_37 : decode cX7_read 37 = .ok (.if_icmp .ge 59, 3) := by decide +kernel
theorem dX7_read_40 : decode cX7_read 40 = .ok (.aload_n 0, 1) := by decide +kernel
theorem dX7_read_41 : decode cX7_read 41 = .ok (.getfield 10, 3) := by decide +kernel
theorem dX7_read_44 : decode cX7_read 44 = .ok (.getfield 77, 3) := by decide +kernel
theorem dX7_read_47 : decode cX7_read 47 = .ok (.iload_n 3, 1) := by decide +kernel
theorem dX7_read_48 : decode cX7_read 48 = .ok (.iload 6, 2) := by decide +kernel
theorem dX7_read_50 : decode cX7_read 50 = .ok (.iload 4, 2) := by decide +kernel
theorem dX7_read_52 : decode cX7_read 52 = .ok (.imul, 1) := by decide +kernel
theorem dX7_read_53 : decode cX7_read 53 = .ok (.iadd, 1) := by decide +kernel
theorem dX7_read_54 : decode cX7_read 54 = .ok (.invokevirtual 107, 3) := by decide +kernel
theorem dX7_read_57 : decode cX7_read 57 = .ok (.aload_n 0, 1) := by decide +kernel
theorem dX7_read_58 : decode cX7_read 58 = .ok (.getfield 54, 3) := by decide +kernel
theorem dX7_read_61 : decode cX7_read 61 = .ok (.iload_n 1, 1) := by decide +kernel
theorem dX7_read_62 : decode cX7_read 62 = .ok (.aaload, 1) := by decide +kernel
theorem dX7_read_63 : decode cX7_read 63 = .ok (.getfield 260, 3) := by decide +kernel
theorem dX7_read_66 : decode cX7_read 66 = .ok (.iload 6, 2) := by decide +kernel
theorem dX7_read_68 : decode cX7_read 68 = .ok (.laload, 1) := by decide +kernel
theorem dX7_read_69 : decode cX7_read 69 = .ok (.aload_n 0, 1) := by decide +kernel
theorem dX7_read_70 : decode cX7_read 70 = .ok (.getfield 10, 3) := by decide +kernel
theorem dX7_read_73 : decode cX7_read 73 = .ok (.getfield 77, 3) := by decide +kernel
theorem dX7_read_76 : decode cX7_read 76 = .ok (.iload_n 2, 1) := by decide +kernel
theorem dX7_read_77 : decode cX7_read 77 = .ok (.invokevirtual 117, 3) := by decide +kernel
theorem dX7_read_80 : decode cX7_read 80 = .ok (.i2l, 1) := by decide +kernel
theorem dX7_read_81 : decode cX7_read 81 = .ok (.lcmp, 1) := by decide +kernel
theorem dX7_read_82 : decode cX7_read 82 = .ok (.ifCond .eq 8, 3) := by decide +kernel
theorem dX7_read_85 : decode cX7_read 85 = .ok (.iconst 1, 1) := by decide +kernel
theorem dX7_read_86 : decode cX7_read 86 = .ok (.iload 6, 2) := by decide +kernel
theorem dX7_read_88 : decode cX7_read 88 = .ok (.iadd, 1) := by decide +kernel
theorem dX7_read_89 : decode cX7_read 89 = .ok (.ireturn, 1) := by decide +kernel
theorem dX7_read_90 : decode cX7_read 90 = .ok (.iinc 6 1, 3) := by decide +kernel
theorem dX7_read_93 : decode cX7_read 93 = .ok (.goto (-67), 3) := by decide +kernel
theorem dX7_read_96 : decode cX7_read 96 = .ok (.iconst 0, 1) := by decide +kernel
theorem dX7_read_97 : decode cX7_read 97 = .ok (.ireturn, 1) := by decide +kernel
theorem dX7_image_0 : decode cX7_image 0 = .ok (.aload_n 0, 1) := by decide +kernel
theorem dX7_image_1 : decode cX7_image 1 = .ok (.getfield 19, 3) := by decide +kernel
theorem dX7_image_4 : decode cX7_image 4 = .ok (.aload_n 0, 1) := by decide +kernel
theorem dX7_image_5 : decode cX7_image 5 = .ok (.getfield 10, 3) := by decide +kernel
theorem dX7_image_8 : decode cX7_image 8 = .ok (.invokevirtual 236, 3) := by decide +kernel
theorem dX7_image_11 : decode cX7_image 11 = .ok (.aload_n 0, 1) := by decide +kernel
theorem dX7_image_12 : decode cX7_image 12 = .ok (.iconst 1, 1) := by decide +kernel
theorem dX7_image_13 : decode cX7_image 13 = .ok (.putfield 22, 3) := by decide +kernel
theorem dX7_image_16 : decode cX7_image 16 = .ok (.iconst 1, 1) := by decide +kernel
theorem dX7_image_17 : decode cX7_image 17 = .ok (.ireturn, 1) := by decide +kernel
theorem dX7_undo_0 : decode cX7_undo 0 = .ok (.aload_n 0, 1) := by decide +kernel
theorem dX7_undo_1 : decode cX7_undo 1 = .ok (.getfield 22, 3) := by decide +kernel
theorem dX7_undo_4 : decode cX7_undo 4 = .ok (.ifCond .ne 10, 3) := by decide +kernel
theorem dX7_undo_7 : decode cX7_undo 7 = .ok (.aload_n 0, 1) := by decide +kernel
theorem dX7_undo_8 : decode cX7_undo 8 = .ok (.ldc 120, 2) := by decide +kernel
theorem dX7_undo_10 : decode cX7_undo 10 = .ok (.invokevirtual 70, 3) := by decide +kernel
theorem dX7_undo_13 : decode cX7_undo 13 = .ok (.ireturn, 1) := by decide +kernel
theorem dX7_undo_14 : decode cX7_undo 14 = .ok (.aload_n 0, 1) := by decide +kernel
theorem dX7_undo_15 : decode cX7_undo 15 = .ok (.getfield 36, 3) := by decide +kernel
theorem dX7_undo_18 : decode cX7_undo 18 = .ok (.invokevirtual 74, 3) := by decide +kernel
theorem dX7_undo_21 : decode cX7_undo 21 = .ok (.aload_n 0, 1) := by decide +kernel
theorem dX7_undo_22 : decode cX7_undo 22 = .ok (.getfield 10, 3) := by decide +kernel
theorem dX7_undo_25 : decode cX7_undo 25 = .ok (.aload_n 0, 1) := by decide +kernel
theorem dX7_undo_26 : decode cX7_undo 26 = .ok (.getfield 19, 3) := by decide +kernel
theorem dX7_undo_29 : decode cX7_undo 29 = .ok (.invokevirtual 236, 3) := by decide +kernel
theorem dX7_undo_32 : decode cX7_undo 32 = .ok (.aload_n 0, 1) := by decide +kernel
theorem dX7_undo_33 : decode cX7_undo 33 = .ok (.getfield 10, 3) := by decide +kernel
theorem dX7_undo_36 : decode cX7_undo 36 = .ok (.getfield 127, 3) := by decide +kernel
theorem dX7_undo_39 : decode cX7_undo 39 = .ok (.ireturn, 1) := by decide +kernel
theorem dX7_tear_0 : decode cX7_tear 0 = .ok (.aload_n 0, 1) := by decide +kernel
theorem dX7_tear_1 : decode cX7_tear 1 = .ok (.getfield 22, 3) := by decide +kernel
theorem dX7_tear_4 : decode cX7_tear 4 = .ok (.ifCond .eq 7, 3) := by decide +kernel
theorem dX7_tear_7 : decode cX7_tear 7 = .ok (.iconst 1, 1) := by decide +kernel
theorem dX7_tear_8 : decode cX7_tear 8 = .ok (.goto 4, 3) := by decide +kernel
theorem dX7_tear_11 : decode cX7_tear 11 = .ok (.iconst 0, 1) := by decide +kernel
theorem dX7_tear_12 : decode cX7_tear 12 = .ok (.istore_n 1, 1) := by decide +kernel
theorem dX7_tear_13 : decode cX7_tear 13 = .ok (.aload_n 0, 1) := by decide +kernel
theorem dX7_tear_14 : decode cX7_tear 14 = .ok (.iconst 0, 1) := by decide +kernel
theorem dX7_tear_15 : decode cX7_tear 15 = .ok (.putfield 22, 3) := by decide +kernel
theorem dX7_tear_18 : decode cX7_tear 18 = .ok (.iload_n 1, 1) := by decide +kernel
theorem dX7_tear_19 : decode cX7_tear 19 = .ok (.ireturn, 1) := by decide +kernel
theorem dX7_count_0 : decode cX7_count 0 = .ok (.iload_n 1, 1) := by decide +kernel
theorem dX7_count_1 : decode cX7_count 1 = .ok (.tableswitch 75 0 4 #[35, 43, 51, 59, 67], 35) := by decide +kernel
theorem dX7_count_36 : decode cX7_count 36 = .ok (.aload_n 0, 1) := by decide +kernel
theorem dX7_count_37 : decode cX7_count 37 = .ok (.getfield 10, 3) := by decide +kernel
theorem dX7_count_40 : decode cX7_count 40 = .ok (.getfield 127, 3) := by decide +kernel
theorem dX7_count_43 : decode cX7_count 43 = .ok (.ireturn, 1) := by decide +kernel
theorem dX7_count_44 : decode cX7_count 44 = .ok (.aload_n 0, 1) := by decide +kernel
theorem dX7_count_45 : decode cX7_count 45 = .ok (.getfield 10, 3) := by decide +kernel
theorem dX7_count_48 : decode cX7_count 48 = .ok (.getfield 177, 3) := by decide +kernel
theorem dX7_count_51 : decode cX7_count 51 = .ok (.ireturn, 1) := by decide +kernel
theorem dX7_count_52 : decode cX7_count 52 = .ok (.aload_n 0, 1) := by decide +kernel
theorem dX7_count_53 : decode cX7_count 53 = .ok (.getfield 10, 3) := by decide +kernel
theorem dX7_count_56 : decode cX7_count 56 = .ok (.getfield 91, 3) := by decide +kernel
theorem dX7_count_59 : decode cX7_count 59 = .ok (.ireturn, 1) := by decide +kernel
theorem dX7_count_60 : decode cX7_count 60 = .ok (.aload_n 0, 1) := by decide +kernel
theorem dX7_count_61 : decode cX7_count 61 = .ok (.getfield 51, 3) := by decide +kernel
theorem dX7_count_64 : decode cX7_count 64 = .ok (.getfield 227, 3) := by decide +kernel
theorem dX7_count_67 : decode cX7_count 67 = .ok (.ireturn, 1) := by decide +kernel
theorem dX7_count_68 : decode cX7_count 68 = .ok (.aload_n 0, 1) := by decide +kernel
theorem dX7_count_69 : decode cX7_count 69 = .ok (.getfield 10, 3) := by decide +kernel
theorem dX7_count_72 : decode cX7_count 72 = .ok (.getfield 95, 3) := by decide +kernel
theorem dX7_count_75 : decode cX7_count 75 = .ok (.ireturn, 1) := by decide +kernel
theorem dX7_count_76 : decode cX7_count 76 = .ok (.aload_n 0, 1) := by decide +kernel
theorem dX7_count_77 : decode cX7_count 77 = .ok (.ldc 69, 2) := by decide +kernel
theorem dX7_count_79 : decode cX7_count 79 = .ok (.invokevirtual 70, 3) := by decide +kernel
theorem dX7_count_82 : decode cX7_count 82 = .ok (.ireturn, 1) := by decide +kernel
theorem dX7_status_0 : decode cX7_status 0 = .ok (.iload_n 1, 1) := by decide +kernel
theorem dX7_status_1 : decode cX7_status 1 = .ok (.iconst (-1), 1) := by decide +kernel
theorem dX7_status_2 : decode cX7_status 2 = .ok (.if_icmp .lt 9, 3) := by decide +kernel
theorem dX7_status_5 : decode cX7_status 5 = .ok (.iload_n 1, 1) := by decide +kernel
theorem dX7_status_6 : decode cX7_status 6 = .ok (.bipush 7, 2) := by decide +kernel
theorem dX7_status_8 : decode cX7_status 8 = .ok (.if_icmp .lt 10, 3) := by decide +kernel
theorem dX7_status_11 : decode cX7_status 11 = .ok (.aload_n 0, 1) := by decide +kernel
theorem dX7_status_12 : decode cX7_status 12 = .ok (.ldc 69, 2) := by decide +kernel
theorem dX7_status_14 : decode cX7_status 14 = .ok (.invokevirtual 70, 3) := by decide +kernel
theorem dX7_status_17 : decode cX7_status 17 = .ok (.ireturn, 1) := by decide +kernel
theorem dX7_status_18 : decode cX7_status 18 = .ok (.iload_n 1, 1) := by decide +kernel
theorem dX7_status_19 : decode cX7_status 19 = .ok (.iconst (-1), 1) := by decide +kernel
theorem dX7_status_20 : decode cX7_status 20 = .ok (.if_icmp .ne 10, 3) := by decide +kernel
theorem dX7_status_23 : decode cX7_status 23 = .ok (.aload_n 0, 1) := by decide +kernel
theorem dX7_status_24 : decode cX7_status 24 = .ok (.invokevirtual 285, 3) := by decide +kernel
theorem dX7_status_27 : decode cX7_status 27 = .ok (.goto 9, 3) := by decide +kernel
theorem dX7_status_30 : decode cX7_status 30 = .ok (.aload_n 0, 1) := by decide +kernel
theorem dX7_status_31 : decode cX7_status 31 = .ok (.getfield 58, 3) := by decide +kernel
theorem dX7_status_34 : decode cX7_status 34 = .ok (.iload_n 1, 1) := by decide +kernel
theorem dX7_status_35 : decode cX7_status 35 = .ok (.iaload, 1) := by decide +kernel
theorem dX7_status_36 : decode cX7_status 36 = .ok (.ireturn, 1) := by decide +kernel
theorem dX7_refuse_0 : decode cX7_refuse 0 = .ok (.ldc 69, 2) := by decide +kernel
theorem dX7_refuse_2 : decode cX7_refuse 2 = .ok (.iload_n 1, 1) := by decide +kernel
theorem dX7_refuse_3 : decode cX7_refuse 3 = .ok (.isub, 1) := by decide +kernel
theorem dX7_refuse_4 : decode cX7_refuse 4 = .ok (.istore_n 2, 1) := by decide +kernel
theorem dX7_refuse_5 : decode cX7_refuse 5 = .ok (.iload_n 2, 1) := by decide +kernel
theorem dX7_refuse_6 : decode cX7_refuse 6 = .ok (.ifCond .lt 19, 3) := by decide +kernel
theorem dX7_refuse_9 : decode cX7_refuse 9 = .ok (.iload_n 2, 1) := by decide +kernel
theorem dX7_refuse_10 : decode cX7_refuse 10 = .ok (.bipush 7, 2) := by decide +kernel
theorem dX7_refuse_12 : decode cX7_refuse 12 = .ok (.if_icmp .ge 13, 3) := by decide +kernel
theorem dX7_refuse_15 : decode cX7_refuse 15 = .ok (.aload_n 0, 1) := by decide +kernel
theorem dX7_refuse_16 : decode cX7_refuse 16 = .ok (.getfield 58, 3) := by decide +kernel
theorem dX7_refuse_19 : decode cX7_refuse 19 = .ok (.iload_n 2, 1) := by decide +kernel
theorem dX7_refuse_20 : decode cX7_refuse 20 = .ok (.dup2, 1) := by decide +kernel
theorem dX7_refuse_21 : decode cX7_refuse 21 = .ok (.iaload, 1) := by decide +kernel
theorem dX7_refuse_22 : decode cX7_refuse 22 = .ok (.iconst 1, 1) := by decide +kernel
theorem dX7_refuse_23 : decode cX7_refuse 23 = .ok (.iadd, 1) := by decide +kernel
theorem dX7_refuse_24 : decode cX7_refuse 24 = .ok (.iastore, 1) := by decide +kernel
theorem dX7_refuse_25 : decode cX7_refuse 25 = .ok (.iload_n 1, 1) := by decide +kernel
theorem dX7_refuse_26 : decode cX7_refuse 26 = .ok (.ireturn, 1) := by decide +kernel
theorem dX7_allFound_0 : decode cX7_allFound 0 = .ok (.iconst 0, 1) := by decide +kernel
theorem dX7_allFound_1 : decode cX7_allFound 1 = .ok (.istore_n 1, 1) := by decide +kernel
theorem dX7_allFound_2 : decode cX7_allFound 2 = .ok (.iconst 0, 1) := by decide +kernel
theorem dX7_allFound_3 : decode cX7_allFound 3 = .ok (.istore_n 2, 1) := by decide +kernel
theorem dX7_allFound_4 : decode cX7_allFound 4 = .ok (.iload_n 2, 1) := by decide +kernel
theorem dX7_allFound_5 : decode cX7_allFound 5 = .ok (.bipush 7, 2) := by decide +kernel
theorem dX7_allFound_7 : decode cX7_allFound 7 = .ok (.if_icmp .ge 18, 3) := by decide +kernel
theorem dX7_allFound_10 : decode cX7_allFound 10 = .ok (.iload_n 1, 1) := by decide +kernel
theorem dX7_allFound_11 : decode cX7_allFound 11 = .ok (.aload_n 0, 1) := by decide +kernel
theorem dX7_allFound_12 : decode cX7_allFound 12 = .ok (.getfield 58, 3) := by decide +kernel
theorem dX7_allFound_15 : decode cX7_allFound 15 = .ok (.iload_n 2, 1) := by decide +kernel
theorem dX7_allFound_16 : decode cX7_allFound 16 = .ok (.iaload, 1) := by decide +kernel
theorem dX7_allFound_17 : decode cX7_allFound 17 = .ok (.iadd, 1) := by decide +kernel
theorem dX7_allFound_18 : decode cX7_allFound 18 = .ok (.istore_n 1, 1) := by decide +kernel
theorem dX7_allFound_19 : decode cX7_allFound 19 = .ok (.iinc 2 1, 3) := by decide +kernel
theorem dX7_allFound_22 : decode cX7_allFound 22 = .ok (.goto (-18), 3) := by decide +kernel
theorem dX7_allFound_25 : decode cX7_allFound 25 = .ok (.iload_n 1, 1) := by decide +kernel
theorem dX7_allFound_26 : decode cX7_allFound 26 = .ok (.ireturn, 1) := by decide +kernel
theorem dX7_isSide_0 : decode cX7_isSide 0 = .ok (.iload_n 0, 1) := by decide +kernel
theorem dX7_isSide_1 : decode cX7_isSide 1 = .ok (.ifCond .lt 12, 3) := by decide +kernel
theorem dX7_isSide_4 : decode cX7_isSide 4 = .ok (.iload_n 0, 1) := by decide +kernel
theorem dX7_isSide_5 : decode cX7_isSide 5 = .ok (.iconst 4, 1) := by decide +kernel
theorem dX7_isSide_6 : decode cX7_isSide 6 = .ok (.if_icmp .ge 7, 3) := by decide +kernel
theorem dX7_isSide_9 : decode cX7_isSide 9 = .ok (.iconst 1, 1) := by decide +kernel
theorem dX7_isSide_10 : decode cX7_isSide 10 = .ok (.goto 4, 3) := by decide +kernel
theorem dX7_isSide_13 : decode cX7_isSide 13 = .ok (.iconst 0, 1) := by decide +kernel
theorem dX7_isSide_14 : decode cX7_isSide 14 = .ok (.ireturn, 1) := by decide +kernel
theorem dX7_isTick_0 : decode cX7_isTick 0 = .ok (.iload_n 0, 1) := by decide +kernel
theorem dX7_isTick_1 : decode cX7_isTick 1 = .ok (.ifCond .lt 14, 3) := by decide +kernel
theorem dX7_isTick_4 : decode cX7_isTick 4 = .ok (.iload_n 0, 1) := by decide +kernel
theorem dX7_isTick_5 : decode cX7_isTick 5 = .ok (.sipush 9999, 3) := by decide +kernel
theorem dX7_isTick_8 : decode cX7_isTick 8 = .ok (.if_icmp .gt 7, 3) := by decide +kernel
theorem dX7_isTick_11 : decode cX7_isTick 11 = .ok (.iconst 1, 1) := by decide +kernel
theorem dX7_isTick_12 : decode cX7_isTick 12 = .ok (.goto 4, 3) := by decide +kernel
theorem dX7_isTick_15 : decode cX7_isTick 15 = .ok (.iconst 0, 1) := by decide +kernel
theorem dX7_isTick_16 : decode cX7_isTick 16 = .ok (.ireturn, 1) := by decide +kernel
theorem dX7_isSpan_0 : decode cX7_isSpan 0 = .ok (.iload_n 0, 1) := by decide +kernel
theorem dX7_isSpan_1 : decode cX7_isSpan 1 = .ok (.invokestatic 104, 3) := by decide +kernel
theorem dX7_isSpan_4 : decode cX7_isSpan 4 = .ok (.ifCond .eq 19, 3) := by decide +kernel
theorem dX7_isSpan_7 : decode cX7_isSpan 7 = .ok (.iload_n 1, 1) := by decide +kernel
theorem dX7_isSpan_8 : decode cX7_isSpan 8 = .ok (.iconst 1, 1) := by decide +kernel
theorem dX7_isSpan_9 : decode cX7_isSpan 9 = .ok (.if_icmp .lt 14, 3) := by decide +kernel
theorem dX7_isSpan_12 : decode cX7_isSpan 12 = .ok (.iload_n 1, 1) := by decide +kernel
theorem dX7_isSpan_13 : decode cX7_isSpan 13 = .ok (.sipush 960, 3) := by decide +kernel
theorem dX7_isSpan_16 : decode cX7_isSpan 16 = .ok (.if_icmp .gt 7, 3) := by decide +kernel
theorem dX7_isSpan_19 : decode cX7_isSpan 19 = .ok (.iconst 1, 1) := by decide +kernel
theorem dX7_isSpan_20 : decode cX7_isSpan 20 = .ok (.goto 4, 3) := by decide +kernel
theorem dX7_isSpan_23 : decode cX7_isSpan 23 = .ok (.iconst 0, 1) := by decide +kernel
theorem dX7_isSpan_24 : decode cX7_isSpan 24 = .ok (.ireturn, 1) := by decide +kernel
theorem dX7_isSheet_0 : decode cX7_isSheet 0 = .ok (.iload_n 0, 1) := by decide +kernel
theorem dX7_isSheet_1 : decode cX7_isSheet 1 = .ok (.ifCond .lt 12, 3) := by decide +kernel
theorem dX7_isSheet_4 : decode cX7_isSheet 4 = .ok (.iload_n 0, 1) := by decide +kernel
theorem dX7_isSheet_5 : decode cX7_isSheet 5 = .ok (.iconst 4, 1) := by decide +kernel
theorem dX7_isSheet_6 : decode cX7_isSheet 6 = .ok (.if_icmp .ge 7, 3) := by decide +kernel
theorem dX7_isSheet_9 : decode cX7_isSheet 9 = .ok (.iconst 1, 1) := by decide +kernel
theorem dX7_isSheet_10 : decode cX7_isSheet 10 = .ok (.goto 4, 3) := by decide +kernel
theorem dX7_isSheet_13 : decode cX7_isSheet 13 = .ok (.iconst 0, 1) := by decide +kernel
theorem dX7_isSheet_14 : decode cX7_isSheet 14 = .ok (.ireturn, 1) := by decide +kernel
theorem dX7_isHouse_0 : decode cX7_isHouse 0 = .ok (.iload_n 1, 1) := by decide +kernel
theorem dX7_isHouse_1 : decode cX7_isHouse 1 = .ok (.ifCond .lt 18, 3) := by decide +kernel
theorem dX7_isHouse_4 : decode cX7_isHouse 4 = .ok (.iload_n 1, 1) := by decide +kernel
theorem dX7_isHouse_5 : decode cX7_isHouse 5 = .ok (.aload_n 0, 1) := by decide +kernel
theorem dX7_isHouse_6 : decode cX7_isHouse 6 = .ok (.getfield 10, 3) := by decide +kernel
theorem dX7_isHouse_9 : decode cX7_isHouse 9 = .ok (.getfield 127, 3) := by decide +kernel
theorem dX7_isHouse_12 : decode cX7_isHouse 12 = .ok (.if_icmp .ge 7, 3) := by decide +kernel
theorem dX7_isHouse_15 : decode cX7_isHouse 15 = .ok (.iconst 1, 1) := by decide +kernel
theorem dX7_isHouse_16 : decode cX7_isHouse 16 = .ok (.goto 4, 3) := by decide +kernel
theorem dX7_isHouse_19 : decode cX7_isHouse 19 = .ok (.iconst 0, 1) := by decide +kernel
theorem dX7_isHouse_20 : decode cX7_isHouse 20 = .ok (.ireturn, 1) := by decide +kernel
theorem dX7_isShip_0 : decode cX7_isShip 0 = .ok (.iload_n 1, 1) := by decide +kernel
theorem dX7_isShip_1 : decode cX7_isShip 1 = .ok (.ifCond .lt 18, 3) := by decide +kernel
theorem dX7_isShip_4 : decode cX7_isShip 4 = .ok (.iload_n 1, 1) := by decide +kernel
theorem dX7_isShip_5 : decode cX7_isShip 5 = .ok (.aload_n 0, 1) := by decide +kernel
theorem dX7_isShip_6 : decode cX7_isShip 6 = .ok (.getfield 10, 3) := by decide +kernel
theorem dX7_isShip_9 : decode cX7_isShip 9 = .ok (.getfield 177, 3) := by decide +kernel
theorem dX7_isShip_12 : decode cX7_isShip 12 = .ok (.if_icmp .ge 7, 3) := by decide +kernel
theorem dX7_isShip_15 : decode cX7_isShip 15 = .ok (.iconst 1, 1) := by decide +kernel
theorem dX7_isShip_16 : decode cX7_isShip 16 = .ok (.goto 4, 3) := by decide +kernel
theorem dX7_isShip_19 : decode cX7_isShip 19 = .ok (.iconst 0, 1) := by decide +kernel
theorem dX7_isShip_20 : decode cX7_isShip 20 = .ok (.ireturn, 1) := by decide +kernel
theorem dX7_hourOf_0 : decode cX7_hourOf 0 = .ok (.iload_n 0, 1) := by decide +kernel
theorem dX7_hourOf_1 : decode cX7_hourOf 1 = .ok (.bipush 96, 2) := by decide +kernel
theorem dX7_hourOf_3 : decode cX7_hourOf 3 = .ok (.irem, 1) := by decide +kernel
theorem dX7_hourOf_4 : decode cX7_hourOf 4 = .ok (.iconst 4, 1) := by decide +kernel
theorem dX7_hourOf_5 : decode cX7_hourOf 5 = .ok (.idiv, 1) := by decide +kernel
theorem dX7_hourOf_6 : decode cX7_hourOf 6 = .ok (.ireturn, 1) := by decide +kernel
theorem dX7_looksInHour_0 : decode cX7_looksInHour 0 = .ok (.iload_n 3, 1) := by decide +kernel
theorem dX7_looksInHour_1 : decode cX7_looksInHour 1 = .ok (.istore 4, 2) := by decide +kernel
theorem dX7_looksInHour_3 : decode cX7_looksInHour 3 = .ok (.iload 4, 2) := by decide +kernel
theorem dX7_looksInHour_5 : decode cX7_looksInHour 5 = .ok (.iload_n 3, 1) := by decide +kernel
theorem dX7_looksInHour_6 : decode cX7_looksInHour 6 = .ok (.iconst 4, 1) := by decide +kernel
theorem dX7_looksInHour_7 : decode cX7_looksInHour 7 = .ok (.iadd, 1) := by decide +kernel
theorem dX7_looksInHour_8 : decode cX7_looksInHour 8 = .ok (.if_icmp .ge 38, 3) := by decide +kernel
theorem dX7_looksInHour_11 : decode cX7_looksInHour 11 = .ok (.aload_n 0, 1) := by decide +kernel
theorem dX7_looksInHour_12 : decode cX7_looksInHour 12 = .ok (.getfield 10, 3) := by decide +kernel
theorem dX7_looksInHour_15 : decode cX7_looksInHour 15 = .ok (.getfield 77, 3) := by decide +kernel
theorem dX7_looksInHour_18 : decode cX7_looksInHour 18 = .ok (.iload 4, 2) := by decide +kernel
theorem dX7_looksInHour_20 : decode cX7_looksInHour 20 = .ok (.invokevirtual 107, 3) := by decide +kernel
theorem dX7_looksInHour_23 : decode cX7_looksInHour 23 = .ok (.aload_n 0, 1) := by decide +kernel
theorem dX7_looksInHour_24 : decode cX7_looksInHour 24 = .ok (.getfield 10, 3) := by decide +kernel
theorem dX7_looksInHour_27 : decode cX7_looksInHour 27 = .ok (.getfield 77, 3) := by decide +kernel
theorem dX7_looksInHour_30 : decode cX7_looksInHour 30 = .ok (.iload_n 1, 1) := by decide +kernel
theorem dX7_looksInHour_31 : decode cX7_looksInHour 31 = .ok (.invokevirtual 117, 3) := by decide +kernel
theorem dX7_looksInHour_34 : decode cX7_looksInHour 34 = .ok (.iload_n 2, 1) := by decide +kernel
theorem dX7_looksInHour_35 : decode cX7_looksInHour 35 = .ok (.if_icmp .ne 5, 3) := by decide +kernel
theorem dX7_looksInHour_38 : decode cX7_looksInHour 38 = .ok (.iconst 1, 1) := by decide +kernel
theorem dX7_looksInHour_39 : decode cX7_looksInHour 39 = .ok (.ireturn, 1) := by decide +kernel
theorem dX7_looksInHour_40 : decode cX7_looksInHour 40 = .ok (.iinc 4 1, 3) := by decide +kernel
theorem dX7_looksInHour_43 : decode cX7_looksInHour 43 = .ok (.goto (-40), 3) := by decide +kernel
theorem dX7_looksInHour_46 : decode cX7_looksInHour 46 = .ok (.iconst 0, 1) := by decide +kernel
theorem dX7_looksInHour_47 : decode cX7_looksInHour 47 = .ok (.ireturn, 1) := by decide +kernel
theorem dX7_moreByExchange_0 : decode cX7_moreByExchange 0 = .ok (.aload_n 0, 1) := by decide +kernel
theorem dX7_moreByExchange_1 : decode cX7_moreByExchange 1 = .ok (.getfield 10, 3) := by decide +kernel
theorem dX7_moreByExchange_4 : decode cX7_moreByExchange 4 = .ok (.getfield 141, 3) := by decide +kernel
theorem dX7_moreByExchange_7 : decode cX7_moreByExchange 7 = .ok (.iload_n 1, 1) := by decide +kernel
theorem dX7_moreByExchange_8 : decode cX7_moreByExchange 8 = .ok (.iaload, 1) := by decide +kernel
theorem dX7_moreByExchange_9 : decode cX7_moreByExchange 9 = .ok (.istore_n 3, 1) := by decide +kernel
theorem dX7_moreByExchange_10 : decode cX7_moreByExchange 10 = .ok (.aload_n 0, 1) := by decide +kernel
theorem dX7_moreByExchange_11 : decode cX7_moreByExchange 11 = .ok (.getfield 10, 3) := by decide +kernel
theorem dX7_moreByExchange_14 : decode cX7_moreByExchange 14 = .ok (.getfield 141, 3) := by decide +kernel
theorem dX7_moreByExchange_17 : decode cX7_moreByExchange 17 = .ok (.iload_n 2, 1) := by decide +kernel
theorem dX7_moreByExchange_18 : decode cX7_moreByExchange 18 = .ok (.iaload, 1) := by decide +kernel
theorem dX7_moreByExchange_19 : decode cX7_moreByExchange 19 = .ok (.istore 4, 2) := by decide +kernel
theorem dX7_moreByExchange_21 : decode cX7_moreByExchange 21 = .ok (.aload_n 0, 1) := by decide +kernel
theorem dX7_moreByExchange_22 : decode cX7_moreByExchange 22 = .ok (.getfield 29, 3) := by decide +kernel
theorem dX7_moreByExchange_25 : decode cX7_moreByExchange 25 = .ok (.getfield 288, 3) := by decide +kernel
theorem dX7_moreByExchange_28 : decode cX7_moreByExchange 28 = .ok (.aload_n 0, 1) := by decide +kernel
theorem dX7_moreByExchange_29 : decode cX7_moreByExchange 29 = .ok (.getfield 10, 3) := by decide +kernel
theorem dX7_moreByExchange_32 : decode cX7_moreByExchange 32 = .ok (.getfield 138, 3) := by decide +kernel
theorem dX7_moreByExchange_35 : decode cX7_moreByExchange 35 = .ok (.iload_n 1, 1) := by decide +kernel
theorem dX7_moreByExchange_36 : decode cX7_moreByExchange 36 = .ok (.iaload, 1) := by decide +kernel
theorem dX7_moreByExchange_37 : decode cX7_moreByExchange 37 = .ok (.iconst 4, 1) := by decide +kernel
theorem dX7_moreByExchange_38 : decode cX7_moreByExchange 38 = .ok (.imul, 1) := by decide +kernel
theorem dX7_moreByExchange_39 : decode cX7_moreByExchange 39 = .ok (.iload 4, 2) := by decide +kernel
theorem dX7_moreByExchange_41 : decode cX7_moreByExchange 41 = .ok (.iadd, 1) := by decide +kernel
theorem dX7_moreByExchange_42 : decode cX7_moreByExchange 42 = .ok (.iaload, 1) := by decide +kernel
theorem dX7_moreByExchange_43 : decode cX7_moreByExchange 43 = .ok (.aload_n 0, 1) := by decide +kernel
theorem dX7_moreByExchange_44 : decode cX7_moreByExchange 44 = .ok (.getfield 29, 3) := by decide +kernel
theorem dX7_moreByExchange_47 : decode cX7_moreByExchange 47 = .ok (.getfield 288, 3) := by decide +kernel
theorem dX7_moreByExchange_50 : decode cX7_moreByExchange 50 = .ok (.aload_n 0, 1) := by decide +kernel
theorem dX7_moreByExchange_51 : decode cX7_moreByExchange 51 = .ok (.getfield 10, 3) := by decide +kernel
theorem dX7_moreByExchange_54 : decode cX7_moreByExchange 54 = .ok (.getfield 138, 3) := by decide +kernel
theorem dX7_moreByExchange_57 : decode cX7_moreByExchange 57 = .ok (.iload_n 1, 1) := by decide +kernel
theorem dX7_moreByExchange_58 : decode cX7_moreByExchange 58 = .ok (.iaload, 1) := by decide +kernel
theorem dX7_moreByExchange_59 : decode cX7_moreByExchange 59 = .ok (.iconst 4, 1) := by decide +kernel
theorem dX7_moreByExchange_60 : decode cX7_moreByExchange 60 = .ok (.imul, 1) := by decide +kernel
theorem dX7_moreByExchange_61 : decode cX7_moreByExchange 61 = .ok (.iload_n 3, 1) := by decide +kernel
theorem dX7_moreByExchange_62 : decode cX7_moreByExchange 62 = .ok (.iadd, 1) := by decide +kernel
theorem dX7_moreByExchange_63 : decode cX7_moreByExchange 63 = .ok (.iaload, 1) := by decide +kernel
theorem dX7_moreByExchange_64 : decode cX7_moreByExchange 64 = .ok (.isub, 1) := by decide +kernel
theorem dX7_moreByExchange_65 : decode cX7_moreByExchange 65 = .ok (.istore 5, 2) := by decide +kernel
theorem dX7_moreByExchange_67 : decode cX7_moreByExchange 67 = .ok (.aload_n 0, 1) := by decide +kernel
theorem dX7_moreByExchange_68 : decode cX7_moreByExchange 68 = .ok (.getfield 29, 3) := by decide +kernel
theorem dX7_moreByExchange_71 : decode cX7_moreByExchange 71 = .ok (.getfield 288, 3) := by decide +kernel
theorem dX7_moreByExchange_74 : decode cX7_moreByExchange 74 = .ok (.aload_n 0, 1) := by decide +kernel
theorem dX7_moreByExchange_75 : decode cX7_moreByExchange 75 = .ok (.getfield 10, 3) := by decide +kernel
theorem dX7_moreByExchange_78 : decode cX7_moreByExchange 78 = .ok (.getfield 138, 3) := by decide +kernel
theorem dX7_moreByExchange_81 : decode cX7_moreByExchange 81 = .ok (.iload_n 2, 1) := by decide +kernel
theorem dX7_moreByExchange_82 : decode cX7_moreByExchange 82 = .ok (.iaload, 1) := by decide +kernel
theorem dX7_moreByExchange_83 : decode cX7_moreByExchange 83 = .ok (.iconst 4, 1) := by decide +kernel
theorem dX7_moreByExchange_84 : decode cX7_moreByExchange 84 = .ok (.imul, 1) := by decide +kernel
theorem dX7_moreByExchange_85 : decode cX7_moreByExchange 85 = .ok (.iload_n 3, 1) := by decide +kernel
theorem dX7_moreByExchange_86 : decode cX7_moreByExchange 86 = .ok (.iadd, 1) := by decide +kernel
theorem dX7_moreByExchange_87 : decode cX7_moreByExchange 87 = .ok (.iaload, 1) := by decide +kernel
theorem dX7_moreByExchange_88 : decode cX7_moreByExchange 88 = .ok (.aload_n 0, 1) := by decide +kernel
theorem dX7_moreByExchange_89 : decode cX7_moreByExchange 89 = .ok (.getfield 29, 3) := by decide +kernel
theorem dX7_moreByExchange_92 : decode cX7_moreByExchange 92 = .ok (.getfield 288, 3) := by decide +kernel
theorem dX7_moreByExchange_95 : decode cX7_moreByExchange 95 = .ok (.aload_n 0, 1) := by decide +kernel
theorem dX7_moreByExchange_96 : decode cX7_moreByExchange 96 = .ok (.getfield 10, 3) := by decide +kernel
theorem dX7_moreByExchange_99 : decode cX7_moreByExchange 99 = .ok (.getfield 138, 3) := by decide +kernel
theorem dX7_moreByExchange_102 : decode cX7_moreByExchange 102 = .ok (.iload_n 2, 1) := by decide +kernel
theorem dX7_moreByExchange_103 : decode cX7_moreByExchange 103 = .ok (.iaload, 1) := by decide +kernel
theorem dX7_moreByExchange_104 : decode cX7_moreByExchange 104 = .ok (.iconst 4, 1) := by decide +kernel
theorem dX7_moreByExchange_105 : decode cX7_moreByExchange 105 = .ok (.imul, 1) := by decide +kernel
theorem dX7_moreByExchange_106 : decode cX7_moreByExchange 106 = .ok (.iload 4, 2) := by decide +kernel
theorem dX7_moreByExchange_108 : decode cX7_moreByExchange 108 = .ok (.iadd, 1) := by decide +kernel
theorem dX7_moreByExchange_109 : decode cX7_moreByExchange 109 = .ok (.iaload, 1) := by decide +kernel
theorem dX7_moreByExchange_110 : decode cX7_moreByExchange 110 = .ok (.isub, 1) := by decide +kernel
theorem dX7_moreByExchange_111 : decode cX7_moreByExchange 111 = .ok (.istore 6, 2) := by decide +kernel
theorem dX7_moreByExchange_113 : decode cX7_moreByExchange 113 = .ok (.iload 5, 2) := by decide +kernel
theorem dX7_moreByExchange_115 : decode cX7_moreByExchange 115 = .ok (.ifCond .lt 8, 3) := by decide +kernel
theorem dX7_moreByExchange_118 : decode cX7_moreByExchange 118 = .ok (.iload 6, 2) := by decide +kernel
theorem dX7_moreByExchange_120 : decode cX7_moreByExchange 120 = .ok (.ifCond .ge 7, 3) := by decide +kernel
theorem dX7_moreByExchange_123 : decode cX7_moreByExchange 123 = .ok (.iconst 0, 1) := by decide +kernel
theorem dX7_moreByExchange_124 : decode cX7_moreByExchange 124 = .ok (.goto 8, 3) := by decide +kernel
theorem dX7_moreByExchange_127 : decode cX7_moreByExchange 127 = .ok (.iload 5, 2) := by decide +kernel
theorem dX7_moreByExchange_129 : decode cX7_moreByExchange 129 = .ok (.iload 6, 2) := by decide +kernel
theorem dX7_moreByExchange_131 : decode cX7_moreByExchange 131 = .ok (.iadd, 1) := by decide +kernel
theorem dX7_moreByExchange_132 : decode cX7_moreByExchange 132 = .ok (.ireturn, 1) := by decide +kernel
theorem dX7_calendarRefusal_0 : decode cX7_calendarRefusal 0 = .ok (.iload_n 1, 1) := by decide +kernel
theorem dX7_calendarRefusal_1 : decode cX7_calendarRefusal 1 = .ok (.invokestatic 243, 3) := by decide +kernel
theorem dX7_calendarRefusal_4 : decode cX7_calendarRefusal 4 = .ok (.ifCond .ne 6, 3) := by decide +kernel
theorem dX7_calendarRefusal_7 : decode cX7_calendarRefusal 7 = .ok (.ldc 69, 2) := by decide +kernel
theorem dX7_calendarRefusal_9 : decode cX7_calendarRefusal 9 = .ok (.ireturn, 1) := by decide +kernel
theorem dX7_calendarRefusal_10 : decode cX7_calendarRefusal 10 = .ok (.aload_n 0, 1) := by decide +kernel
theorem dX7_calendarRefusal_11 : decode cX7_calendarRefusal 11 = .ok (.getfield 54, 3) := by decide +kernel
theorem dX7_calendarRefusal_14 : decode cX7_calendarRefusal 14 = .ok (.iload_n 1, 1) := by decide +kernel
theorem dX7_calendarRefusal_15 : decode cX7_calendarRefusal 15 = .ok (.aaload, 1) := by decide +kernel
theorem dX7_calendarRefusal_16 : decode cX7_calendarRefusal 16 = .ok (.invokevirtual 252, 3) := by decide +kernel
theorem dX7_calendarRefusal_19 : decode cX7_calendarRefusal 19 = .ok (.ifCond .eq 7, 3) := by decide +kernel
theorem dX7_calendarRefusal_22 : decode cX7_calendarRefusal 22 = .ok (.ldc_w 256, 3) := by decide +kernel
theorem dX7_calendarRefusal_25 : decode cX7_calendarRefusal 25 = .ok (.ireturn, 1) := by decide +kernel
theorem dX7_calendarRefusal_26 : decode cX7_calendarRefusal 26 = .ok (.iload_n 2, 1) := by decide +kernel
theorem dX7_calendarRefusal_27 : decode cX7_calendarRefusal 27 = .ok (.invokestatic 87, 3) := by decide +kernel
theorem dX7_calendarRefusal_30 : decode cX7_calendarRefusal 30 = .ok (.ifCond .eq 27, 3) := by decide +kernel
theorem dX7_calendarRefusal_33 : decode cX7_calendarRefusal 33 = .ok (.iload_n 3, 1) := by decide +kernel
theorem dX7_calendarRefusal_34 : decode cX7_calendarRefusal 34 = .ok (.invokestatic 104, 3) := by decide +kernel
theorem dX7_calendarRefusal_37 : decode cX7_calendarRefusal 37 = .ok (.ifCond .eq 20, 3) := by decide +kernel
theorem dX7_calendarRefusal_40 : decode cX7_calendarRefusal 40 = .ok (.iload 4, 2) := by decide +kernel
theorem dX7_calendarRefusal_42 : decode cX7_calendarRefusal 42 = .ok (.iconst 1, 1) := by decide +kernel
theorem dX7_calendarRefusal_43 : decode cX7_calendarRefusal 43 = .ok (.if_icmp .lt 14, 3) := by decide +kernel
theorem dX7_calendarRefusal_46 : decode cX7_calendarRefusal 46 = .ok (.iload 4, 2) := by decide +kernel
theorem dX7_calendarRefusal_48 : decode cX7_calendarRefusal 48 = .ok (.bipush 96, 2) := by decide +kernel
theorem dX7_calendarRefusal_50 : decode cX7_calendarRefusal 50 = .ok (.if_icmp .gt 7, 3) := by decide +kernel
theorem dX7_calendarRefusal_53 : decode cX7_calendarRefusal 53 = .ok (.iconst 0, 1) := by decide +kernel
theorem dX7_calendarRefusal_54 : decode cX7_calendarRefusal 54 = .ok (.goto 5, 3) := by decide +kernel
theorem dX7_calendarRefusal_57 : decode cX7_calendarRefusal 57 = .ok (.ldc 69, 2) := by decide +kernel
theorem dX7_calendarRefusal_59 : decode cX7_calendarRefusal 59 = .ok (.ireturn, 1) := by decide +kernel
theorem dX8_init_0 : decode cX8_init 0 = .ok (.aload_n 0, 1) := by decide +kernel
theorem dX8_init_1 : decode cX8_init 1 = .ok (.invokespecial 1, 3) := by decide +kernel
theorem dX8_init_4 : decode cX8_init 4 = .ok (.aload_n 0, 1) := by decide +kernel
theorem dX8_init_5 : decode cX8_init 5 = .ok (.bipush 51, 2) := by decide +kernel
theorem dX8_init_7 : decode cX8_init 7 = .ok (.newarray .int, 2) := by decide +kernel
theorem dX8_init_9 : decode cX8_init 9 = .ok (.putfield 9, 3) := by decide +kernel
theorem dX8_init_12 : decode cX8_init 12 = .ok (.aload_n 0, 1) := by decide +kernel
theorem dX8_init_13 : decode cX8_init 13 = .ok (.bipush 51, 2) := by decide +kernel
theorem dX8_init_15 : decode cX8_init 15 = .ok (.newarray .int, 2) := by decide +kernel
theorem dX8_init_17 : decode cX8_init 17 = .ok (.putfield 13, 3) := by decide +kernel
theorem dX8_init_20 : decode cX8_init 20 = .ok (.aload_n 0, 1) := by decide +kernel
theorem dX8_init_21 : decode cX8_init 21 = .ok (.bipush 8, 2) := by decide +kernel
theorem dX8_init_23 : decode cX8_init 23 = .ok (.newarray .int, 2) := by decide +kernel
theorem dX8_init_25 : decode cX8_init 25 = .ok (.putfield 16, 3) := by decide +kernel
theorem dX8_init_28 : decode cX8_init 28 = .ok (.aload_n 0, 1) := by decide +kernel
theorem dX8_init_29 : decode cX8_init 29 = .ok (.iconst 4, 1) := by decide +kernel
theorem dX8_init_30 : decode cX8_init 30 = .ok (.newarray .int, 2) := by decide +kernel
theorem dX8_init_32 : decode cX8_init 32 = .ok (.dup, 1) := by decide +kernel
theorem dX8_init_33 : decode cX8_init 33 = .ok (.iconst 0, 1) := by decide +kernel
