theorem dX8_quayAt_0 : decode cX8_quayAt 0 = .ok (.aload_n 0, 1) := by decide +kernel
theorem dX8_quayAt_1 : decode cX8_quayAt 1 = .ok (.aload_n 0, 1) := by decide +kernel
theorem dX8_quayAt_2 : decode cX8_quayAt 2 = .ok (.iload_n 1, 1) := by decide +kernel
theorem dX8_quayAt_3 : decode cX8_quayAt 3 = .ok (.iconst 0, 1) := by decide +kernel
theorem dX8_quayAt_4 : decode cX8_quayAt 4 = .ok (.invokevirtual 192, 3) := by decide +kernel
theorem dX8_quayAt_7 : decode cX8_quayAt 7 = .ok (.iload_n 2, 1) := by decide +kernel
theorem dX8_quayAt_8 : decode cX8_quayAt 8 = .ok (.invokevirtual 150, 3) := by decide +kernel
theorem dX8_quayAt_11 : decode cX8_quayAt 11 = .ok (.istore_n 3, 1) := by decide +kernel
theorem dX8_quayAt_12 : decode cX8_quayAt 12 = .ok (.aload_n 0, 1) := by decide +kernel
theorem dX8_quayAt_13 : decode cX8_quayAt 13 = .ok (.iload_n 1, 1) := by decide +kernel
theorem dX8_quayAt_14 : decode cX8_quayAt 14 = .ok (.iconst 3, 1) := by decide +kernel
theorem dX8_quayAt_15 : decode cX8_quayAt 15 = .ok (.invokevirtual 192, 3) := by decide +kernel
theorem dX8_quayAt_18 : decode cX8_quayAt 18 = .ok (.ifCond .lt 13, 3) := by decide +kernel
theorem dX8_quayAt_21 : decode cX8_quayAt 21 = .ok (.aload_n 0, 1) := by decide +kernel
theorem dX8_quayAt_22 : decode cX8_quayAt 22 = .ok (.iload_n 1, 1) := by decide +kernel
theorem dX8_quayAt_23 : decode cX8_quayAt 23 = .ok (.iconst 3, 1) := by decide +kernel
theorem dX8_quayAt_24 : decode cX8_quayAt 24 = .ok (.invokevirtual 192, 3) := by decide +kernel
theorem dX8_quayAt_27 : decode cX8_quayAt 27 = .ok (.iload_n 3, 1) := by decide +kernel
theorem dX8_quayAt_28 : decode cX8_quayAt 28 = .ok (.if_icmp .ne 7, 3) := by decide +kernel
theorem dX8_quayAt_31 : decode cX8_quayAt 31 = .ok (.iconst 1, 1) := by decide +kernel
theorem dX8_quayAt_32 : decode cX8_quayAt 32 = .ok (.goto 4, 3) := by decide +kernel
theorem dX8_quayAt_35 : decode cX8_quayAt 35 = .ok (.iconst 0, 1) := by decide +kernel
theorem dX8_quayAt_36 : decode cX8_quayAt 36 = .ok (.istore 4, 2) := by decide +kernel
theorem dX8_quayAt_38 : decode cX8_quayAt 38 = .ok (.iload 4, 2) := by decide +kernel
theorem dX8_quayAt_40 : decode cX8_quayAt 40 = .ok (.ifCond .eq 17, 3) := by decide +kernel
theorem dX8_quayAt_43 : decode cX8_quayAt 43 = .ok (.aload_n 0, 1) := by decide +kernel
theorem dX8_quayAt_44 : decode cX8_quayAt 44 = .ok (.iload_n 1, 1) := by decide +kernel
theorem dX8_quayAt_45 : decode cX8_quayAt 45 = .ok (.iload_n 3, 1) := by decide +kernel
theorem dX8_quayAt_46 : decode cX8_quayAt 46 = .ok (.iload_n 2, 1) := by decide +kernel
theorem dX8_quayAt_47 : decode cX8_quayAt 47 = .ok (.invokevirtual 195, 3) := by decide +kernel
theorem dX8_quayAt_50 : decode cX8_quayAt 50 = .ok (.ifCond .eq 7, 3) := by decide +kernel
theorem dX8_quayAt_53 : decode cX8_quayAt 53 = .ok (.iload_n 3, 1) := by decide +kernel
theorem dX8_quayAt_54 : decode cX8_quayAt 54 = .ok (.goto 4, 3) := by decide +kernel
theorem dX8_quayAt_57 : decode cX8_quayAt 57 = .ok (.iconst (-1), 1) := by decide +kernel
theorem dX8_quayAt_58 : decode cX8_quayAt 58 = .ok (.ireturn, 1) := by decide +kernel
theorem dX8_entry_0 : decode cX8_entry 0 = .ok (.aload_n 0, 1) := by decide +kernel
theorem dX8_entry_1 : decode cX8_entry 1 = .ok (.iload_n 1, 1) := by decide +kernel
theorem dX8_entry_2 : decode cX8_entry 2 = .ok (.invokevirtual 189, 3) := by decide +kernel
theorem dX8_entry_5 : decode cX8_entry 5 = .ok (.ifCond .eq 12, 3) := by decide +kernel
theorem dX8_entry_8 : decode cX8_entry 8 = .ok (.iload_n 2, 1) := by decide +kernel
theorem dX8_entry_9 : decode cX8_entry 9 = .ok (.iconst 0, 1) := by decide +kernel
theorem dX8_entry_10 : decode cX8_entry 10 = .ok (.iconst 1, 1) := by decide +kernel
theorem dX8_entry_11 : decode cX8_entry 11 = .ok (.invokestatic 121, 3) := by decide +kernel
theorem dX8_entry_14 : decode cX8_entry 14 = .ok (.ifCond .ne 10, 3) := by decide +kernel
theorem dX8_entry_17 : decode cX8_entry 17 = .ok (.aload_n 0, 1) := by decide +kernel
theorem dX8_entry_18 : decode cX8_entry 18 = .ok (.ldc 98, 2) := by decide +kernel
theorem dX8_entry_20 : decode cX8_entry 20 = .ok (.invokevirtual 125, 3) := by decide +kernel
theorem dX8_entry_23 : decode cX8_entry 23 = .ok (.ireturn, 1) := by decide +kernel
theorem dX8_entry_24 : decode cX8_entry 24 = .ok (.aload_n 0, 1) := by decide +kernel
theorem dX8_entry_25 : decode cX8_entry 25 = .ok (.iload_n 1, 1) := by decide +kernel
theorem dX8_entry_26 : decode cX8_entry 26 = .ok (.iconst 1, 1) := by decide +kernel
theorem dX8_entry_27 : decode cX8_entry 27 = .ok (.invokevirtual 192, 3) := by decide +kernel
theorem dX8_entry_30 : decode cX8_entry 30 = .ok (.istore_n 3, 1) := by decide +kernel
theorem dX8_entry_31 : decode cX8_entry 31 = .ok (.iload_n 3, 1) := by decide +kernel
theorem dX8_entry_32 : decode cX8_entry 32 = .ok (.istore 4, 2) := by decide +kernel
theorem dX8_entry_34 : decode cX8_entry 34 = .ok (.iload 4, 2) := by decide +kernel
theorem dX8_entry_36 : decode cX8_entry 36 = .ok (.iload_n 3, 1) := by decide +kernel
theorem dX8_entry_37 : decode cX8_entry 37 = .ok (.sipush 960, 3) := by decide +kernel
theorem dX8_entry_40 : decode cX8_entry 40 = .ok (.iadd, 1) := by decide +kernel
theorem dX8_entry_41 : decode cX8_entry 41 = .ok (.if_icmp .ge 35, 3) := by decide +kernel
theorem dX8_entry_44 : decode cX8_entry 44 = .ok (.aload_n 0, 1) := by decide +kernel
theorem dX8_entry_45 : decode cX8_entry 45 = .ok (.iload_n 1, 1) := by decide +kernel
theorem dX8_entry_46 : decode cX8_entry 46 = .ok (.iload 4, 2) := by decide +kernel
theorem dX8_entry_48 : decode cX8_entry 48 = .ok (.invokevirtual 198, 3) := by decide +kernel
theorem dX8_entry_51 : decode cX8_entry 51 = .ok (.istore 5, 2) := by decide +kernel
theorem dX8_entry_53 : decode cX8_entry 53 = .ok (.iload 5, 2) := by decide +kernel
theorem dX8_entry_55 : decode cX8_entry 55 = .ok (.ifCond .lt 15, 3) := by decide +kernel
theorem dX8_entry_58 : decode cX8_entry 58 = .ok (.iload_n 2, 1) := by decide +kernel
theorem dX8_entry_59 : decode cX8_entry 59 = .ok (.ifCond .ne 8, 3) := by decide +kernel
theorem dX8_entry_62 : decode cX8_entry 62 = .ok (.iload 4, 2) := by decide +kernel
theorem dX8_entry_64 : decode cX8_entry 64 = .ok (.goto 5, 3) := by decide +kernel
theorem dX8_entry_67 : decode cX8_entry 67 = .ok (.iload 5, 2) := by decide +kernel
theorem dX8_entry_69 : decode cX8_entry 69 = .ok (.ireturn, 1) := by decide +kernel
theorem dX8_entry_70 : decode cX8_entry 70 = .ok (.iinc 4 1, 3) := by decide +kernel
theorem dX8_entry_73 : decode cX8_entry 73 = .ok (.goto (-39), 3) := by decide +kernel
theorem dX8_entry_76 : decode cX8_entry 76 = .ok (.aload_n 0, 1) := by decide +kernel
theorem dX8_entry_77 : decode cX8_entry 77 = .ok (.ldc 149, 2) := by decide +kernel
theorem dX8_entry_79 : decode cX8_entry 79 = .ok (.invokevirtual 125, 3) := by decide +kernel
theorem dX8_entry_82 : decode cX8_entry 82 = .ok (.ireturn, 1) := by decide +kernel
theorem dX8_isTaken_0 : decode cX8_isTaken 0 = .ok (.iconst 0, 1) := by decide +kernel
theorem dX8_isTaken_1 : decode cX8_isTaken 1 = .ok (.istore 5, 2) := by decide +kernel
theorem dX8_isTaken_3 : decode cX8_isTaken 3 = .ok (.iconst 0, 1) := by decide +kernel
theorem dX8_isTaken_4 : decode cX8_isTaken 4 = .ok (.istore 6, 2) := by decide +kernel
theorem dX8_isTaken_6 : decode cX8_isTaken 6 = .ok (.iload 6, 2) := by decide +kernel
theorem dX8_isTaken_8 : decode cX8_isTaken 8 = .ok (.iload_n 1, 1) := by decide +kernel
theorem dX8_isTaken_9 : decode cX8_isTaken 9 = .ok (.if_icmp .ge 80, 3) := by decide +kernel
theorem dX8_isTaken_12 : decode cX8_isTaken 12 = .ok (.aload_n 0, 1) := by decide +kernel
theorem dX8_isTaken_13 : decode cX8_isTaken 13 = .ok (.getfield 34, 3) := by decide +kernel
theorem dX8_isTaken_16 : decode cX8_isTaken 16 = .ok (.iload 6, 2) := by decide +kernel
theorem dX8_isTaken_18 : decode cX8_isTaken 18 = .ok (.iaload, 1) := by decide +kernel
theorem dX8_isTaken_19 : decode cX8_isTaken 19 = .ok (.istore 7, 2) := by decide +kernel
theorem dX8_isTaken_21 : decode cX8_isTaken 21 = .ok (.iload 5, 2) := by decide +kernel
theorem dX8_isTaken_23 : decode cX8_isTaken 23 = .ok (.ifCond .ne 53, 3) := by decide +kernel
theorem dX8_isTaken_26 : decode cX8_isTaken 26 = .ok (.aload_n 0, 1) := by decide +kernel
theorem dX8_isTaken_27 : decode cX8_isTaken 27 = .ok (.getfield 43, 3) := by decide +kernel
theorem dX8_isTaken_30 : decode cX8_isTaken 30 = .ok (.iload 7, 2) := by decide +kernel
theorem dX8_isTaken_32 : decode cX8_isTaken 32 = .ok (.iaload, 1) := by decide +kernel
theorem dX8_isTaken_33 : decode cX8_isTaken 33 = .ok (.iload_n 3, 1) := by decide +kernel
theorem dX8_isTaken_34 : decode cX8_isTaken 34 = .ok (.if_icmp .ne 46, 3) := by decide +kernel
theorem dX8_isTaken_37 : decode cX8_isTaken 37 = .ok (.aload_n 0, 1) := by decide +kernel
theorem dX8_isTaken_38 : decode cX8_isTaken 38 = .ok (.getfield 40, 3) := by decide +kernel
theorem dX8_isTaken_41 : decode cX8_isTaken 41 = .ok (.iload 7, 2) := by decide +kernel
theorem dX8_isTaken_43 : decode cX8_isTaken 43 = .ok (.iaload, 1) := by decide +kernel
theorem dX8_isTaken_44 : decode cX8_isTaken 44 = .ok (.iload 4, 2) := by decide +kernel
theorem dX8_isTaken_46 : decode cX8_isTaken 46 = .ok (.aload_n 0, 1) := by decide +kernel
theorem dX8_isTaken_47 : decode cX8_isTaken 47 = .ok (.iload_n 2, 1) := by decide +kernel
theorem dX8_isTaken_48 : decode cX8_isTaken 48 = .ok (.iconst 2, 1) := by decide +kernel
theorem dX8_isTaken_49 : decode cX8_isTaken 49 = .ok (.invokevirtual 192, 3) := by decide +kernel
theorem dX8_isTaken_52 : decode cX8_isTaken 52 = .ok (.iadd, 1) := by decide +kernel
theorem dX8_isTaken_53 : decode cX8_isTaken 53 = .ok (.if_icmp .ge 27, 3) := by decide +kernel
theorem dX8_isTaken_56 : decode cX8_isTaken 56 = .ok (.iload 4, 2) := by decide +kernel
theorem dX8_isTaken_58 : decode cX8_isTaken 58 = .ok (.aload_n 0, 1) := by decide +kernel
theorem dX8_isTaken_59 : decode cX8_isTaken 59 = .ok (.getfield 40, 3) := by decide +kernel
theorem dX8_isTaken_62 : decode cX8_isTaken 62 = .ok (.iload 7, 2) := by decide +kernel
theorem dX8_isTaken_64 : decode cX8_isTaken 64 = .ok (.iaload, 1) := by decide +kernel
theorem dX8_isTaken_65 : decode cX8_isTaken 65 = .ok (.aload_n 0, 1) := by decide +kernel
theorem dX8_isTaken_66 : decode cX8_isTaken 66 = .ok (.iload 7, 2) := by decide +kernel
theorem dX8_isTaken_68 : decode cX8_isTaken 68 = .ok (.iconst 2, 1) := by decide +kernel
theorem dX8_isTaken_69 : decode cX8_isTaken 69 = .ok (.invokevirtual 192, 3) := by decide +kernel
theorem dX8_isTaken_72 : decode cX8_isTaken 72 = .ok (.iadd, 1) := by decide +kernel
theorem dX8_isTaken_73 : decode cX8_isTaken 73 = .ok (.if_icmp .ge 7, 3) := by decide +kernel
theorem dX8_isTaken_76 : decode cX8_isTaken 76 = .ok (.iconst 1, 1) := by decide +kernel
theorem dX8_isTaken_77 : decode cX8_isTaken 77 = .ok (.goto 4, 3) := by decide +kernel
theorem dX8_isTaken_80 : decode cX8_isTaken 80 = .ok (.iconst 0, 1) := by decide +kernel
theorem dX8_isTaken_81 : decode cX8_isTaken 81 = .ok (.istore 5, 2) := by decide +kernel
theorem dX8_isTaken_83 : decode cX8_isTaken 83 = .ok (.iinc 6 1, 3) := by decide +kernel
theorem dX8_isTaken_86 : decode cX8_isTaken 86 = .ok (.goto (-80), 3) := by decide +kernel
theorem dX8_isTaken_89 : decode cX8_isTaken 89 = .ok (.iload 5, 2) := by decide +kernel
theorem dX8_isTaken_91 : decode cX8_isTaken 91 = .ok (.ireturn, 1) := by decide +kernel
theorem dX8_goesIn_0 : decode cX8_goesIn 0 = .ok (.aload_n 0, 1) := by decide +kernel
theorem dX8_goesIn_1 : decode cX8_goesIn 1 = .ok (.iload_n 2, 1) := by decide +kernel
theorem dX8_goesIn_2 : decode cX8_goesIn 2 = .ok (.iconst 1, 1) := by decide +kernel
theorem dX8_goesIn_3 : decode cX8_goesIn 3 = .ok (.invokevirtual 192, 3) := by decide +kernel
theorem dX8_goesIn_6 : decode cX8_goesIn 6 = .ok (.istore_n 3, 1) := by decide +kernel
theorem dX8_goesIn_7 : decode cX8_goesIn 7 = .ok (.iconst 0, 1) := by decide +kernel
theorem dX8_goesIn_8 : decode cX8_goesIn 8 = .ok (.istore 4, 2) := by decide +kernel
theorem dX8_goesIn_10 : decode cX8_goesIn 10 = .ok (.iload 4, 2) := by decide +kernel
theorem dX8_goesIn_12 : decode cX8_goesIn 12 = .ok (.sipush 960, 3) := by decide +kernel
theorem dX8_goesIn_15 : decode cX8_goesIn 15 = .ok (.if_icmp .ge 61, 3) := by decide +kernel
theorem dX8_goesIn_18 : decode cX8_goesIn 18 = .ok (.aload_n 0, 1) := by decide +kernel
theorem dX8_goesIn_19 : decode cX8_goesIn 19 = .ok (.iload_n 2, 1) := by decide +kernel
theorem dX8_goesIn_20 : decode cX8_goesIn 20 = .ok (.iload_n 3, 1) := by decide +kernel
theorem dX8_goesIn_21 : decode cX8_goesIn 21 = .ok (.iload 4, 2) := by decide +kernel
theorem dX8_goesIn_23 : decode cX8_goesIn 23 = .ok (.iadd, 1) := by decide +kernel
theorem dX8_goesIn_24 : decode cX8_goesIn 24 = .ok (.invokevirtual 198, 3) := by decide +kernel
theorem dX8_goesIn_27 : decode cX8_goesIn 27 = .ok (.istore 5, 2) := by decide +kernel
theorem dX8_goesIn_29 : decode cX8_goesIn 29 = .ok (.iload 5, 2) := by decide +kernel
theorem dX8_goesIn_31 : decode cX8_goesIn 31 = .ok (.ifCond .lt 39, 3) := by decide +kernel
theorem dX8_goesIn_34 : decode cX8_goesIn 34 = .ok (.aload_n 0, 1) := by decide +kernel
theorem dX8_goesIn_35 : decode cX8_goesIn 35 = .ok (.iload_n 1, 1) := by decide +kernel
theorem dX8_goesIn_36 : decode cX8_goesIn 36 = .ok (.iload_n 2, 1) := by decide +kernel
theorem dX8_goesIn_37 : decode cX8_goesIn 37 = .ok (.iload 5, 2) := by decide +kernel
theorem dX8_goesIn_39 : decode cX8_goesIn 39 = .ok (.iload_n 3, 1) := by decide +kernel
theorem dX8_goesIn_40 : decode cX8_goesIn 40 = .ok (.iload 4, 2) := by decide +kernel
theorem dX8_goesIn_42 : decode cX8_goesIn 42 = .ok (.iadd, 1) := by decide +kernel
theorem dX8_goesIn_43 : decode cX8_goesIn 43 = .ok (.invokevirtual 201, 3) := by decide +kernel
theorem dX8_goesIn_46 : decode cX8_goesIn 46 = .ok (.ifCond .ne 24, 3) := by decide +kernel
theorem dX8_goesIn_49 : decode cX8_goesIn 49 = .ok (.aload_n 0, 1) := by decide +kernel
theorem dX8_goesIn_50 : decode cX8_goesIn 50 = .ok (.getfield 43, 3) := by decide +kernel
theorem dX8_goesIn_53 : decode cX8_goesIn 53 = .ok (.iload_n 2, 1) := by decide +kernel
theorem dX8_goesIn_54 : decode cX8_goesIn 54 = .ok (.iload 5, 2) := by decide +kernel
theorem dX8_goesIn_56 : decode cX8_goesIn 56 = .ok (.iastore, 1) := by decide +kernel
theorem dX8_goesIn_57 : decode cX8_goesIn 57 = .ok (.aload_n 0, 1) := by decide +kernel
theorem dX8_goesIn_58 : decode cX8_goesIn 58 = .ok (.getfield 40, 3) := by decide +kernel
theorem dX8_goesIn_61 : decode cX8_goesIn 61 = .ok (.iload_n 2, 1) := by decide +kernel
theorem dX8_goesIn_62 : decode cX8_goesIn 62 = .ok (.iload_n 3, 1) := by decide +kernel
theorem dX8_goesIn_63 : decode cX8_goesIn 63 = .ok (.iload 4, 2) := by decide +kernel
theorem dX8_goesIn_65 : decode cX8_goesIn 65 = .ok (.iadd, 1) := by decide +kernel
theorem dX8_goesIn_66 : decode cX8_goesIn 66 = .ok (.iastore, 1) := by decide +kernel
theorem dX8_goesIn_67 : decode cX8_goesIn 67 = .ok (.iload 4, 2) := by decide +kernel
theorem dX8_goesIn_69 : decode cX8_goesIn 69 = .ok (.ireturn, 1) := by decide +kernel
theorem dX8_goesIn_70 : decode cX8_goesIn 70 = .ok (.iinc 4 1, 3) := by decide +kernel
theorem dX8_goesIn_73 : decode cX8_goesIn 73 = .ok (.goto (-63), 3) := by decide +kernel
theorem dX8_goesIn_76 : decode cX8_goesIn 76 = .ok (.aload_n 0, 1) := by decide +kernel
theorem dX8_goesIn_77 : decode cX8_goesIn 77 = .ok (.getfield 43, 3) := by decide +kernel
theorem dX8_goesIn_80 : decode cX8_goesIn 80 = .ok (.iload_n 2, 1) := by decide +kernel
theorem dX8_goesIn_81 : decode cX8_goesIn 81 = .ok (.iconst (-1), 1) := by decide +kernel
theorem dX8_goesIn_82 : decode cX8_goesIn 82 = .ok (.iastore, 1) := by decide +kernel
theorem dX8_goesIn_83 : decode cX8_goesIn 83 = .ok (.aload_n 0, 1) := by decide +kernel
theorem dX8_goesIn_84 : decode cX8_goesIn 84 = .ok (.getfield 40, 3) := by decide +kernel
theorem dX8_goesIn_87 : decode cX8_goesIn 87 = .ok (.iload_n 2, 1) := by decide +kernel
theorem dX8_goesIn_88 : decode cX8_goesIn 88 = .ok (.iload_n 3, 1) := by decide +kernel
theorem dX8_goesIn_89 : decode cX8_goesIn 89 = .ok (.iastore, 1) := by decide +kernel
theorem dX8_goesIn_90 : decode cX8_goesIn 90 = .ok (.sipush 960, 3) := by decide +kernel
theorem dX8_goesIn_93 : decode cX8_goesIn 93 = .ok (.ireturn, 1) := by decide +kernel
theorem dX8_tries_0 : decode cX8_tries 0 = .ok (.aload_n 0, 1) := by decide +kernel
theorem dX8_tries_1 : decode cX8_tries 1 = .ok (.getfield 205, 3) := by decide +kernel
theorem dX8_tries_4 : decode cX8_tries 4 = .ok (.ifCond .lt 12, 3) := by decide +kernel
theorem dX8_tries_7 : decode cX8_tries 7 = .ok (.iload_n 3, 1) := by decide +kernel
theorem dX8_tries_8 : decode cX8_tries 8 = .ok (.aload_n 0, 1) := by decide +kernel
theorem dX8_tries_9 : decode cX8_tries 9 = .ok (.getfield 205, 3) := by decide +kernel
theorem dX8_tries_12 : decode cX8_tries 12 = .ok (.if_icmp .lt 4, 3) := by decide +kernel
theorem dX8_tries_15 : decode cX8_tries 15 = .ok (.return_, 1) := by decide +kernel
theorem dX8_tries_16 : decode cX8_tries 16 = .ok (.iload_n 1, 1) := by decide +kernel
theorem dX8_tries_17 : decode cX8_tries 17 = .ok (.aload_n 0, 1) := by decide +kernel
theorem dX8_tries_18 : decode cX8_tries 18 = .ok (.getfield 9, 3) := by decide +kernel
theorem dX8_tries_21 : decode cX8_tries 21 = .ok (.bipush 10, 2) := by decide +kernel
theorem dX8_tries_23 : decode cX8_tries 23 = .ok (.iaload, 1) := by decide +kernel
theorem dX8_tries_24 : decode cX8_tries 24 = .ok (.if_icmp .ne 94, 3) := by decide +kernel
theorem dX8_tries_27 : decode cX8_tries 27 = .ok (.aload_n 0, 1) := by decide +kernel
theorem dX8_tries_28 : decode cX8_tries 28 = .ok (.iload_n 3, 1) := by decide +kernel
theorem dX8_tries_29 : decode cX8_tries 29 = .ok (.putfield 205, 3) := by decide +kernel
theorem dX8_tries_32 : decode cX8_tries 32 = .ok (.iconst 0, 1) := by decide +kernel
theorem dX8_tries_33 : decode cX8_tries 33 = .ok (.istore 4, 2) := by decide +kernel
theorem dX8_tries_35 : decode cX8_tries 35 = .ok (.iload 4, 2) := by decide +kernel
theorem dX8_tries_37 : decode cX8_tries 37 = .ok (.iload_n 1, 1) := by decide +kernel
theorem dX8_tries_38 : decode cX8_tries 38 = .ok (.if_icmp .ge 79, 3) := by decide +kernel
theorem dX8_tries_41 : decode cX8_tries 41 = .ok (.aload_n 0, 1) := by decide +kernel
theorem dX8_tries_42 : decode cX8_tries 42 = .ok (.getfield 34, 3) := by decide +kernel
theorem dX8_tries_45 : decode cX8_tries 45 = .ok (.iload 4, 2) := by decide +kernel
theorem dX8_tries_47 : decode cX8_tries 47 = .ok (.iaload, 1) := by decide +kernel
theorem dX8_tries_48 : decode cX8_tries 48 = .ok (.istore 5, 2) := by decide +kernel
theorem dX8_tries_50 : decode cX8_tries 50 = .ok (.aload_n 0, 1) := by decide +kernel
theorem dX8_tries_51 : decode cX8_tries 51 = .ok (.getfield 37, 3) := by decide +kernel
theorem dX8_tries_54 : decode cX8_tries 54 = .ok (.iload 4, 2) := by decide +kernel
theorem dX8_tries_56 : decode cX8_tries 56 = .ok (.iload 5, 2) := by decide +kernel
theorem dX8_tries_58 : decode cX8_tries 58 = .ok (.iastore, 1) := by decide +kernel
theorem dX8_tries_59 : decode cX8_tries 59 = .ok (.aload_n 0, 1) := by decide +kernel
theorem dX8_tries_60 : decode cX8_tries 60 = .ok (.getfield 49, 3) := by decide +kernel
theorem dX8_tries_63 : decode cX8_tries 63 = .ok (.iload 5, 2) := by decide +kernel
theorem dX8_tries_65 : decode cX8_tries 65 = .ok (.aload_n 0, 1) := by decide +kernel
theorem dX8_tries_66 : decode cX8_tries 66 = .ok (.getfield 43, 3) := by decide +kernel
theorem dX8_tries_69 : decode cX8_tries 69 = .ok (.iload 5, 2) := by decide +kernel
theorem dX8_tries_71 : decode cX8_tries 71 = .ok (.iaload, 1) := by decide +kernel
theorem dX8_tries_72 : decode cX8_tries 72 = .ok (.iastore, 1) := by decide +kernel
theorem dX8_tries_73 : decode cX8_tries 73 = .ok (.aload_n 0, 1) := by decide +kernel
theorem dX8_tries_74 : decode cX8_tries 74 = .ok (.getfield 46, 3) := by decide +kernel
theorem dX8_tries_77 : decode cX8_tries 77 = .ok (.iload 5, 2) := by decide +kernel
theorem dX8_tries_79 : decode cX8_tries 79 = .ok (.aload_n 0, 1) := by decide +kernel
theorem dX8_tries_80 : decode cX8_tries 80 = .ok (.getfield 43, 3) := by decide +kernel
theorem dX8_tries_83 : decode cX8_tries 83 = .ok (.iload 5, 2) := by decide +kernel
theorem dX8_tries_85 : decode cX8_tries 85 = .ok (.iaload, 1) := by decide +kernel
theorem dX8_tries_86 : decode cX8_tries 86 = .ok (.ifCond .ge 9, 3) := by decide +kernel
theorem dX8_tries_89 : decode cX8_tries 89 = .ok (.sipush 960, 3) := by decide +kernel
theorem dX8_tries_92 : decode cX8_tries 92 = .ok (.goto 18, 3) := by decide +kernel
theorem dX8_tries_95 : decode cX8_tries 95 = .ok (.aload_n 0, 1) := by decide +kernel
theorem dX8_tries_96 : decode cX8_tries 96 = .ok (.getfield 40, 3) := by decide +kernel
theorem dX8_tries_99 : decode cX8_tries 99 = .ok (.iload 5, 2) := by decide +kernel
theorem dX8_tries_101 : decode cX8_tries 101 = .ok (.iaload, 1) := by decide +kernel
theorem dX8_tries_102 : decode cX8_tries 102 = .ok (.aload_n 0, 1) := by decide +kernel
theorem dX8_tries_103 : decode cX8_tries 103 = .ok (.iload 5, 2) := by decide +kernel
theorem dX8_tries_105 : decode cX8_tries 105 = .ok (.iconst 1, 1) := by decide +kernel
theorem dX8_tries_106 : decode cX8_tries 106 = .ok (.invokevirtual 192, 3) := by decide +kernel
theorem dX8_tries_109 : decode cX8_tries 109 = .ok (.isub, 1) := by decide +kernel
theorem dX8_tries_110 : decode cX8_tries 110 = .ok (.iastore, 1) := by decide +kernel
theorem dX8_tries_111 : decode cX8_tries 111 = .ok (.iinc 4 1, 3) := by decide +kernel
theorem dX8_tries_114 : decode cX8_tries 114 = .ok (.goto (-79), 3) := by decide +kernel
theorem dX8_tries_117 : decode cX8_tries 117 = .ok (.return_, 1) := by decide +kernel
theorem dX8_tries_118 : decode cX8_tries 118 = .ok (.iconst 0, 1) := by decide +kernel
theorem dX8_tries_119 : decode cX8_tries 119 = .ok (.istore 4, 2) := by decide +kernel
theorem dX8_tries_121 : decode cX8_tries 121 = .ok (.iload 4, 2) := by decide +kernel
theorem dX8_tries_123 : decode cX8_tries 123 = .ok (.aload_n 0, 1) := by decide +kernel
theorem dX8_tries_124 : decode cX8_tries 124 = .ok (.getfield 9, 3) := by decide +kernel
theorem dX8_tries_127 : decode cX8_tries 127 = .ok (.bipush 10, 2) := by decide +kernel
theorem dX8_tries_129 : decode cX8_tries 129 = .ok (.iaload, 1) := by decide +kernel
theorem dX8_tries_130 : decode cX8_tries 130 = .ok (.if_icmp .ge 52, 3) := by decide +kernel
theorem dX8_tries_133 : decode cX8_tries 133 = .ok (.iload_n 2, 1) := by decide +kernel
theorem dX8_tries_134 : decode cX8_tries 134 = .ok (.iload 4, 2) := by decide +kernel
theorem dX8_tries_136 : decode cX8_tries 136 = .ok (.invokestatic 99, 3) := by decide +kernel
theorem dX8_tries_139 : decode cX8_tries 139 = .ok (.ifCond .ne 37, 3) := by decide +kernel
theorem dX8_tries_142 : decode cX8_tries 142 = .ok (.aload_n 0, 1) := by decide +kernel
theorem dX8_tries_143 : decode cX8_tries 143 = .ok (.getfield 34, 3) := by decide +kernel
theorem dX8_tries_146 : decode cX8_tries 146 = .ok (.iload_n 1, 1) := by decide +kernel
theorem dX8_tries_147 : decode cX8_tries 147 = .ok (.iload 4, 2) := by decide +kernel
theorem dX8_tries_149 : decode cX8_tries 149 = .ok (.iastore, 1) := by decide +kernel
theorem dX8_tries_150 : decode cX8_tries 150 = .ok (.aload_n 0, 1) := by decide +kernel
theorem dX8_tries_151 : decode cX8_tries 151 = .ok (.iload_n 1, 1) := by decide +kernel
theorem dX8_tries_152 : decode cX8_tries 152 = .ok (.iload 4, 2) := by decide +kernel
theorem dX8_tries_154 : decode cX8_tries 154 = .ok (.invokevirtual 209, 3) := by decide +kernel
theorem dX8_tries_157 : decode cX8_tries 157 = .ok (.istore 5, 2) := by decide +kernel
theorem dX8_tries_159 : decode cX8_tries 159 = .ok (.aload_n 0, 1) := by decide +kernel
theorem dX8_tries_160 : decode cX8_tries 160 = .ok (.iload_n 1, 1) := by decide +kernel
theorem dX8_tries_161 : decode cX8_tries 161 = .ok (.iconst 1, 1) := by decide +kernel
theorem dX8_tries_162 : decode cX8_tries 162 = .ok (.iadd, 1) := by decide +kernel
theorem dX8_tries_163 : decode cX8_tries 163 = .ok (.iload_n 2, 1) := by decide +kernel
theorem dX8_tries_164 : decode cX8_tries 164 = .ok (.iconst 1, 1) := by decide +kernel
theorem dX8_tries_165 : decode cX8_tries 165 = .ok (.iload 4, 2) := by decide +kernel
theorem dX8_tries_167 : decode cX8_tries 167 = .ok (.ishl, 1) := by decide +kernel
theorem dX8_tries_168 : decode cX8_tries 168 = .ok (.ior, 1) := by decide +kernel
theorem dX8_tries_169 : decode cX8_tries 169 = .ok (.iload_n 3, 1) := by decide +kernel
theorem dX8_tries_170 : decode cX8_tries 170 = .ok (.iload 5, 2) := by decide +kernel
theorem dX8_tries_172 : decode cX8_tries 172 = .ok (.iadd, 1) := by decide +kernel
theorem dX8_tries_173 : decode cX8_tries 173 = .ok (.invokevirtual 212, 3) := by decide +kernel
theorem dX8_tries_176 : decode cX8_tries 176 = .ok (.iinc 4 1, 3) := by decide +kernel
theorem dX8_tries_179 : decode cX8_tries 179 = .ok (.goto (-58), 3) := by decide +kernel
theorem dX8_tries_182 : decode cX8_tries 182 = .ok (.return_, 1) := by decide +kernel
theorem dX8_findOrder_0 : decode cX8_findOrder 0 = .ok (.aload_n 0, 1) := by decide +kernel
theorem dX8_findOrder_1 : decode cX8_findOrder 1 = .ok (.iconst (-1), 1) := by decide +kernel
theorem dX8_findOrder_2 : decode cX8_findOrder 2 = .ok (.putfield 205, 3) := by decide +kernel
theorem dX8_findOrder_5 : decode cX8_findOrder 5 = .ok (.aload_n 0, 1) := by decide +kernel
theorem dX8_findOrder_6 : decode cX8_findOrder 6 = .ok (.iconst 0, 1) := by decide +kernel
theorem dX8_findOrder_7 : decode cX8_findOrder 7 = .ok (.iconst 0, 1) := by decide +kernel
theorem dX8_findOrder_8 : decode cX8_findOrder 8 = .ok (.iconst 0, 1) := by decide +kernel
theorem dX8_findOrder_9 : decode cX8_findOrder 9 = .ok (.invokevirtual 212, 3) := by decide +kernel
theorem dX8_findOrder_12 : decode cX8_findOrder 12 = .ok (.return_, 1) := by decide +kernel
theorem dX8_order_0 : decode cX8_order 0 = .ok (.iload_n 1, 1) := by decide +kernel
theorem dX8_order_1 : decode cX8_order 1 = .ok (.iconst (-1), 1) := by decide +kernel
theorem dX8_order_2 : decode cX8_order 2 = .ok (.iconst 5, 1) := by decide +kernel
theorem dX8_order_3 : decode cX8_order 3 = .ok (.invokestatic 121, 3) := by decide +kernel
theorem dX8_order_6 : decode cX8_order 6 = .ok (.ifCond .ne 10, 3) := by decide +kernel
theorem dX8_order_9 : decode cX8_order 9 = .ok (.aload_n 0, 1) := by decide +kernel
theorem dX8_order_10 : decode cX8_order 10 = .ok (.ldc 98, 2) := by decide +kernel
theorem dX8_order_12 : decode cX8_order 12 = .ok (.invokevirtual 125, 3) := by decide +kernel
theorem dX8_order_15 : decode cX8_order 15 = .ok (.ireturn, 1) := by decide +kernel
theorem dX8_order_16 : decode cX8_order 16 = .ok (.iload_n 1, 1) := by decide +kernel
theorem dX8_order_17 : decode cX8_order 17 = .ok (.aload_n 0, 1) := by decide +kernel
theorem dX8_order_18 : decode cX8_order 18 = .ok (.getfield 9, 3) := by decide +kernel
theorem dX8_order_21 : decode cX8_order 21 = .ok (.bipush 10, 2) := by decide +kernel
theorem dX8_order_23 : decode cX8_order 23 = .ok (.iaload, 1) := by decide +kernel
theorem dX8_order_24 : decode cX8_order 24 = .ok (.if_icmp .lt 10, 3) := by decide +kernel
theorem dX8_order_27 : decode cX8_order 27 = .ok (.aload_n 0, 1) := by decide +kernel
theorem dX8_order_28 : decode cX8_order 28 = .ok (.ldc 149, 2) := by decide +kernel
theorem dX8_order_30 : decode cX8_order 30 = .ok (.invokevirtual 125, 3) := by decide +kernel
theorem dX8_order_33 : decode cX8_order 33 = .ok (.ireturn, 1) := by decide +kernel
theorem dX8_order_34 : decode cX8_order 34 = .ok (.aload_n 0, 1) := by decide +kernel
theorem dX8_order_35 : decode cX8_order 35 = .ok (.invokevirtual 216, 3) := by decide +kernel
theorem dX8_order_38 : decode cX8_order 38 = .ok (.iload_n 1, 1) := by decide +kernel
theorem dX8_order_39 : decode cX8_order 39 = .ok (.ifCond .ge 10, 3) := by decide +kernel
theorem dX8_order_42 : decode cX8_order 42 = .ok (.aload_n 0, 1) := by decide +kernel
theorem dX8_order_43 : decode cX8_order 43 = .ok (.getfield 205, 3) := by decide +kernel
theorem dX8_order_46 : decode cX8_order 46 = .ok (.goto 9, 3) := by decide +kernel
theorem dX8_order_49 : decode cX8_order 49 = .ok (.aload_n 0, 1) := by decide +kernel
theorem dX8_order_50 : decode cX8_order 50 = .ok (.getfield 37, 3) := by decide +kernel
theorem dX8_order_53 : decode cX8_order 53 = .ok (.iload_n 1, 1) := by decide +kernel
theorem dX8_order_54 : decode cX8_order 54 = .ok (.iaload, 1) := by decide +kernel
theorem dX8_order_55 : decode cX8_order 55 = .ok (.ireturn, 1) := by decide +kernel
theorem dX8_waits_0 : decode cX8_waits 0 = .ok (.aload_n 0, 1) := by decide +kernel
theorem dX8_waits_1 : decode cX8_waits 1 = .ok (.iload_n 1, 1) := by decide +kernel
theorem dX8_waits_2 : decode cX8_waits 2 = .ok (.invokevirtual 189, 3) := by decide +kernel
theorem dX8_waits_5 : decode cX8_waits 5 = .ok (.ifCond .eq 12, 3) := by decide +kernel
theorem dX8_waits_8 : decode cX8_waits 8 = .ok (.iload_n 2, 1) := by decide +kernel
theorem dX8_waits_9 : decode cX8_waits 9 = .ok (.iconst 0, 1) := by decide +kernel
theorem dX8_waits_10 : decode cX8_waits 10 = .ok (.iconst 1, 1) := by decide +kernel
theorem dX8_waits_11 : decode cX8_waits 11 = .ok (.invokestatic 121, 3) := by decide +kernel
theorem dX8_waits_14 : decode cX8_waits 14 = .ok (.ifCond .ne 10, 3) := by decide +kernel
theorem dX8_waits_17 : decode cX8_waits 17 = .ok (.aload_n 0, 1) := by decide +kernel
theorem dX8_waits_18 : decode cX8_waits 18 = .ok (.ldc 98, 2) := by decide +kernel
theorem dX8_waits_20 : decode cX8_waits 20 = .ok (.invokevirtual 125, 3) := by decide +kernel
theorem dX8_waits_23 : decode cX8_waits 23 = .ok (.ireturn, 1) := by decide +kernel
theorem dX8_waits_24 : decode cX8_waits 24 = .ok (.aload_n 0, 1) := by decide +kernel
theorem dX8_waits_25 : decode cX8_waits 25 = .ok (.invokevirtual 216, 3) := by decide +kernel
theorem dX8_waits_28 : decode cX8_waits 28 = .ok (.iload_n 2, 1) := by decide +kernel
theorem dX8_waits_29 : decode cX8_waits 29 = .ok (.ifCond .ne 12, 3) := by decide +kernel
theorem dX8_waits_32 : decode cX8_waits 32 = .ok (.aload_n 0, 1) := by decide +kernel
theorem dX8_waits_33 : decode cX8_waits 33 = .ok (.getfield 46, 3) := by decide +kernel
theorem dX8_waits_36 : decode cX8_waits 36 = .ok (.iload_n 1, 1) := by decide +kernel
theorem dX8_waits_37 : decode cX8_waits 37 = .ok (.iaload, 1) := by decide +kernel
theorem dX8_waits_38 : decode cX8_waits 38 = .ok (.goto 9, 3) := by decide +kernel
theorem dX8_waits_41 : decode cX8_waits 41 = .ok (.aload_n 0, 1) := by decide +kernel
theorem dX8_waits_42 : decode cX8_waits 42 = .ok (.getfield 49, 3) := by decide +kernel
theorem dX8_waits_45 : decode cX8_waits 45 = .ok (.iload_n 1, 1) := by decide +kernel
theorem dX8_waits_46 : decode cX8_waits 46 = .ok (.iaload, 1) := by decide +kernel
theorem dX8_waits_47 : decode cX8_waits 47 = .ok (.ireturn, 1) := by decide +kernel
theorem dX8_fast_0 : decode cX8_fast 0 = .ok (.iload_n 1, 1) := by decide +kernel
theorem dX8_fast_1 : decode cX8_fast 1 = .ok (.invokestatic 137, 3) := by decide +kernel
theorem dX8_fast_4 : decode cX8_fast 4 = .ok (.ifCond .eq 17, 3) := by decide +kernel
theorem dX8_fast_7 : decode cX8_fast 7 = .ok (.sipush 960, 3) := by decide +kernel
theorem dX8_fast_10 : decode cX8_fast 10 = .ok (.aload_n 0, 1) := by decide +kernel
theorem dX8_fast_11 : decode cX8_fast 11 = .ok (.iload_n 1, 1) := by decide +kernel
theorem dX8_fast_12 : decode cX8_fast 12 = .ok (.invokevirtual 143, 3) := by decide +kernel
theorem dX8_fast_15 : decode cX8_fast 15 = .ok (.invokestatic 219, 3) := by decide +kernel
theorem dX8_fast_18 : decode cX8_fast 18 = .ok (.goto 9, 3) := by decide +kernel
theorem dX8_fast_21 : decode cX8_fast 21 = .ok (.aload_n 0, 1) := by decide +kernel
theorem dX8_fast_22 : decode cX8_fast 22 = .ok (.ldc 98, 2) := by decide +kernel
theorem dX8_fast_24 : decode cX8_fast 24 = .ok (.invokevirtual 125, 3) := by decide +kernel
theorem dX8_fast_27 : decode cX8_fast 27 = .ok (.ireturn, 1) := by decide +kernel
theorem dX8_off_0 : decode cX8_off 0 = .ok (.iload_n 1, 1) := by decide +kernel
theorem dX8_off_1 : decode cX8_off 1 = .ok (.invokestatic 137, 3) := by decide +kernel
theorem dX8_off_4 : decode cX8_off 4 = .ok (.ifCond .eq 10, 3) := by decide +kernel
theorem dX8_off_7 : decode cX8_off 7 = .ok (.iload_n 2, 1) := by decide +kernel
theorem dX8_off_8 : decode cX8_off 8 = .ok (.invokestatic 180, 3) := by decide +kernel
theorem dX8_off_11 : decode cX8_off 11 = .ok (.ifCond .ne 10, 3) := by decide +kernel
theorem dX8_off_14 : decode cX8_off 14 = .ok (.aload_n 0, 1) := by decide +kernel
theorem dX8_off_15 : decode cX8_off 15 = .ok (.ldc 98, 2) := by decide +kernel
theorem dX8_off_17 : decode cX8_off 17 = .ok (.invokevirtual 125, 3) := by decide +kernel
theorem dX8_off_20 : decode cX8_off 20 = .ok (.ireturn, 1) := by decide +kernel
theorem dX8_off_21 : decode cX8_off 21 = .ok (.iconst 0, 1) := by decide +kernel
theorem dX8_off_22 : decode cX8_off 22 = .ok (.istore_n 3, 1) := by decide +kernel
theorem dX8_off_23 : decode cX8_off 23 = .ok (.iload_n 1, 1) := by decide +kernel
theorem dX8_off_24 : decode cX8_off 24 = .ok (.istore 4, 2) := by decide +kernel
theorem dX8_off_26 : decode cX8_off 26 = .ok (.iload 4, 2) := by decide +kernel
theorem dX8_off_28 : decode cX8_off 28 = .ok (.iload_n 1, 1) := by decide +kernel
theorem dX8_off_29 : decode cX8_off 29 = .ok (.iload_n 2, 1) := by decide +kernel
theorem dX8_off_30 : decode cX8_off 30 = .ok (.iadd, 1) := by decide +kernel
theorem dX8_off_31 : decode cX8_off 31 = .ok (.if_icmp .ge 26, 3) := by decide +kernel
theorem dX8_off_34 : decode cX8_off 34 = .ok (.iload_n 3, 1) := by decide +kernel
theorem dX8_off_35 : decode cX8_off 35 = .ok (.aload_n 0, 1) := by decide +kernel
theorem dX8_off_36 : decode cX8_off 36 = .ok (.iload 4, 2) := by decide +kernel
theorem dX8_off_38 : decode cX8_off 38 = .ok (.invokevirtual 143, 3) := by decide +kernel
theorem dX8_off_41 : decode cX8_off 41 = .ok (.ifCond .ne 7, 3) := by decide +kernel
theorem dX8_off_44 : decode cX8_off 44 = .ok (.iconst 1, 1) := by decide +kernel
theorem dX8_off_45 : decode cX8_off 45 = .ok (.goto 4, 3) := by decide +kernel
theorem dX8_off_48 : decode cX8_off 48 = .ok (.iconst 0, 1) := by decide +kernel
theorem dX8_off_49 : decode cX8_off 49 = .ok (.iadd, 1) := by decide +kernel
theorem dX8_off_50 : decode cX8_off 50 = .ok (.istore_n 3, 1) := by decide +kernel
theorem dX8_off_51 : decode cX8_off 51 = .ok (.iinc 4 1, 3) := by decide +kernel
theorem dX8_off_54 : decode cX8_off 54 = .ok (.goto (-28), 3) := by decide +kernel
theorem dX8_off_57 : decode cX8_off 57 = .ok (.iload_n 3, 1) := by decide +kernel
theorem dX8_off_58 : decode cX8_off 58 = .ok (.ireturn, 1) := by decide +kernel
theorem dX8_feed_0 : decode cX8_feed 0 = .ok (.iload_n 2, 1) := by decide +kernel
theorem dX8_feed_1 : decode cX8_feed 1 = .ok (.iconst 1, 1) := by decide +kernel
theorem dX8_feed_2 : decode cX8_feed 2 = .ok (.iconst 4, 1) := by decide +kernel
theorem dX8_feed_3 : decode cX8_feed 3 = .ok (.invokestatic 121, 3) := by decide +kernel
theorem dX8_feed_6 : decode cX8_feed 6 = .ok (.ifCond .ne 10, 3) := by decide +kernel
theorem dX8_feed_9 : decode cX8_feed 9 = .ok (.aload_n 0, 1) := by decide +kernel
theorem dX8_feed_10 : decode cX8_feed 10 = .ok (.ldc 98, 2) := by decide +kernel
theorem dX8_feed_12 : decode cX8_feed 12 = .ok (.invokevirtual 125, 3) := by decide +kernel
theorem dX8_feed_15 : decode cX8_feed 15 = .ok (.ireturn, 1) := by decide +kernel
theorem dX8_feed_16 : decode cX8_feed 16 = .ok (.aload_n 0, 1) := by decide +kernel
theorem dX8_feed_17 : decode cX8_feed 17 = .ok (.getfield 224, 3) := by decide +kernel
theorem dX8_feed_20 : decode cX8_feed 20 = .ok (.iload_n 2, 1) := by decide +kernel
theorem dX8_feed_21 : decode cX8_feed 21 = .ok (.iadd, 1) := by decide +kernel
theorem dX8_feed_22 : decode cX8_feed 22 = .ok (.bipush 120, 2) := by decide +kernel
theorem dX8_feed_24 : decode cX8_feed 24 = .ok (.if_icmp .le 10, 3) := by decide +kernel
theorem dX8_feed_27 : decode cX8_feed 27 = .ok (.aload_n 0, 1) := by decide +kernel
theorem dX8_feed_28 : decode cX8_feed 28 = .ok (.ldc 153, 2) := by decide +kernel
theorem dX8_feed_30 : decode cX8_feed 30 = .ok (.invokevirtual 125, 3) := by decide +kernel
theorem dX8_feed_33 : decode cX8_feed 33 = .ok (.ireturn, 1) := by decide +kernel
theorem dX8_feed_34 : decode cX8_feed 34 = .ok (.iload_n 2, 1) := by decide +kernel
theorem dX8_feed_35 : decode cX8_feed 35 = .ok (.iconst 1, 1) := by decide +kernel
theorem dX8_feed_36 : decode cX8_feed 36 = .ok (.isub, 1) := by decide +kernel
theorem dX8_feed_37 : decode cX8_feed 37 = .ok (.istore_n 3, 1) := by decide +kernel
theorem dX8_feed_38 : decode cX8_feed 38 = .ok (.iload_n 3, 1) := by decide +kernel
theorem dX8_feed_39 : decode cX8_feed 39 = .ok (.ifCond .lt 38, 3) := by decide +kernel
theorem dX8_feed_42 : decode cX8_feed 42 = .ok (.aload_n 0, 1) := by decide +kernel
theorem dX8_feed_43 : decode cX8_feed 43 = .ok (.getfield 52, 3) := by decide +kernel
theorem dX8_feed_46 : decode cX8_feed 46 = .ok (.aload_n 0, 1) := by decide +kernel
theorem dX8_feed_47 : decode cX8_feed 47 = .ok (.getfield 224, 3) := by decide +kernel
theorem dX8_feed_50 : decode cX8_feed 50 = .ok (.iload_n 1, 1) := by decide +kernel
theorem dX8_feed_51 : decode cX8_feed 51 = .ok (.bipush 8, 2) := by decide +kernel
theorem dX8_feed_53 : decode cX8_feed 53 = .ok (.iload_n 3, 1) := by decide +kernel
theorem dX8_feed_54 : decode cX8_feed 54 = .ok (.imul, 1) := by decide +kernel
theorem dX8_feed_55 : decode cX8_feed 55 = .ok (.ishr, 1) := by decide +kernel
theorem dX8_feed_56 : decode cX8_feed 56 = .ok (.sipush 255, 3) := by decide +kernel
theorem dX8_feed_59 : decode cX8_feed 59 = .ok (.iand, 1) := by decide +kernel
theorem dX8_feed_60 : decode cX8_feed 60 = .ok (.iastore, 1) := by decide +kernel
theorem dX8_feed_61 : decode cX8_feed 61 = .ok (.aload_n 0, 1) := by decide +kernel
theorem dX8_feed_62 : decode cX8_feed 62 = .ok (.dup, 1) := by decide +kernel
theorem dX8_feed_63 : decode cX8_feed 63 = .ok (.getfield 224, 3) := by decide +kernel
theorem dX8_feed_66 : decode cX8_feed 66 = .ok (.iconst 1, 1) := by decide +kernel
theorem dX8_feed_67 : decode cX8_feed 67 = .ok (.iadd, 1) := by decide +kernel
theorem dX8_feed_68 : decode cX8_feed 68 = .ok (.putfield 224, 3) := by decide +kernel
theorem dX8_feed_71 : decode cX8_feed 71 = .ok (.iinc 3 (-1), 3) := by decide +kernel
theorem dX8_feed_74 : decode cX8_feed 74 = .ok (.goto (-36), 3) := by decide +kernel
theorem dX8_feed_77 : decode cX8_feed 77 = .ok (.aload_n 0, 1) := by decide +kernel
theorem dX8_feed_78 : decode cX8_feed 78 = .ok (.getfield 224, 3) := by decide +kernel
theorem dX8_feed_81 : decode cX8_feed 81 = .ok (.ireturn, 1) := by decide +kernel
theorem dX8_wipe_0 : decode cX8_wipe 0 = .ok (.aload_n 0, 1) := by decide +kernel
theorem dX8_wipe_1 : decode cX8_wipe 1 = .ok (.getfield 224, 3) := by decide +kernel
theorem dX8_wipe_4 : decode cX8_wipe 4 = .ok (.istore_n 1, 1) := by decide +kernel
theorem dX8_wipe_5 : decode cX8_wipe 5 = .ok (.aload_n 0, 1) := by decide +kernel
theorem dX8_wipe_6 : decode cX8_wipe 6 = .ok (.iconst 0, 1) := by decide +kernel
theorem dX8_wipe_7 : decode cX8_wipe 7 = .ok (.putfield 224, 3) := by decide +kernel
theorem dX8_wipe_10 : decode cX8_wipe 10 = .ok (.iload_n 1, 1) := by decide +kernel
theorem dX8_wipe_11 : decode cX8_wipe 11 = .ok (.ireturn, 1) := by decide +kernel
theorem dX8_byteAt_0 : decode cX8_byteAt 0 = .ok (.iload_n 1, 1) := by decide +kernel
theorem dX8_byteAt_1 : decode cX8_byteAt 1 = .ok (.aload_n 0, 1) := by decide +kernel
theorem dX8_byteAt_2 : decode cX8_byteAt 2 = .ok (.getfield 224, 3) := by decide +kernel
theorem dX8_byteAt_5 : decode cX8_byteAt 5 = .ok (.if_icmp .ge 12, 3) := by decide +kernel
theorem dX8_byteAt_8 : decode cX8_byteAt 8 = .ok (.aload_n 0, 1) := by decide +kernel
theorem dX8_byteAt_9 : decode cX8_byteAt 9 = .ok (.getfield 52, 3) := by decide +kernel
theorem dX8_byteAt_12 : decode cX8_byteAt 12 = .ok (.iload_n 1, 1) := by decide +kernel
theorem dX8_byteAt_13 : decode cX8_byteAt 13 = .ok (.iaload, 1) := by decide +kernel
theorem dX8_byteAt_14 : decode cX8_byteAt 14 = .ok (.goto 4, 3) := by decide +kernel
theorem dX8_byteAt_17 : decode cX8_byteAt 17 = .ok (.iconst (-1), 1) := by decide +kernel
theorem dX8_byteAt_18 : decode cX8_byteAt 18 = .ok (.ireturn, 1) := by decide +kernel
theorem dX8_next_0 : decode cX8_next 0 = .ok (.aload_n 0, 1) := by decide +kernel
theorem dX8_next_1 : decode cX8_next 1 = .ok (.aload_n 0, 1) := by decide +kernel
theorem dX8_next_2 : decode cX8_next 2 = .ok (.getfield 227, 3) := by decide +kernel
theorem dX8_next_5 : decode cX8_next 5 = .ok (.putfield 230, 3) := by decide +kernel
theorem dX8_next_8 : decode cX8_next 8 = .ok (.aload_n 0, 1) := by decide +kernel
theorem dX8_next_9 : decode cX8_next 9 = .ok (.aload_n 0, 1) := by decide +kernel
theorem dX8_next_10 : decode cX8_next 10 = .ok (.getfield 230, 3) := by decide +kernel
theorem dX8_next_13 : decode cX8_next 13 = .ok (.invokevirtual 233, 3) := by decide +kernel
theorem dX8_next_16 : decode cX8_next 16 = .ok (.bipush 32, 2) := by decide +kernel
theorem dX8_next_18 : decode cX8_next 18 = .ok (.if_icmp .ne 16, 3) := by decide +kernel
theorem dX8_next_21 : decode cX8_next 21 = .ok (.aload_n 0, 1) := by decide +kernel
theorem dX8_next_22 : decode cX8_next 22 = .ok (.dup, 1) := by decide +kernel
theorem dX8_next_23 : decode cX8_next 23 = .ok (.getfield 230, 3) := by decide +kernel
theorem dX8_next_26 : decode cX8_next 26 = .ok (.iconst 1, 1) := by decide +kernel
theorem dX8_next_27 : decode cX8_next 27 = .ok (.iadd, 1) := by decide +kernel
theorem dX8_next_28 : decode cX8_next 28 = .ok (.putfield 230, 3) := by decide +kernel
theorem dX8_next_31 : decode cX8_next 31 = .ok (.goto (-23), 3) := by decide +kernel
theorem dX8_next_34 : decode cX8_next 34 = .ok (.aload_n 0, 1) := by decide +kernel
theorem dX8_next_35 : decode cX8_next 35 = .ok (.aload_n 0, 1) := by decide +kernel
theorem dX8_next_36 : decode cX8_next 36 = .ok (.getfield 230, 3) := by decide +kernel
theorem dX8_next_39 : decode cX8_next 39 = .ok (.invokevirtual 233, 3) := by decide +kernel
theorem dX8_next_42 : decode cX8_next 42 = .ok (.istore_n 1, 1) := by decide +kernel
theorem dX8_next_43 : decode cX8_next 43 = .ok (.aload_n 0, 1) := by decide +kernel
theorem dX8_next_44 : decode cX8_next 44 = .ok (.aload_n 0, 1) := by decide +kernel
theorem dX8_next_45 : decode cX8_next 45 = .ok (.getfield 230, 3) := by decide +kernel
theorem dX8_next_48 : decode cX8_next 48 = .ok (.putfield 227, 3) := by decide +kernel
theorem dX8_next_51 : decode cX8_next 51 = .ok (.aload_n 0, 1) := by decide +kernel
theorem dX8_next_52 : decode cX8_next 52 = .ok (.iconst 0, 1) := by decide +kernel
theorem dX8_next_53 : decode cX8_next 53 = .ok (.putfield 236, 3) := by decide +kernel
theorem dX8_next_56 : decode cX8_next 56 = .ok (.iload_n 1, 1) := by decide +kernel
theorem dX8_next_57 : decode cX8_next 57 = .ok (.ifCond .ge 11, 3) := by decide +kernel
theorem dX8_next_60 : decode cX8_next 60 = .ok (.aload_n 0, 1) := by decide +kernel
theorem dX8_next_61 : decode cX8_next 61 = .ok (.iconst 0, 1) := by decide +kernel
theorem dX8_next_62 : decode cX8_next 62 = .ok (.putfield 239, 3) := by decide +kernel
theorem dX8_next_65 : decode cX8_next 65 = .ok (.goto 141, 3) := by decide +kernel
theorem dX8_next_68 : decode cX8_next 68 = .ok (.iload_n 1, 1) := by decide +kernel
theorem dX8_next_69 : decode cX8_next 69 = .ok (.bipush 97, 2) := by decide +kernel
theorem dX8_next_71 : decode cX8_next 71 = .ok (.bipush 122, 2) := by decide +kernel
theorem dX8_next_73 : decode cX8_next 73 = .ok (.invokestatic 121, 3) := by decide +kernel
theorem dX8_next_76 : decode cX8_next 76 = .ok (.ifCond .eq 39, 3) := by decide +kernel
theorem dX8_next_79 : decode cX8_next 79 = .ok (.aload_n 0, 1) := by decide +kernel
theorem dX8_next_80 : decode cX8_next 80 = .ok (.iconst 1, 1) := by decide +kernel
theorem dX8_next_81 : decode cX8_next 81 = .ok (.putfield 239, 3) := by decide +kernel
theorem dX8_next_84 : decode cX8_next 84 = .ok (.aload_n 0, 1) := by decide +kernel
theorem dX8_next_85 : decode cX8_next 85 = .ok (.aload_n 0, 1) := by decide +kernel
theorem dX8_next_86 : decode cX8_next 86 = .ok (.getfield 227, 3) := by decide +kernel
theorem dX8_next_89 : decode cX8_next 89 = .ok (.invokevirtual 233, 3) := by decide +kernel
theorem dX8_next_92 : decode cX8_next 92 = .ok (.bipush 97, 2) := by decide +kernel
theorem dX8_next_94 : decode cX8_next 94 = .ok (.bipush 122, 2) := by decide +kernel
theorem dX8_next_96 : decode cX8_next 96 = .ok (.invokestatic 121, 3) := by decide +kernel
theorem dX8_next_99 : decode cX8_next 99 = .ok (.ifCond .eq 107, 3) := by decide +kernel
theorem dX8_next_102 : decode cX8_next 102 = .ok (.aload_n 0, 1) := by decide +kernel
theorem dX8_next_103 : decode cX8_next 103 = .ok (.dup, 1) := by decide +kernel
theorem dX8_next_104 : decode cX8_next 104 = .ok (.getfield 227, 3) := by decide +kernel
theorem dX8_next_107 : decode cX8_next 107 = .ok (.iconst 1, 1) := by decide +kernel
theorem dX8_next_108 : decode cX8_next 108 = .ok (.iadd, 1) := by decide +kernel
theorem dX8_next_109 : decode cX8_next 109 = .ok (.putfield 227, 3) := by decide +kernel
theorem dX8_next_112 : decode cX8_next 112 = .ok (.goto (-28), 3) := by decide +kernel
theorem dX8_next_115 : decode cX8_next 115 = .ok (.iload_n 1, 1) := by decide +kernel
theorem dX8_next_116 : decode cX8_next 116 = .ok (.bipush 48, 2) := by decide +kernel
theorem dX8_next_118 : decode cX8_next 118 = .ok (.bipush 57, 2) := by decide +kernel
theorem dX8_next_120 : decode cX8_next 120 = .ok (.invokestatic 121, 3) := by decide +kernel
theorem dX8_next_123 : decode cX8_next 123 = .ok (.ifCond .eq 68, 3) := by decide +kernel
theorem dX8_next_126 : decode cX8_next 126 = .ok (.aload_n 0, 1) := by decide +kernel
theorem dX8_next_127 : decode cX8_next 127 = .ok (.iconst 2, 1) := by decide +kernel
theorem dX8_next_128 : decode cX8_next 128 = .ok (.putfield 239, 3) := by decide +kernel
theorem dX8_next_131 : decode cX8_next 131 = .ok (.aload_n 0, 1) := by decide +kernel
theorem dX8_next_132 : decode cX8_next 132 = .ok (.aload_n 0, 1) := by decide +kernel
theorem dX8_next_133 : decode cX8_next 133 = .ok (.getfield 227, 3) := by decide +kernel
theorem dX8_next_136 : decode cX8_next 136 = .ok (.invokevirtual 233, 3) := by decide +kernel
theorem dX8_next_139 : decode cX8_next 139 = .ok (.bipush 48, 2) := by decide +kernel
theorem dX8_next_141 : decode cX8_next 141 = .ok (.bipush 57, 2) := by decide +kernel
theorem dX8_next_143 : decode cX8_next 143 = .ok (.invokestatic 121, 3) := by decide +kernel
theorem dX8_next_146 : decode cX8_next 146 = .ok (.ifCond .eq 60, 3) := by decide +kernel
theorem dX8_next_149 : decode cX8_next 149 = .ok (.aload_n 0, 1) := by decide +kernel
theorem dX8_next_150 : decode cX8_next 150 = .ok (.sipush 10000, 3) := by decide +kernel
theorem dX8_next_153 : decode cX8_next 153 = .ok (.bipush 10, 2) := by decide +kernel
theorem dX8_next_155 : decode cX8_next 155 = .ok (.aload_n 0, 1) := by decide +kernel
theorem dX8_next_156 : decode cX8_next 156 = .ok (.getfield 236, 3) := by decide +kernel
theorem dX8_next_159 : decode cX8_next 159 = .ok (.imul, 1) := by decide +kernel
theorem dX8_next_160 : decode cX8_next 160 = .ok (.aload_n 0, 1) := by decide +kernel
theorem dX8_next_161 : decode cX8_next 161 = .ok (.aload_n 0, 1) := by decide +kernel
theorem dX8_next_162 : decode cX8_next 162 = .ok (.getfield 227, 3) := by decide +kernel
theorem dX8_next_165 : decode cX8_next 165 = .ok (.invokevirtual 233, 3) := by decide +kernel
theorem dX8_next_168 : decode cX8_next 168 = .ok (.iadd, 1) := by decide +kernel
theorem dX8_next_169 : decode cX8_next 169 = .ok (.bipush 48, 2) := by decide +kernel
theorem dX8_next_171 : decode cX8_next 171 = .ok (.isub, 1) := by decide +kernel
theorem dX8_next_172 : decode cX8_next 172 = .ok (.invokestatic 219, 3) := by decide +kernel
theorem dX8_next_175 : decode cX8_next 175 = .ok (.putfield 236, 3) := by decide +kernel
theorem dX8_next_178 : decode cX8_next 178 = .ok (.aload_n 0, 1) := by decide +kernel
theorem dX8_next_179 : decode cX8_next 179 = .ok (.dup, 1) := by decide +kernel
theorem dX8_next_180 : decode cX8_next 180 = .ok (.getfield 227, 3) := by decide +kernel
theorem dX8_next_183 : decode cX8_next 183 = .ok (.iconst 1, 1) := by decide +kernel
theorem dX8_next_184 : decode cX8_next 184 = .ok (.iadd, 1) := by decide +kernel
theorem dX8_next_185 : decode cX8_next 185 = .ok (.putfield 227, 3) := by decide +kernel
theorem dX8_next_188 : decode cX8_next 188 = .ok (.goto (-57), 3) := by decide +kernel
theorem dX8_next_191 : decode cX8_next 191 = .ok (.aload_n 0, 1) := by decide +kernel
theorem dX8_next_192 : decode cX8_next 192 = .ok (.iconst 3, 1) := by decide +kernel
theorem dX8_next_193 : decode cX8_next 193 = .ok (.putfield 239, 3) := by decide +kernel
theorem dX8_next_196 : decode cX8_next 196 = .ok (.aload_n 0, 1) := by decide +kernel
theorem dX8_next_197 : decode cX8_next 197 = .ok (.dup, 1) := by decide +kernel
theorem dX8_next_198 : decode cX8_next 198 = .ok (.getfield 227, 3) := by decide +kernel
theorem dX8_next_201 : decode cX8_next 201 = .ok (.iconst 1, 1) := by decide +kernel
theorem dX8_next_202 : decode cX8_next 202 = .ok (.iadd, 1) := by decide +kernel
theorem dX8_next_203 : decode cX8_next 203 = .ok (.putfield 227, 3) := by decide +kernel
theorem dX8_next_206 : decode cX8_next 206 = .ok (.return_, 1) := by decide +kernel
theorem dX8_isWord_0 : decode cX8_isWord 0 = .ok (.aload_n 0, 1) := by decide +kernel
theorem dX8_isWord_1 : decode cX8_isWord 1 = .ok (.getfield 239, 3) := by decide +kernel
theorem dX8_isWord_4 : decode cX8_isWord 4 = .ok (.iconst 1, 1) := by decide +kernel
theorem dX8_isWord_5 : decode cX8_isWord 5 = .ok (.if_icmp .ne 23, 3) := by decide +kernel
theorem dX8_isWord_8 : decode cX8_isWord 8 = .ok (.aload_n 0, 1) := by decide +kernel
theorem dX8_isWord_9 : decode cX8_isWord 9 = .ok (.getfield 227, 3) := by decide +kernel
theorem dX8_isWord_12 : decode cX8_isWord 12 = .ok (.aload_n 0, 1) := by decide +kernel
theorem dX8_isWord_13 : decode cX8_isWord 13 = .ok (.getfield 230, 3) := by decide +kernel
theorem dX8_isWord_16 : decode cX8_isWord 16 = .ok (.isub, 1) := by decide +kernel
theorem dX8_isWord_17 : decode cX8_isWord 17 = .ok (.aload_n 1, 1) := by decide +kernel
theorem dX8_isWord_18 : decode cX8_isWord 18 = .ok (.invokevirtual 242, 3) := by decide +kernel
theorem dX8_isWord_21 : decode cX8_isWord 21 = .ok (.if_icmp .ne 7, 3) := by decide +kernel
theorem dX8_isWord_24 : decode cX8_isWord 24 = .ok (.iconst 1, 1) := by decide +kernel
theorem dX8_isWord_25 : decode cX8_isWord 25 = .ok (.goto 4, 3) := by decide +kernel
theorem dX8_isWord_28 : decode cX8_isWord 28 = .ok (.iconst 0, 1) := by decide +kernel
theorem dX8_isWord_29 : decode cX8_isWord 29 = .ok (.istore_n 2, 1) := by decide +kernel
theorem dX8_isWord_30 : decode cX8_isWord 30 = .ok (.iconst 0, 1) := by decide +kernel
theorem dX8_isWord_31 : decode cX8_isWord 31 = .ok (.istore_n 3, 1) := by decide +kernel
theorem dX8_isWord_32 : decode cX8_isWord 32 = .ok (.iload_n 3, 1) := by decide +kernel
theorem dX8_isWord_33 : decode cX8_isWord 33 = .ok (.aload_n 1, 1) := by decide +kernel
theorem dX8_isWord_34 : decode cX8_isWord 34 = .ok (.invokevirtual 242, 3) := by decide +kernel
theorem dX8_isWord_37 : decode cX8_isWord 37 = .ok (.if_icmp .ge 38, 3) := by decide +kernel
theorem dX8_isWord_40 : decode cX8_isWord 40 = .ok (.iload_n 2, 1) := by decide +kernel
theorem dX8_isWord_41 : decode cX8_isWord 41 = .ok (.ifCond .eq 34, 3) := by decide +kernel
theorem dX8_isWord_44 : decode cX8_isWord 44 = .ok (.aload_n 0, 1) := by decide +kernel
theorem dX8_isWord_45 : decode cX8_isWord 45 = .ok (.getfield 52, 3) := by decide +kernel
theorem dX8_isWord_48 : decode cX8_isWord 48 = .ok (.aload_n 0, 1) := by decide +kernel
theorem dX8_isWord_49 : decode cX8_isWord 49 = .ok (.getfield 230, 3) := by decide +kernel
theorem dX8_isWord_52 : decode cX8_isWord 52 = .ok (.iload_n 3, 1) := by decide +kernel
theorem dX8_isWord_53 : decode cX8_isWord 53 = .ok (.iadd, 1) := by decide +kernel
theorem dX8_isWord_54 : decode cX8_isWord 54 = .ok (.iaload, 1) := by decide +kernel
theorem dX8_isWord_55 : decode cX8_isWord 55 = .ok (.aload_n 1, 1) := by decide +kernel
theorem dX8_isWord_56 : decode cX8_isWord 56 = .ok (.iload_n 3, 1) := by decide +kernel
theorem dX8_isWord_57 : decode cX8_isWord 57 = .ok (.invokevirtual 246, 3) := by decide +kernel
theorem dX8_isWord_60 : decode cX8_isWord 60 = .ok (.if_icmp .ne 7, 3) := by decide +kernel
theorem dX8_isWord_63 : decode cX8_isWord 63 = .ok (.iconst 1, 1) := by decide +kernel
theorem dX8_isWord_64 : decode cX8_isWord 64 = .ok (.goto 4, 3) := by decide +kernel
theorem dX8_isWord_67 : decode cX8_isWord 67 = .ok (.iconst 0, 1) := by decide +kernel
theorem dX8_isWord_68 : decode cX8_isWord 68 = .ok (.istore_n 2, 1) := by decide +kernel
theorem dX8_isWord_69 : decode cX8_isWord 69 = .ok (.iinc 3 1, 3) := by decide +kernel
theorem dX8_isWord_72 : decode cX8_isWord 72 = .ok (.goto (-40), 3) := by decide +kernel
theorem dX8_isWord_75 : decode cX8_isWord 75 = .ok (.iload_n 2, 1) := by decide +kernel
theorem dX8_isWord_76 : decode cX8_isWord 76 = .ok (.ireturn, 1) := by decide +kernel
theorem dX8_must_0 : decode cX8_must 0 = .ok (.aload_n 0, 1) := by decide +kernel
theorem dX8_must_1 : decode cX8_must 1 = .ok (.aload_n 0, 1) := by decide +kernel
theorem dX8_must_2 : decode cX8_must 2 = .ok (.getfield 250, 3) := by decide +kernel
theorem dX8_must_5 : decode cX8_must 5 = .ok (.ifCond .ne 7, 3) := by decide +kernel
theorem dX8_must_8 : decode cX8_must 8 = .ok (.iload_n 1, 1) := by decide +kernel
theorem dX8_must_9 : decode cX8_must 9 = .ok (.ifCond .ne 7, 3) := by decide +kernel
theorem dX8_must_12 : decode cX8_must 12 = .ok (.iconst 1, 1) := by decide +kernel
theorem dX8_must_13 : decode cX8_must 13 = .ok (.goto 4, 3) := by decide +kernel
theorem dX8_must_16 : decode cX8_must 16 = .ok (.iconst 0, 1) := by decide +kernel
theorem dX8_must_17 : decode cX8_must 17 = .ok (.putfield 250, 3) := by decide +kernel
theorem dX8_must_20 : decode cX8_must 20 = .ok (.aload_n 0, 1) := by decide +kernel
theorem dX8_must_21 : decode cX8_must 21 = .ok (.getfield 250, 3) := by decide +kernel
theorem dX8_must_24 : decode cX8_must 24 = .ok (.ifCond .ne 7, 3) := by decide +kernel
theorem dX8_must_27 : decode cX8_must 27 = .ok (.aload_n 0, 1) := by decide +kernel
theorem dX8_must_28 : decode cX8_must 28 = .ok (.invokevirtual 253, 3) := by decide +kernel
theorem dX8_must_31 : decode cX8_must 31 = .ok (.return_, 1) := by decide +kernel
theorem dX8_number_0 : decode cX8_number 0 = .ok (.aload_n 0, 1) := by decide +kernel
theorem dX8_number_1 : decode cX8_number 1 = .ok (.getfield 236, 3) := by decide +kernel
theorem dX8_number_4 : decode cX8_number 4 = .ok (.istore_n 3, 1) := by decide +kernel
theorem dX8_number_5 : decode cX8_number 5 = .ok (.aload_n 0, 1) := by decide +kernel
theorem dX8_number_6 : decode cX8_number 6 = .ok (.aload_n 0, 1) := by decide +kernel
theorem dX8_number_7 : decode cX8_number 7 = .ok (.getfield 239, 3) := by decide +kernel
theorem dX8_number_10 : decode cX8_number 10 = .ok (.iconst 2, 1) := by decide +kernel
theorem dX8_number_11 : decode cX8_number 11 = .ok (.if_icmp .ne 16, 3) := by decide +kernel
theorem dX8_number_14 : decode cX8_number 14 = .ok (.iload_n 3, 1) := by decide +kernel
theorem dX8_number_15 : decode cX8_number 15 = .ok (.iload_n 1, 1) := by decide +kernel
theorem dX8_number_16 : decode cX8_number 16 = .ok (.iload_n 2, 1) := by decide +kernel
theorem dX8_number_17 : decode cX8_number 17 = .ok (.invokestatic 121, 3) := by decide +kernel
theorem dX8_number_20 : decode cX8_number 20 = .ok (.ifCond .eq 7, 3) := by decide +kernel
theorem dX8_number_23 : decode cX8_number 23 = .ok (.iconst 1, 1) := by decide +kernel
theorem dX8_number_24 : decode cX8_number 24 = .ok (.goto 4, 3) := by decide +kernel
theorem dX8_number_27 : decode cX8_number 27 = .ok (.iconst 0, 1) := by decide +kernel
theorem dX8_number_28 : decode cX8_number 28 = .ok (.invokevirtual 256, 3) := by decide +kernel
theorem dX8_number_31 : decode cX8_number 31 = .ok (.iload_n 3, 1) := by decide +kernel
theorem dX8_number_32 : decode cX8_number 32 = .ok (.ireturn, 1) := by decide +kernel
theorem dX8_item_0 : decode cX8_item 0 = .ok (.iconst 5, 1) := by decide +kernel
theorem dX8_item_1 : decode cX8_item 1 = .ok (.aload_n 0, 1) := by decide +kernel
theorem dX8_item_2 : decode cX8_item 2 = .ok (.getfield 260, 3) := by decide +kernel
theorem dX8_item_5 : decode cX8_item 5 = .ok (.imul, 1) := by decide +kernel
theorem dX8_item_6 : decode cX8_item 6 = .ok (.istore 6, 2) := by decide +kernel
theorem dX8_item_8 : decode cX8_item 8 = .ok (.aload_n 0, 1) := by decide +kernel
theorem dX8_item_9 : decode cX8_item 9 = .ok (.getfield 82, 3) := by decide +kernel
theorem dX8_item_12 : decode cX8_item 12 = .ok (.iload 6, 2) := by decide +kernel
theorem dX8_item_14 : decode cX8_item 14 = .ok (.iload_n 1, 1) := by decide +kernel
theorem dX8_item_15 : decode cX8_item 15 = .ok (.iastore, 1) := by decide +kernel
theorem dX8_item_16 : decode cX8_item 16 = .ok (.aload_n 0, 1) := by decide +kernel
theorem dX8_item_17 : decode cX8_item 17 = .ok (.getfield 82, 3) := by decide +kernel
theorem dX8_item_20 : decode cX8_item 20 = .ok (.iload 6, 2) := by decide +kernel
theorem dX8_item_22 : decode cX8_item 22 = .ok (.iconst 1, 1) := by decide +kernel
theorem dX8_item_23 : decode cX8_item 23 = .ok (.iadd, 1) := by decide +kernel
theorem dX8_item_24 : decode cX8_item 24 = .ok (.iload_n 2, 1) := by decide +kernel
theorem dX8_item_25 : decode cX8_item 25 = .ok (.iastore, 1) := by decide +kernel
theorem dX8_item_26 : decode cX8_item 26 = .ok (.aload_n 0, 1) := by decide +kernel
theorem dX8_item_27 : decode cX8_item 27 = .ok (.getfield 82, 3) := by decide +kernel
theorem dX8_item_30 : decode cX8_item 30 = .ok (.iload 6, 2) := by decide +kernel
theorem dX8_item_32 : decode cX8_item 32 = .ok (.iconst 2, 1) := by decide +kernel
theorem dX8_item_33 : decode cX8_item 33 = .ok (.iadd, 1) := by decide +kernel
theorem dX8_item_34 : decode cX8_item 34 = .ok (.iload_n 3, 1) := by decide +kernel
theorem dX8_item_35 : decode cX8_item 35 = .ok (.iastore, 1) := by decide +kernel
theorem dX8_item_36 : decode cX8_item 36 = .ok (.aload_n 0, 1) := by decide +kernel
theorem dX8_item_37 : decode cX8_item 37 = .ok (.getfield 82, 3) := by decide +kernel
theorem dX8_item_40 : decode cX8_item 40 = .ok (.iload 6, 2) := by decide +kernel
theorem dX8_item_42 : decode cX8_item 42 = .ok (.iconst 3, 1) := by decide +kernel
theorem dX8_item_43 : decode cX8_item 43 = .ok (.iadd, 1) := by decide +kernel
theorem dX8_item_44 : decode cX8_item 44 = .ok (.iload 4, 2) := by decide +kernel
theorem dX8_item_46 : decode cX8_item 46 = .ok (.iastore, 1) := by decide +kernel
theorem dX8_item_47 : decode cX8_item 47 = .ok (.aload_n 0, 1) := by decide +kernel
theorem dX8_item_48 : decode cX8_item 48 = .ok (.getfield 82, 3) := by decide +kernel
theorem dX8_item_51 : decode cX8_item 51 = .ok (.iload 6, 2) := by decide +kernel
theorem dX8_item_53 : decode cX8_item 53 = .ok (.iconst 4, 1) := by decide +kernel
theorem dX8_item_54 : decode cX8_item 54 = .ok (.iadd, 1) := by decide +kernel
theorem dX8_item_55 : decode cX8_item 55 = .ok (.iload 5, 2) := by decide +kernel
theorem dX8_item_57 : decode cX8_item 57 = .ok (.iastore, 1) := by decide +kernel
theorem dX8_item_58 : decode cX8_item 58 = .ok (.aload_n 0, 1) := by decide +kernel
theorem dX8_item_59 : decode cX8_item 59 = .ok (.dup, 1) := by decide +kernel
theorem dX8_item_60 : decode cX8_item 60 = .ok (.getfield 260, 3) := by decide +kernel
theorem dX8_item_63 : decode cX8_item 63 = .ok (.iconst 1, 1) := by decide +kernel
theorem dX8_item_64 : decode cX8_item 64 = .ok (.iadd, 1) := by decide +kernel
theorem dX8_item_65 : decode cX8_item 65 = .ok (.putfield 260, 3) := by decide +kernel
theorem dX8_item_68 : decode cX8_item 68 = .ok (.return_, 1) := by decide +kernel
theorem dX8_which_0 : decode cX8_which 0 = .ok (.iconst (-1), 1) := by decide +kernel
theorem dX8_which_1 : decode cX8_which 1 = .ok (.istore_n 2, 1) := by decide +kernel
theorem dX8_which_2 : decode cX8_which 2 = .ok (.iconst 0, 1) := by decide +kernel
theorem dX8_which_3 : decode cX8_which 3 = .ok (.istore_n 3, 1) := by decide +kernel
theorem dX8_which_4 : decode cX8_which 4 = .ok (.iload_n 3, 1) := by decide +kernel
theorem dX8_which_5 : decode cX8_which 5 = .ok (.aload_n 1, 1) := by decide +kernel
theorem dX8_which_6 : decode cX8_which 6 = .ok (.arraylength, 1) := by decide +kernel
theorem dX8_which_7 : decode cX8_which 7 = .ok (.if_icmp .ge 25, 3) := by decide +kernel
theorem dX8_which_10 : decode cX8_which 10 = .ok (.aload_n 0, 1) := by decide +kernel
theorem dX8_which_11 : decode cX8_which 11 = .ok (.aload_n 1, 1) := by decide +kernel
theorem dX8_which_12 : decode cX8_which 12 = .ok (.iload_n 3, 1) := by decide +kernel
theorem dX8_which_13 : decode cX8_which 13 = .ok (.aaload, 1) := by decide +kernel
theorem dX8_which_14 : decode cX8_which 14 = .ok (.invokevirtual 263, 3) := by decide +kernel
theorem dX8_which_17 : decode cX8_which 17 = .ok (.ifCond .eq 7, 3) := by decide +kernel
theorem dX8_which_20 : decode cX8_which 20 = .ok (.iload_n 3, 1) := by decide +kernel
theorem dX8_which_21 : decode cX8_which 21 = .ok (.goto 4, 3) := by decide +kernel
theorem dX8_which_24 : decode cX8_which 24 = .ok (.iload_n 2, 1) := by decide +kernel
theorem dX8_which_25 : decode cX8_which 25 = .ok (.istore_n 2, 1) := by decide +kernel
theorem dX8_which_26 : decode cX8_which 26 = .ok (.iinc 3 1, 3) := by decide +kernel
theorem dX8_which_29 : decode cX8_which 29 = .ok (.goto (-25), 3) := by decide +kernel
theorem dX8_which_32 : decode cX8_which 32 = .ok (.iload_n 2, 1) := by decide +kernel
theorem dX8_which_33 : decode cX8_which 33 = .ok (.ireturn, 1) := by decide +kernel
theorem dX8_perhaps_0 : decode cX8_perhaps 0 = .ok (.aload_n 0, 1) := by decide +kernel
theorem dX8_perhaps_1 : decode cX8_perhaps 1 = .ok (.getfield 250, 3) := by decide +kernel
theorem dX8_perhaps_4 : decode cX8_perhaps 4 = .ok (.ifCond .ne 11, 3) := by decide +kernel
theorem dX8_perhaps_7 : decode cX8_perhaps 7 = .ok (.aload_n 0, 1) := by decide +kernel
theorem dX8_perhaps_8 : decode cX8_perhaps 8 = .ok (.aload_n 1, 1) := by decide +kernel
theorem dX8_perhaps_9 : decode cX8_perhaps 9 = .ok (.invokevirtual 263, 3) := by decide +kernel
theorem dX8_perhaps_12 : decode cX8_perhaps 12 = .ok (.ifCond .ne 6, 3) := by decide +kernel
theorem dX8_perhaps_15 : decode cX8_perhaps 15 = .ok (.iload 4, 2) := by decide +kernel
theorem dX8_perhaps_17 : decode cX8_perhaps 17 = .ok (.ireturn, 1) := by decide +kernel
theorem dX8_perhaps_18 : decode cX8_perhaps 18 = .ok (.aload_n 0, 1) := by decide +kernel
theorem dX8_perhaps_19 : decode cX8_perhaps 19 = .ok (.iconst 1, 1) := by decide +kernel
theorem dX8_perhaps_20 : decode cX8_perhaps 20 = .ok (.invokevirtual 256, 3) := by decide +kernel
theorem dX8_perhaps_23 : decode cX8_perhaps 23 = .ok (.aload_n 0, 1) := by decide +kernel
theorem dX8_perhaps_24 : decode cX8_perhaps 24 = .ok (.iload_n 2, 1) := by decide +kernel
theorem dX8_perhaps_25 : decode cX8_perhaps 25 = .ok (.iload_n 3, 1) := by decide +kernel
theorem dX8_perhaps_26 : decode cX8_perhaps 26 = .ok (.invokevirtual 267, 3) := by decide +kernel
theorem dX8_perhaps_29 : decode cX8_perhaps 29 = .ok (.ireturn, 1) := by decide +kernel
theorem dX8_readItem_0 : decode cX8_readItem 0 = .ok (.aload_n 0, 1) := by decide +kernel
theorem dX8_readItem_1 : decode cX8_readItem 1 = .ok (.aload_n 0, 1) := by decide +kernel
theorem dX8_readItem_2 : decode cX8_readItem 2 = .ok (.getfield 69, 3) := by decide +kernel
theorem dX8_readItem_5 : decode cX8_readItem 5 = .ok (.invokevirtual 270, 3) := by decide +kernel
theorem dX8_readItem_8 : decode cX8_readItem 8 = .ok (.istore_n 1, 1) := by decide +kernel
theorem dX8_readItem_9 : decode cX8_readItem 9 = .ok (.aload_n 0, 1) := by decide +kernel
theorem dX8_readItem_10 : decode cX8_readItem 10 = .ok (.aload_n 0, 1) := by decide +kernel
theorem dX8_readItem_11 : decode cX8_readItem 11 = .ok (.getfield 79, 3) := by decide +kernel
theorem dX8_readItem_14 : decode cX8_readItem 14 = .ok (.invokevirtual 270, 3) := by decide +kernel
theorem dX8_readItem_17 : decode cX8_readItem 17 = .ok (.istore_n 2, 1) := by decide +kernel
theorem dX8_readItem_18 : decode cX8_readItem 18 = .ok (.iload_n 1, 1) := by decide +kernel
theorem dX8_readItem_19 : decode cX8_readItem 19 = .ok (.ifCond .lt 56, 3) := by decide +kernel
theorem dX8_readItem_22 : decode cX8_readItem 22 = .ok (.aload_n 0, 1) := by decide +kernel
theorem dX8_readItem_23 : decode cX8_readItem 23 = .ok (.aload_n 0, 1) := by decide +kernel
theorem dX8_readItem_24 : decode cX8_readItem 24 = .ok (.getfield 9, 3) := by decide +kernel
theorem dX8_readItem_27 : decode cX8_readItem 27 = .ok (.bipush 9, 2) := by decide +kernel
theorem dX8_readItem_29 : decode cX8_readItem 29 = .ok (.iaload, 1) := by decide +kernel
theorem dX8_readItem_30 : decode cX8_readItem 30 = .ok (.aload_n 0, 1) := by decide +kernel
theorem dX8_readItem_31 : decode cX8_readItem 31 = .ok (.getfield 274, 3) := by decide +kernel
theorem dX8_readItem_34 : decode cX8_readItem 34 = .ok (.iadd, 1) := by decide +kernel
theorem dX8_readItem_35 : decode cX8_readItem 35 = .ok (.bipush 8, 2) := by decide +kernel
theorem dX8_readItem_37 : decode cX8_readItem 37 = .ok (.if_icmp .ge 7, 3) := by decide +kernel
theorem dX8_readItem_40 : decode cX8_readItem 40 = .ok (.iconst 1, 1) := by decide +kernel
theorem dX8_readItem_41 : decode cX8_readItem 41 = .ok (.goto 4, 3) := by decide +kernel
theorem dX8_readItem_44 : decode cX8_readItem 44 = .ok (.iconst 0, 1) := by decide +kernel
theorem dX8_readItem_45 : decode cX8_readItem 45 = .ok (.invokevirtual 256, 3) := by decide +kernel
theorem dX8_readItem_48 : decode cX8_readItem 48 = .ok (.aload_n 0, 1) := by decide +kernel
theorem dX8_readItem_49 : decode cX8_readItem 49 = .ok (.dup, 1) := by decide +kernel
theorem dX8_readItem_50 : decode cX8_readItem 50 = .ok (.getfield 274, 3) := by decide +kernel
theorem dX8_readItem_53 : decode cX8_readItem 53 = .ok (.iconst 1, 1) := by decide +kernel
theorem dX8_readItem_54 : decode cX8_readItem 54 = .ok (.iadd, 1) := by decide +kernel
theorem dX8_readItem_55 : decode cX8_readItem 55 = .ok (.putfield 274, 3) := by decide +kernel
theorem dX8_readItem_58 : decode cX8_readItem 58 = .ok (.aload_n 0, 1) := by decide +kernel
theorem dX8_readItem_59 : decode cX8_readItem 59 = .ok (.iconst 0, 1) := by decide +kernel
theorem dX8_readItem_60 : decode cX8_readItem 60 = .ok (.iload_n 1, 1) := by decide +kernel
theorem dX8_readItem_61 : decode cX8_readItem 61 = .ok (.aload_n 0, 1) := by decide +kernel
theorem dX8_readItem_62 : decode cX8_readItem 62 = .ok (.iconst 0, 1) := by decide +kernel
theorem dX8_readItem_63 : decode cX8_readItem 63 = .ok (.iconst 3, 1) := by decide +kernel
theorem dX8_readItem_64 : decode cX8_readItem 64 = .ok (.invokevirtual 267, 3) := by decide +kernel
theorem dX8_readItem_67 : decode cX8_readItem 67 = .ok (.iconst 0, 1) := by decide +kernel
theorem dX8_readItem_68 : decode cX8_readItem 68 = .ok (.iconst 0, 1) := by decide +kernel
theorem dX8_readItem_69 : decode cX8_readItem 69 = .ok (.invokevirtual 277, 3) := by decide +kernel
theorem dX8_readItem_72 : decode cX8_readItem 72 = .ok (.goto 127, 3) := by decide +kernel
theorem dX8_readItem_75 : decode cX8_readItem 75 = .ok (.iload_n 2, 1) := by decide +kernel
theorem dX8_readItem_76 : decode cX8_readItem 76 = .ok (.ifCond .lt 11, 3) := by decide +kernel
theorem dX8_readItem_79 : decode cX8_readItem 79 = .ok (.aload_n 0, 1) := by decide +kernel
theorem dX8_readItem_80 : decode cX8_readItem 80 = .ok (.iload_n 2, 1) := by decide +kernel
theorem dX8_readItem_81 : decode cX8_readItem 81 = .ok (.invokevirtual 281, 3) := by decide +kernel
theorem dX8_readItem_84 : decode cX8_readItem 84 = .ok (.goto 115, 3) := by decide +kernel
theorem dX8_readItem_87 : decode cX8_readItem 87 = .ok (.aload_n 0, 1) := by decide +kernel
theorem dX8_readItem_88 : decode cX8_readItem 88 = .ok (.ldc_w 285, 3) := by decide +kernel
theorem dX8_readItem_91 : decode cX8_readItem 91 = .ok (.invokevirtual 263, 3) := by decide +kernel
theorem dX8_readItem_94 : decode cX8_readItem 94 = .ok (.ifCond .eq 10, 3) := by decide +kernel
theorem dX8_readItem_97 : decode cX8_readItem 97 = .ok (.aload_n 0, 1) := by decide +kernel
theorem dX8_readItem_98 : decode cX8_readItem 98 = .ok (.invokevirtual 287, 3) := by decide +kernel
theorem dX8_readItem_101 : decode cX8_readItem 101 = .ok (.goto 98, 3) := by decide +kernel
theorem dX8_readItem_104 : decode cX8_readItem 104 = .ok (.aload_n 0, 1) := by decide +kernel
theorem dX8_readItem_105 : decode cX8_readItem 105 = .ok (.ldc_w 290, 3) := by decide +kernel
theorem dX8_readItem_108 : decode cX8_readItem 108 = .ok (.invokevirtual 263, 3) := by decide +kernel
theorem dX8_readItem_111 : decode cX8_readItem 111 = .ok (.ifCond .eq 55, 3) := by decide +kernel
theorem dX8_readItem_114 : decode cX8_readItem 114 = .ok (.aload_n 0, 1) := by decide +kernel
theorem dX8_readItem_115 : decode cX8_readItem 115 = .ok (.iconst 1, 1) := by decide +kernel
theorem dX8_readItem_116 : decode cX8_readItem 116 = .ok (.invokevirtual 256, 3) := by decide +kernel
theorem dX8_readItem_119 : decode cX8_readItem 119 = .ok (.aload_n 0, 1) := by decide +kernel
theorem dX8_readItem_120 : decode cX8_readItem 120 = .ok (.iconst 0, 1) := by decide +kernel
theorem dX8_readItem_121 : decode cX8_readItem 121 = .ok (.sipush 400, 3) := by decide +kernel
theorem dX8_readItem_124 : decode cX8_readItem 124 = .ok (.invokevirtual 267, 3) := by decide +kernel
theorem dX8_readItem_127 : decode cX8_readItem 127 = .ok (.istore_n 3, 1) := by decide +kernel
theorem dX8_readItem_128 : decode cX8_readItem 128 = .ok (.aload_n 0, 1) := by decide +kernel
theorem dX8_readItem_129 : decode cX8_readItem 129 = .ok (.ldc_w 292, 3) := by decide +kernel
theorem dX8_readItem_132 : decode cX8_readItem 132 = .ok (.bipush 16, 2) := by decide +kernel
theorem dX8_readItem_134 : decode cX8_readItem 134 = .ok (.sipush 400, 3) := by decide +kernel
theorem dX8_readItem_137 : decode cX8_readItem 137 = .ok (.iconst (-1), 1) := by decide +kernel
theorem dX8_readItem_138 : decode cX8_readItem 138 = .ok (.invokevirtual 294, 3) := by decide +kernel
theorem dX8_readItem_141 : decode cX8_readItem 141 = .ok (.istore 4, 2) := by decide +kernel
theorem dX8_readItem_143 : decode cX8_readItem 143 = .ok (.aload_n 0, 1) := by decide +kernel
theorem dX8_readItem_144 : decode cX8_readItem 144 = .ok (.iconst 2, 1) := by decide +kernel
theorem dX8_readItem_145 : decode cX8_readItem 145 = .ok (.iload_n 3, 1) := by decide +kernel
theorem dX8_readItem_146 : decode cX8_readItem 146 = .ok (.iload 4, 2) := by decide +kernel
theorem dX8_readItem_148 : decode cX8_readItem 148 = .ok (.aload_n 0, 1) := by decide +kernel
theorem dX8_readItem_149 : decode cX8_readItem 149 = .ok (.ldc_w 298, 3) := by decide +kernel
theorem dX8_readItem_152 : decode cX8_readItem 152 = .ok (.iconst 1, 1) := by decide +kernel
theorem dX8_readItem_153 : decode cX8_readItem 153 = .ok (.bipush 7, 2) := by decide +kernel
theorem dX8_readItem_155 : decode cX8_readItem 155 = .ok (.iconst (-1), 1) := by decide +kernel
theorem dX8_readItem_156 : decode cX8_readItem 156 = .ok (.invokevirtual 294, 3) := by decide +kernel
theorem dX8_readItem_159 : decode cX8_readItem 159 = .ok (.iconst 0, 1) := by decide +kernel
theorem dX8_readItem_160 : decode cX8_readItem 160 = .ok (.invokevirtual 277, 3) := by decide +kernel
theorem dX8_readItem_163 : decode cX8_readItem 163 = .ok (.goto 36, 3) := by decide +kernel
theorem dX8_readItem_166 : decode cX8_readItem 166 = .ok (.aload_n 0, 1) := by decide +kernel
theorem dX8_readItem_167 : decode cX8_readItem 167 = .ok (.aload_n 0, 1) := by decide +kernel
theorem dX8_readItem_168 : decode cX8_readItem 168 = .ok (.ldc_w 299, 3) := by decide +kernel
theorem dX8_readItem_171 : decode cX8_readItem 171 = .ok (.invokevirtual 263, 3) := by decide +kernel
theorem dX8_readItem_174 : decode cX8_readItem 174 = .ok (.invokevirtual 256, 3) := by decide +kernel
theorem dX8_readItem_177 : decode cX8_readItem 177 = .ok (.aload_n 0, 1) := by decide +kernel
theorem dX8_readItem_178 : decode cX8_readItem 178 = .ok (.iconst 0, 1) := by decide +kernel
theorem dX8_readItem_179 : decode cX8_readItem 179 = .ok (.iconst 3, 1) := by decide +kernel
theorem dX8_readItem_180 : decode cX8_readItem 180 = .ok (.invokevirtual 267, 3) := by decide +kernel
theorem dX8_readItem_183 : decode cX8_readItem 183 = .ok (.istore_n 3, 1) := by decide +kernel
theorem dX8_readItem_184 : decode cX8_readItem 184 = .ok (.aload_n 0, 1) := by decide +kernel
theorem dX8_readItem_185 : decode cX8_readItem 185 = .ok (.iconst 4, 1) := by decide +kernel
theorem dX8_readItem_186 : decode cX8_readItem 186 = .ok (.iload_n 3, 1) := by decide +kernel
theorem dX8_readItem_187 : decode cX8_readItem 187 = .ok (.aload_n 0, 1) := by decide +kernel
theorem dX8_readItem_188 : decode cX8_readItem 188 = .ok (.iconst 0, 1) := by decide +kernel
theorem dX8_readItem_189 : decode cX8_readItem 189 = .ok (.bipush 9, 2) := by decide +kernel
theorem dX8_readItem_191 : decode cX8_readItem 191 = .ok (.invokevirtual 267, 3) := by decide +kernel
theorem dX8_readItem_194 : decode cX8_readItem 194 = .ok (.iconst 0, 1) := by decide +kernel
theorem dX8_readItem_195 : decode cX8_readItem 195 = .ok (.iconst 0, 1) := by decide +kernel
theorem dX8_readItem_196 : decode cX8_readItem 196 = .ok (.invokevirtual 277, 3) := by decide +kernel
theorem dX8_readItem_199 : decode cX8_readItem 199 = .ok (.return_, 1) := by decide +kernel
theorem dX8_readSet_0 : decode cX8_readSet 0 = .ok (.aload_n 0, 1) := by decide +kernel
theorem dX8_readSet_1 : decode cX8_readSet 1 = .ok (.iconst 1, 1) := by decide +kernel
theorem dX8_readSet_2 : decode cX8_readSet 2 = .ok (.invokevirtual 256, 3) := by decide +kernel
theorem dX8_readSet_5 : decode cX8_readSet 5 = .ok (.aload_n 0, 1) := by decide +kernel
theorem dX8_readSet_6 : decode cX8_readSet 6 = .ok (.iconst 0, 1) := by decide +kernel
theorem dX8_readSet_7 : decode cX8_readSet 7 = .ok (.bipush 29, 2) := by decide +kernel
theorem dX8_readSet_9 : decode cX8_readSet 9 = .ok (.invokevirtual 267, 3) := by decide +kernel
theorem dX8_readSet_12 : decode cX8_readSet 12 = .ok (.istore_n 2, 1) := by decide +kernel
theorem dX8_readSet_13 : decode cX8_readSet 13 = .ok (.aload_n 0, 1) := by decide +kernel
theorem dX8_readSet_14 : decode cX8_readSet 14 = .ok (.getfield 250, 3) := by decide +kernel
theorem dX8_readSet_17 : decode cX8_readSet 17 = .ok (.ifCond .eq 7, 3) := by decide +kernel
theorem dX8_readSet_20 : decode cX8_readSet 20 = .ok (.iconst 0, 1) := by decide +kernel
theorem dX8_readSet_21 : decode cX8_readSet 21 = .ok (.goto 6, 3) := by decide +kernel
theorem dX8_readSet_24 : decode cX8_readSet 24 = .ok (.iconst 1, 1) := by decide +kernel
theorem dX8_readSet_25 : decode cX8_readSet 25 = .ok (.iload_n 2, 1) := by decide +kernel
theorem dX8_readSet_26 : decode cX8_readSet 26 = .ok (.ishl, 1) := by decide +kernel
theorem dX8_readSet_27 : decode cX8_readSet 27 = .ok (.istore_n 3, 1) := by decide +kernel
theorem dX8_readSet_28 : decode cX8_readSet 28 = .ok (.aload_n 0, 1) := by decide +kernel
theorem dX8_readSet_29 : decode cX8_readSet 29 = .ok (.getfield 250, 3) := by decide +kernel
theorem dX8_readSet_32 : decode cX8_readSet 32 = .ok (.ifCond .ne 41, 3) := by decide +kernel
theorem dX8_readSet_35 : decode cX8_readSet 35 = .ok (.aload_n 0, 1) := by decide +kernel
theorem dX8_readSet_36 : decode cX8_readSet 36 = .ok (.getfield 239, 3) := by decide +kernel
theorem dX8_readSet_39 : decode cX8_readSet 39 = .ok (.iconst 2, 1) := by decide +kernel
theorem dX8_readSet_40 : decode cX8_readSet 40 = .ok (.if_icmp .ne 33, 3) := by decide +kernel
theorem dX8_readSet_43 : decode cX8_readSet 43 = .ok (.aload_n 0, 1) := by decide +kernel
theorem dX8_readSet_44 : decode cX8_readSet 44 = .ok (.iload_n 2, 1) := by decide +kernel
theorem dX8_readSet_45 : decode cX8_readSet 45 = .ok (.iconst 1, 1) := by decide +kernel
theorem dX8_readSet_46 : decode cX8_readSet 46 = .ok (.iadd, 1) := by decide +kernel
theorem dX8_readSet_47 : decode cX8_readSet 47 = .ok (.bipush 29, 2) := by decide +kernel
theorem dX8_readSet_49 : decode cX8_readSet 49 = .ok (.invokevirtual 267, 3) := by decide +kernel
theorem dX8_readSet_52 : decode cX8_readSet 52 = .ok (.istore_n 2, 1) := by decide +kernel
theorem dX8_readSet_53 : decode cX8_readSet 53 = .ok (.iload_n 3, 1) := by decide +kernel
theorem dX8_readSet_54 : decode cX8_readSet 54 = .ok (.aload_n 0, 1) := by decide +kernel
theorem dX8_readSet_55 : decode cX8_readSet 55 = .ok (.getfield 250, 3) := by decide +kernel
theorem dX8_readSet_58 : decode cX8_readSet 58 = .ok (.ifCond .eq 7, 3) := by decide +kernel
theorem dX8_readSet_61 : decode cX8_readSet 61 = .ok (.iconst 0, 1) := by decide +kernel
theorem dX8_readSet_62 : decode cX8_readSet 62 = .ok (.goto 6, 3) := by decide +kernel
theorem dX8_readSet_65 : decode cX8_readSet 65 = .ok (.iconst 1, 1) := by decide +kernel
theorem dX8_readSet_66 : decode cX8_readSet 66 = .ok (.iload_n 2, 1) := by decide +kernel
theorem dX8_readSet_67 : decode cX8_readSet 67 = .ok (.ishl, 1) := by decide +kernel
theorem dX8_readSet_68 : decode cX8_readSet 68 = .ok (.ior, 1) := by decide +kernel
theorem dX8_readSet_69 : decode cX8_readSet 69 = .ok (.istore_n 3, 1) := by decide +kernel
theorem dX8_readSet_70 : decode cX8_readSet 70 = .ok (.goto (-42), 3) := by decide +kernel
theorem dX8_readSet_73 : decode cX8_readSet 73 = .ok (.aload_n 0, 1) := by decide +kernel
theorem dX8_readSet_74 : decode cX8_readSet 74 = .ok (.iconst 3, 1) := by decide +kernel
theorem dX8_readSet_75 : decode cX8_readSet 75 = .ok (.iload_n 1, 1) := by decide +kernel
theorem dX8_readSet_76 : decode cX8_readSet 76 = .ok (.iload_n 3, 1) := by decide +kernel
theorem dX8_readSet_77 : decode cX8_readSet 77 = .ok (.iconst 0, 1) := by decide +kernel
theorem dX8_readSet_78 : decode cX8_readSet 78 = .ok (.iconst 0, 1) := by decide +kernel
theorem dX8_readSet_79 : decode cX8_readSet 79 = .ok (.invokevirtual 277, 3) := by decide +kernel
theorem dX8_readSet_82 : decode cX8_readSet 82 = .ok (.return_, 1) := by decide +kernel
theorem dX8_readShip_0 : decode cX8_readShip 0 = .ok (.aload_n 0, 1) := by decide +kernel
theorem dX8_readShip_1 : decode cX8_readShip 1 = .ok (.aload_n 0, 1) := by decide +kernel
theorem dX8_readShip_2 : decode cX8_readShip 2 = .ok (.getfield 9, 3) := by decide +kernel
theorem dX8_readShip_5 : decode cX8_readShip 5 = .ok (.bipush 10, 2) := by decide +kernel
theorem dX8_readShip_7 : decode cX8_readShip 7 = .ok (.iaload, 1) := by decide +kernel
theorem dX8_readShip_8 : decode cX8_readShip 8 = .ok (.aload_n 0, 1) := by decide +kernel
theorem dX8_readShip_9 : decode cX8_readShip 9 = .ok (.getfield 301, 3) := by decide +kernel
theorem dX8_readShip_12 : decode cX8_readShip 12 = .ok (.iadd, 1) := by decide +kernel
theorem dX8_readShip_13 : decode cX8_readShip 13 = .ok (.bipush 6, 2) := by decide +kernel
theorem dX8_readShip_15 : decode cX8_readShip 15 = .ok (.if_icmp .ge 7, 3) := by decide +kernel
theorem dX8_readShip_18 : decode cX8_readShip 18 = .ok (.iconst 1, 1) := by decide +kernel
theorem dX8_readShip_19 : decode cX8_readShip 19 = .ok (.goto 4, 3) := by decide +kernel
theorem dX8_readShip_22 : decode cX8_readShip 22 = .ok (.iconst 0, 1) := by decide +kernel
theorem dX8_readShip_23 : decode cX8_readShip 23 = .ok (.invokevirtual 256, 3) := by decide +kernel
theorem dX8_readShip_26 : decode cX8_readShip 26 = .ok (.aload_n 0, 1) := by decide +kernel
theorem dX8_readShip_27 : decode cX8_readShip 27 = .ok (.dup, 1) := by decide +kernel
theorem dX8_readShip_28 : decode cX8_readShip 28 = .ok (.getfield 301, 3) := by decide +kernel
theorem dX8_readShip_31 : decode cX8_readShip 31 = .ok (.iconst 1, 1) := by decide +kernel
theorem dX8_readShip_32 : decode cX8_readShip 32 = .ok (.iadd, 1) := by decide +kernel
theorem dX8_readShip_33 : decode cX8_readShip 33 = .ok (.putfield 301, 3) := by decide +kernel
theorem dX8_readShip_36 : decode cX8_readShip 36 = .ok (.aload_n 0, 1) := by decide +kernel
theorem dX8_readShip_37 : decode cX8_readShip 37 = .ok (.iconst 0, 1) := by decide +kernel
theorem dX8_readShip_38 : decode cX8_readShip 38 = .ok (.iconst 3, 1) := by decide +kernel
theorem dX8_readShip_39 : decode cX8_readShip 39 = .ok (.invokevirtual 267, 3) := by decide +kernel
theorem dX8_readShip_42 : decode cX8_readShip 42 = .ok (.istore_n 1, 1) := by decide +kernel
theorem dX8_readShip_43 : decode cX8_readShip 43 = .ok (.aload_n 0, 1) := by decide +kernel
theorem dX8_readShip_44 : decode cX8_readShip 44 = .ok (.aload_n 0, 1) := by decide +kernel
theorem dX8_readShip_45 : decode cX8_readShip 45 = .ok (.ldc_w 304, 3) := by decide +kernel
theorem dX8_readShip_48 : decode cX8_readShip 48 = .ok (.invokevirtual 263, 3) := by decide +kernel
theorem dX8_readShip_51 : decode cX8_readShip 51 = .ok (.invokevirtual 256, 3) := by decide +kernel
theorem dX8_readShip_54 : decode cX8_readShip 54 = .ok (.aload_n 0, 1) := by decide +kernel
theorem dX8_readShip_55 : decode cX8_readShip 55 = .ok (.iconst 0, 1) := by decide +kernel
theorem dX8_readShip_56 : decode cX8_readShip 56 = .ok (.sipush 9999, 3) := by decide +kernel
theorem dX8_readShip_59 : decode cX8_readShip 59 = .ok (.invokevirtual 267, 3) := by decide +kernel
theorem dX8_readShip_62 : decode cX8_readShip 62 = .ok (.istore_n 2, 1) := by decide +kernel
theorem dX8_readShip_63 : decode cX8_readShip 63 = .ok (.aload_n 0, 1) := by decide +kernel
theorem dX8_readShip_64 : decode cX8_readShip 64 = .ok (.aload_n 0, 1) := by decide +kernel
theorem dX8_readShip_65 : decode cX8_readShip 65 = .ok (.ldc_w 306, 3) := by decide +kernel
theorem dX8_readShip_68 : decode cX8_readShip 68 = .ok (.invokevirtual 263, 3) := by decide +kernel
theorem dX8_readShip_71 : decode cX8_readShip 71 = .ok (.invokevirtual 256, 3) := by decide +kernel
theorem dX8_readShip_74 : decode cX8_readShip 74 = .ok (.aload_n 0, 1) := by decide +kernel
theorem dX8_readShip_75 : decode cX8_readShip 75 = .ok (.iconst 1, 1) := by decide +kernel
theorem dX8_readShip_76 : decode cX8_readShip 76 = .ok (.bipush 40, 2) := by decide +kernel
theorem dX8_readShip_78 : decode cX8_readShip 78 = .ok (.invokevirtual 267, 3) := by decide +kernel
theorem dX8_readShip_81 : decode cX8_readShip 81 = .ok (.istore_n 3, 1) := by decide +kernel
theorem dX8_readShip_82 : decode cX8_readShip 82 = .ok (.aload_n 0, 1) := by decide +kernel
theorem dX8_readShip_83 : decode cX8_readShip 83 = .ok (.iconst 1, 1) := by decide +kernel
theorem dX8_readShip_84 : decode cX8_readShip 84 = .ok (.iload_n 1, 1) := by decide +kernel
theorem dX8_readShip_85 : decode cX8_readShip 85 = .ok (.iload_n 2, 1) := by decide +kernel
theorem dX8_readShip_86 : decode cX8_readShip 86 = .ok (.iload_n 3, 1) := by decide +kernel
theorem dX8_readShip_87 : decode cX8_readShip 87 = .ok (.aload_n 0, 1) := by decide +kernel
theorem dX8_readShip_88 : decode cX8_readShip 88 = .ok (.ldc_w 308, 3) := by decide +kernel
theorem dX8_readShip_91 : decode cX8_readShip 91 = .ok (.iconst 0, 1) := by decide +kernel
theorem dX8_readShip_92 : decode cX8_readShip 92 = .ok (.iconst 3, 1) := by decide +kernel
theorem dX8_readShip_93 : decode cX8_readShip 93 = .ok (.iconst (-1), 1) := by decide +kernel
theorem dX8_readShip_94 : decode cX8_readShip 94 = .ok (.invokevirtual 294, 3) := by decide +kernel
theorem dX8_readShip_97 : decode cX8_readShip 97 = .ok (.invokevirtual 277, 3) := by decide +kernel
theorem dX8_readShip_100 : decode cX8_readShip 100 = .ok (.return_, 1) := by decide +kernel
theorem dX8_isSo_0 : decode cX8_isSo 0 = .ok (.aload_n 0, 1) := by decide +kernel
theorem dX8_isSo_1 : decode cX8_isSo 1 = .ok (.getfield 82, 3) := by decide +kernel
theorem dX8_isSo_4 : decode cX8_isSo 4 = .ok (.iload_n 1, 1) := by decide +kernel
theorem dX8_isSo_5 : decode cX8_isSo 5 = .ok (.iconst 1, 1) := by decide +kernel
theorem dX8_isSo_6 : decode cX8_isSo 6 = .ok (.iadd, 1) := by decide +kernel
theorem dX8_isSo_7 : decode cX8_isSo 7 = .ok (.iaload, 1) := by decide +kernel
theorem dX8_isSo_8 : decode cX8_isSo 8 = .ok (.istore_n 2, 1) := by decide +kernel
theorem dX8_isSo_9 : decode cX8_isSo 9 = .ok (.aload_n 0, 1) := by decide +kernel
theorem dX8_isSo_10 : decode cX8_isSo 10 = .ok (.getfield 82, 3) := by decide +kernel
theorem dX8_isSo_13 : decode cX8_isSo 13 = .ok (.iload_n 1, 1) := by decide +kernel
theorem dX8_isSo_14 : decode cX8_isSo 14 = .ok (.iconst 2, 1) := by decide +kernel
theorem dX8_isSo_15 : decode cX8_isSo 15 = .ok (.iadd, 1) := by decide +kernel
theorem dX8_isSo_16 : decode cX8_isSo 16 = .ok (.iaload, 1) := by decide +kernel
theorem dX8_isSo_17 : decode cX8_isSo 17 = .ok (.istore_n 3, 1) := by decide +kernel
theorem dX8_isSo_18 : decode cX8_isSo 18 = .ok (.aload_n 0, 1) := by decide +kernel
theorem dX8_isSo_19 : decode cX8_isSo 19 = .ok (.getfield 82, 3) := by decide +kernel
theorem dX8_isSo_22 : decode cX8_isSo 22 = .ok (.iload_n 1, 1) := by decide +kernel
theorem dX8_isSo_23 : decode cX8_isSo 23 = .ok (.iconst 3, 1) := by decide +kernel
theorem dX8_isSo_24 : decode cX8_isSo 24 = .ok (.iadd, 1) := by decide +kernel
theorem dX8_isSo_25 : decode cX8_isSo 25 = .ok (.iaload, 1) := by decide +kernel
theorem dX8_isSo_26 : decode cX8_isSo 26 = .ok (.istore 4, 2) := by decide +kernel
theorem dX8_isSo_28 : decode cX8_isSo 28 = .ok (.aload_n 0, 1) := by decide +kernel
theorem dX8_isSo_29 : decode cX8_isSo 29 = .ok (.getfield 82, 3) := by decide +kernel
theorem dX8_isSo_32 : decode cX8_isSo 32 = .ok (.iload_n 1, 1) := by decide +kernel
theorem dX8_isSo_33 : decode cX8_isSo 33 = .ok (.iaload, 1) := by decide +kernel
theorem dX8_isSo_34 : decode cX8_isSo 34 = .ok (.tableswitch 126 0 3 #[30, 41, 62, 114], 30) := by decide +kernel
theorem dX8_isSo_64 : decode cX8_isSo 64 = .ok (.aload_n 0, 1) := by decide +kernel
theorem dX8_isSo_65 : decode cX8_isSo 65 = .ok (.iload_n 2, 1) := by decide +kernel
theorem dX8_isSo_66 : decode cX8_isSo 66 = .ok (.iload_n 3, 1) := by decide +kernel
theorem dX8_isSo_67 : decode cX8_isSo 67 = .ok (.invokevirtual 154, 3) := by decide +kernel
theorem dX8_isSo_70 : decode cX8_isSo 70 = .ok (.istore 5, 2) := by decide +kernel
theorem dX8_isSo_72 : decode cX8_isSo 72 = .ok (.goto 104, 3) := by decide +kernel
theorem dX8_isSo_75 : decode cX8_isSo 75 = .ok (.aload_n 0, 1) := by decide +kernel
theorem dX8_isSo_76 : decode cX8_isSo 76 = .ok (.iload_n 2, 1) := by decide +kernel
theorem dX8_isSo_77 : decode cX8_isSo 77 = .ok (.iload_n 3, 1) := by decide +kernel
theorem dX8_isSo_78 : decode cX8_isSo 78 = .ok (.iload 4, 2) := by decide +kernel
theorem dX8_isSo_80 : decode cX8_isSo 80 = .ok (.aload_n 0, 1) := by decide +kernel
theorem dX8_isSo_81 : decode cX8_isSo 81 = .ok (.getfield 82, 3) := by decide +kernel
theorem dX8_isSo_84 : decode cX8_isSo 84 = .ok (.iload_n 1, 1) := by decide +kernel
theorem dX8_isSo_85 : decode cX8_isSo 85 = .ok (.iconst 4, 1) := by decide +kernel
theorem dX8_isSo_86 : decode cX8_isSo 86 = .ok (.iadd, 1) := by decide +kernel
theorem dX8_isSo_87 : decode cX8_isSo 87 = .ok (.iaload, 1) := by decide +kernel
theorem dX8_isSo_88 : decode cX8_isSo 88 = .ok (.invokevirtual 187, 3) := by decide +kernel
theorem dX8_isSo_91 : decode cX8_isSo 91 = .ok (.istore 5, 2) := by decide +kernel
theorem dX8_isSo_93 : decode cX8_isSo 93 = .ok (.goto 83, 3) := by decide +kernel
theorem dX8_isSo_96 : decode cX8_isSo 96 = .ok (.aload_n 0, 1) := by decide +kernel
theorem dX8_isSo_97 : decode cX8_isSo 97 = .ok (.getfield 9, 3) := by decide +kernel
theorem dX8_isSo_100 : decode cX8_isSo 100 = .ok (.iconst 0, 1) := by decide +kernel
theorem dX8_isSo_101 : decode cX8_isSo 101 = .ok (.iload_n 2, 1) := by decide +kernel
theorem dX8_isSo_102 : decode cX8_isSo 102 = .ok (.iastore, 1) := by decide +kernel
theorem dX8_isSo_103 : decode cX8_isSo 103 = .ok (.aload_n 0, 1) := by decide +kernel
theorem dX8_isSo_104 : decode cX8_isSo 104 = .ok (.getfield 9, 3) := by decide +kernel
theorem dX8_isSo_107 : decode cX8_isSo 107 = .ok (.iconst 1, 1) := by decide +kernel
theorem dX8_isSo_108 : decode cX8_isSo 108 = .ok (.iload_n 3, 1) := by decide +kernel
theorem dX8_isSo_109 : decode cX8_isSo 109 = .ok (.ifCond .ge 12, 3) := by decide +kernel
theorem dX8_isSo_112 : decode cX8_isSo 112 = .ok (.aload_n 0, 1) := by decide +kernel
theorem dX8_isSo_113 : decode cX8_isSo 113 = .ok (.getfield 9, 3) := by decide +kernel
theorem dX8_isSo_116 : decode cX8_isSo 116 = .ok (.iconst 1, 1) := by decide +kernel
theorem dX8_isSo_117 : decode cX8_isSo 117 = .ok (.iaload, 1) := by decide +kernel
theorem dX8_isSo_118 : decode cX8_isSo 118 = .ok (.goto 4, 3) := by decide +kernel
theorem dX8_isSo_121 : decode cX8_isSo 121 = .ok (.iload_n 3, 1) := by decide +kernel
theorem dX8_isSo_122 : decode cX8_isSo 122 = .ok (.iastore, 1) := by decide +kernel
theorem dX8_isSo_123 : decode cX8_isSo 123 = .ok (.aload_n 0, 1) := by decide +kernel
theorem dX8_isSo_124 : decode cX8_isSo 124 = .ok (.getfield 9, 3) := by decide +kernel
theorem dX8_isSo_127 : decode cX8_isSo 127 = .ok (.iconst 2, 1) := by decide +kernel
theorem dX8_isSo_128 : decode cX8_isSo 128 = .ok (.iload 4, 2) := by decide +kernel
theorem dX8_isSo_130 : decode cX8_isSo 130 = .ok (.ifCond .ge 12, 3) := by decide +kernel
theorem dX8_isSo_133 : decode cX8_isSo 133 = .ok (.aload_n 0, 1) := by decide +kernel
theorem dX8_isSo_134 : decode cX8_isSo 134 = .ok (.getfield 9, 3) := by decide +kernel
theorem dX8_isSo_137 : decode cX8_isSo 137 = .ok (.iconst 2, 1) := by decide +kernel
theorem dX8_isSo_138 : decode cX8_isSo 138 = .ok (.iaload, 1) := by decide +kernel
theorem dX8_isSo_139 : decode cX8_isSo 139 = .ok (.goto 5, 3) := by decide +kernel
theorem dX8_isSo_142 : decode cX8_isSo 142 = .ok (.iload 4, 2) := by decide +kernel
theorem dX8_isSo_144 : decode cX8_isSo 144 = .ok (.iastore, 1) := by decide +kernel
theorem dX8_isSo_145 : decode cX8_isSo 145 = .ok (.goto 31, 3) := by decide +kernel
theorem dX8_isSo_148 : decode cX8_isSo 148 = .ok (.aload_n 0, 1) := by decide +kernel
theorem dX8_isSo_149 : decode cX8_isSo 149 = .ok (.getfield 9, 3) := by decide +kernel
theorem dX8_isSo_152 : decode cX8_isSo 152 = .ok (.iconst 4, 1) := by decide +kernel
theorem dX8_isSo_153 : decode cX8_isSo 153 = .ok (.iload_n 2, 1) := by decide +kernel
theorem dX8_isSo_154 : decode cX8_isSo 154 = .ok (.iadd, 1) := by decide +kernel
theorem dX8_isSo_155 : decode cX8_isSo 155 = .ok (.iload_n 3, 1) := by decide +kernel
theorem dX8_isSo_156 : decode cX8_isSo 156 = .ok (.iastore, 1) := by decide +kernel
theorem dX8_isSo_157 : decode cX8_isSo 157 = .ok (.goto 19, 3) := by decide +kernel
theorem dX8_isSo_160 : decode cX8_isSo 160 = .ok (.aload_n 0, 1) := by decide +kernel
theorem dX8_isSo_161 : decode cX8_isSo 161 = .ok (.getfield 9, 3) := by decide +kernel
theorem dX8_isSo_164 : decode cX8_isSo 164 = .ok (.bipush 7, 2) := by decide +kernel
theorem dX8_isSo_166 : decode cX8_isSo 166 = .ok (.iload_n 2, 1) := by decide +kernel
theorem dX8_isSo_167 : decode cX8_isSo 167 = .ok (.iastore, 1) := by decide +kernel
theorem dX8_isSo_168 : decode cX8_isSo 168 = .ok (.aload_n 0, 1) := by decide +kernel
theorem dX8_isSo_169 : decode cX8_isSo 169 = .ok (.getfield 9, 3) := by decide +kernel
theorem dX8_isSo_172 : decode cX8_isSo 172 = .ok (.bipush 8, 2) := by decide +kernel
theorem dX8_isSo_174 : decode cX8_isSo 174 = .ok (.iload_n 3, 1) := by decide +kernel
theorem dX8_isSo_175 : decode cX8_isSo 175 = .ok (.iastore, 1) := by decide +kernel
theorem dX8_isSo_176 : decode cX8_isSo 176 = .ok (.return_, 1) := by decide +kernel
theorem dX8_island_0 : decode cX8_island 0 = .ok (.aload_n 0, 1) := by decide +kernel
theorem dX8_island_1 : decode cX8_island 1 = .ok (.iconst 0, 1) := by decide +kernel
theorem dX8_island_2 : decode cX8_island 2 = .ok (.putfield 227, 3) := by decide +kernel
theorem dX8_island_5 : decode cX8_island 5 = .ok (.aload_n 0, 1) := by decide +kernel
theorem dX8_island_6 : decode cX8_island 6 = .ok (.iconst 0, 1) := by decide +kernel
theorem dX8_island_7 : decode cX8_island 7 = .ok (.putfield 250, 3) := by decide +kernel
theorem dX8_island_10 : decode cX8_island 10 = .ok (.aload_n 0, 1) := by decide +kernel
theorem dX8_island_11 : decode cX8_island 11 = .ok (.iconst 0, 1) := by decide +kernel
theorem dX8_island_12 : decode cX8_island 12 = .ok (.putfield 260, 3) := by decide +kernel
theorem dX8_island_15 : decode cX8_island 15 = .ok (.aload_n 0, 1) := by decide +kernel
theorem dX8_island_16 : decode cX8_island 16 = .ok (.iconst 0, 1) := by decide +kernel
theorem dX8_island_17 : decode cX8_island 17 = .ok (.putfield 274, 3) := by decide +kernel
theorem dX8_island_20 : decode cX8_island 20 = .ok (.aload_n 0, 1) := by decide +kernel
theorem dX8_island_21 : decode cX8_island 21 = .ok (.iconst 0, 1) := by decide +kernel
theorem dX8_island_22 : decode cX8_island 22 = .ok (.putfield 301, 3) := by decide +kernel
theorem dX8_island_25 : decode cX8_island 25 = .ok (.aload_n 0, 1) := by decide +kernel
theorem dX8_island_26 : decode cX8_island 26 = .ok (.invokevirtual 253, 3) := by decide +kernel
theorem dX8_island_29 : decode cX8_island 29 = .ok (.aload_n 0, 1) := by decide +kernel
theorem dX8_island_30 : decode cX8_island 30 = .ok (.invokevirtual 310, 3) := by decide +kernel
theorem dX8_island_33 : decode cX8_island 33 = .ok (.aload_n 0, 1) := by decide +kernel
theorem dX8_island_34 : decode cX8_island 34 = .ok (.getfield 250, 3) := by decide +kernel
theorem dX8_island_37 : decode cX8_island 37 = .ok (.ifCond .ne 37, 3) := by decide +kernel
theorem dX8_island_40 : decode cX8_island 40 = .ok (.aload_n 0, 1) := by decide +kernel
theorem dX8_island_41 : decode cX8_island 41 = .ok (.getfield 239, 3) := by decide +kernel
theorem dX8_island_44 : decode cX8_island 44 = .ok (.iconst 3, 1) := by decide +kernel
theorem dX8_island_45 : decode cX8_island 45 = .ok (.if_icmp .ne 29, 3) := by decide +kernel
theorem dX8_island_48 : decode cX8_island 48 = .ok (.aload_n 0, 1) := by decide +kernel
theorem dX8_island_49 : decode cX8_island 49 = .ok (.getfield 52, 3) := by decide +kernel
theorem dX8_island_52 : decode cX8_island 52 = .ok (.aload_n 0, 1) := by decide +kernel
theorem dX8_island_53 : decode cX8_island 53 = .ok (.getfield 230, 3) := by decide +kernel
theorem dX8_island_56 : decode cX8_island 56 = .ok (.iaload, 1) := by decide +kernel
theorem dX8_island_57 : decode cX8_island 57 = .ok (.bipush 59, 2) := by decide +kernel
theorem dX8_island_59 : decode cX8_island 59 = .ok (.if_icmp .ne 15, 3) := by decide +kernel
theorem dX8_island_62 : decode cX8_island 62 = .ok (.aload_n 0, 1) := by decide +kernel
theorem dX8_island_63 : decode cX8_island 63 = .ok (.iconst 1, 1) := by decide +kernel
theorem dX8_island_64 : decode cX8_island 64 = .ok (.invokevirtual 256, 3) := by decide +kernel
theorem dX8_island_67 : decode cX8_island 67 = .ok (.aload_n 0, 1) := by decide +kernel
theorem dX8_island_68 : decode cX8_island 68 = .ok (.invokevirtual 310, 3) := by decide +kernel
theorem dX8_island_71 : decode cX8_island 71 = .ok (.goto (-38), 3) := by decide +kernel
theorem dX8_island_74 : decode cX8_island 74 = .ok (.aload_n 0, 1) := by decide +kernel
theorem dX8_island_75 : decode cX8_island 75 = .ok (.aload_n 0, 1) := by decide +kernel
theorem dX8_island_76 : decode cX8_island 76 = .ok (.getfield 239, 3) := by decide +kernel
theorem dX8_island_79 : decode cX8_island 79 = .ok (.ifCond .ne 7, 3) := by decide +kernel
theorem dX8_island_82 : decode cX8_island 82 = .ok (.iconst 1, 1) := by decide +kernel
theorem dX8_island_83 : decode cX8_island 83 = .ok (.goto 4, 3) := by decide +kernel
theorem dX8_island_86 : decode cX8_island 86 = .ok (.iconst 0, 1) := by decide +kernel
theorem dX8_island_87 : decode cX8_island 87 = .ok (.invokevirtual 256, 3) := by decide +kernel
theorem dX8_island_90 : decode cX8_island 90 = .ok (.aload_n 0, 1) := by decide +kernel
theorem dX8_island_91 : decode cX8_island 91 = .ok (.iconst 0, 1) := by decide +kernel
theorem dX8_island_92 : decode cX8_island 92 = .ok (.putfield 224, 3) := by decide +kernel
theorem dX8_island_95 : decode cX8_island 95 = .ok (.aload_n 0, 1) := by decide +kernel
theorem dX8_island_96 : decode cX8_island 96 = .ok (.getfield 250, 3) := by decide +kernel
theorem dX8_island_99 : decode cX8_island 99 = .ok (.ifCond .eq 10, 3) := by decide +kernel
theorem dX8_island_102 : decode cX8_island 102 = .ok (.iconst (-1), 1) := by decide +kernel
theorem dX8_island_103 : decode cX8_island 103 = .ok (.aload_n 0, 1) := by decide +kernel
theorem dX8_island_104 : decode cX8_island 104 = .ok (.getfield 230, 3) := by decide +kernel
theorem dX8_island_107 : decode cX8_island 107 = .ok (.isub, 1) := by decide +kernel
theorem dX8_island_108 : decode cX8_island 108 = .ok (.ireturn, 1) := by decide +kernel
theorem dX8_island_109 : decode cX8_island 109 = .ok (.iconst 0, 1) := by decide +kernel
theorem dX8_island_110 : decode cX8_island 110 = .ok (.istore_n 1, 1) := by decide +kernel
theorem dX8_island_111 : decode cX8_island 111 = .ok (.iload_n 1, 1) := by decide +kernel
theorem dX8_island_112 : decode cX8_island 112 = .ok (.aload_n 0, 1) := by decide +kernel
theorem dX8_island_113 : decode cX8_island 113 = .ok (.getfield 260, 3) := by decide +kernel
theorem dX8_island_116 : decode cX8_island 116 = .ok (.if_icmp .ge 16, 3) := by decide +kernel
theorem dX8_island_119 : decode cX8_island 119 = .ok (.aload_n 0, 1) := by decide +kernel
theorem dX8_island_120 : decode cX8_island 120 = .ok (.iconst 5, 1) := by decide +kernel
theorem dX8_island_121 : decode cX8_island 121 = .ok (.iload_n 1, 1) := by decide +kernel
theorem dX8_island_122 : decode cX8_island 122 = .ok (.imul, 1) := by decide +kernel
theorem dX8_island_123 : decode cX8_island 123 = .ok (.invokevirtual 313, 3) := by decide +kernel
theorem dX8_island_126 : decode cX8_island 126 = .ok (.iinc 1 1, 3) := by decide +kernel
theorem dX8_island_129 : decode cX8_island 129 = .ok (.goto (-18), 3) := by decide +kernel
theorem dX8_island_132 : decode cX8_island 132 = .ok (.aload_n 0, 1) := by decide +kernel
theorem dX8_island_133 : decode cX8_island 133 = .ok (.iconst 0, 1) := by decide +kernel
theorem dX8_island_134 : decode cX8_island 134 = .ok (.putfield 114, 3) := by decide +kernel
theorem dX8_island_137 : decode cX8_island 137 = .ok (.aload_n 0, 1) := by decide +kernel
theorem dX8_island_138 : decode cX8_island 138 = .ok (.getfield 260, 3) := by decide +kernel
theorem dX8_island_141 : decode cX8_island 141 = .ok (.ireturn, 1) := by decide +kernel
theorem dX8_isSheet_0 : decode cX8_isSheet 0 = .ok (.iload_n 0, 1) := by decide +kernel
theorem dX8_isSheet_1 : decode cX8_isSheet 1 = .ok (.iconst 0, 1) := by decide +kernel
theorem dX8_isSheet_2 : decode cX8_isSheet 2 = .ok (.iconst 3, 1) := by decide +kernel
theorem dX8_isSheet_3 : decode cX8_isSheet 3 = .ok (.invokestatic 121, 3) := by decide +kernel
theorem dX8_isSheet_6 : decode cX8_isSheet 6 = .ok (.ireturn, 1) := by decide +kernel
theorem dX8_cutTo_0 : decode cX8_cutTo 0 = .ok (.iload_n 2, 1) := by decide +kernel
theorem dX8_cutTo_1 : decode cX8_cutTo 1 = .ok (.bipush 8, 2) := by decide +kernel
theorem dX8_cutTo_3 : decode cX8_cutTo 3 = .ok (.if_icmp .ne 10, 3) := by decide +kernel
theorem dX8_cutTo_6 : decode cX8_cutTo 6 = .ok (.lload_n 0, 1) := by decide +kernel
theorem dX8_cutTo_7 : decode cX8_cutTo 7 = .ok (.l2i, 1) := by decide +kernel
theorem dX8_cutTo_8 : decode cX8_cutTo 8 = .ok (.i2b, 1) := by decide +kernel
theorem dX8_cutTo_9 : decode cX8_cutTo 9 = .ok (.i2l, 1) := by decide +kernel
theorem dX8_cutTo_10 : decode cX8_cutTo 10 = .ok (.goto 17, 3) := by decide +kernel
theorem dX8_cutTo_13 : decode cX8_cutTo 13 = .ok (.iload_n 2, 1) := by decide +kernel
theorem dX8_cutTo_14 : decode cX8_cutTo 14 = .ok (.bipush 16, 2) := by decide +kernel
theorem dX8_cutTo_16 : decode cX8_cutTo 16 = .ok (.if_icmp .ne 10, 3) := by decide +kernel
theorem dX8_cutTo_19 : decode cX8_cutTo 19 = .ok (.lload_n 0, 1) := by decide +kernel
theorem dX8_cutTo_20 : decode cX8_cutTo 20 = .ok (.l2i, 1) := by decide +kernel
theorem dX8_cutTo_21 : decode cX8_cutTo 21 = .ok (.i2s, 1) := by decide +kernel
theorem dX8_cutTo_22 : decode cX8_cutTo 22 = .ok (.i2l, 1) := by decide +kernel
theorem dX8_cutTo_23 : decode cX8_cutTo 23 = .ok (.goto 4, 3) := by decide +kernel
theorem dX8_cutTo_26 : decode cX8_cutTo 26 = .ok (.lload_n 0, 1) := by decide +kernel
theorem dX8_cutTo_27 : decode cX8_cutTo 27 = .ok (.lreturn, 1) := by decide +kernel
theorem dX8_sheet_0 : decode cX8_sheet 0 = .ok (.iload_n 1, 1) := by decide +kernel
theorem dX8_sheet_1 : decode cX8_sheet 1 = .ok (.invokestatic 316, 3) := by decide +kernel
theorem dX8_sheet_4 : decode cX8_sheet 4 = .ok (.ifCond .eq 25, 3) := by decide +kernel
theorem dX8_sheet_7 : decode cX8_sheet 7 = .ok (.iload_n 2, 1) := by decide +kernel
theorem dX8_sheet_8 : decode cX8_sheet 8 = .ok (.ifCond .eq 28, 3) := by decide +kernel
theorem dX8_sheet_11 : decode cX8_sheet 11 = .ok (.iload_n 2, 1) := by decide +kernel
theorem dX8_sheet_12 : decode cX8_sheet 12 = .ok (.bipush 8, 2) := by decide +kernel
theorem dX8_sheet_14 : decode cX8_sheet 14 = .ok (.if_icmp .eq 22, 3) := by decide +kernel
theorem dX8_sheet_17 : decode cX8_sheet 17 = .ok (.iload_n 2, 1) := by decide +kernel
theorem dX8_sheet_18 : decode cX8_sheet 18 = .ok (.bipush 16, 2) := by decide +kernel
theorem dX8_sheet_20 : decode cX8_sheet 20 = .ok (.if_icmp .eq 16, 3) := by decide +kernel
theorem dX8_sheet_23 : decode cX8_sheet 23 = .ok (.iload_n 2, 1) := by decide +kernel
theorem dX8_sheet_24 : decode cX8_sheet 24 = .ok (.bipush 64, 2) := by decide +kernel
theorem dX8_sheet_26 : decode cX8_sheet 26 = .ok (.if_icmp .eq 10, 3) := by decide +kernel
theorem dX8_sheet_29 : decode cX8_sheet 29 = .ok (.aload_n 0, 1) := by decide +kernel
theorem dX8_sheet_30 : decode cX8_sheet 30 = .ok (.ldc 98, 2) := by decide +kernel
theorem dX8_sheet_32 : decode cX8_sheet 32 = .ok (.invokevirtual 125, 3) := by decide +kernel
theorem dX8_sheet_35 : decode cX8_sheet 35 = .ok (.ireturn, 1) := by decide +kernel
theorem dX8_sheet_36 : decode cX8_sheet 36 = .ok (.iload_n 3, 1) := by decide +kernel
theorem dX8_sheet_37 : decode cX8_sheet 37 = .ok (.ifCond .ge 11, 3) := by decide +kernel
theorem dX8_sheet_40 : decode cX8_sheet 40 = .ok (.aload_n 0, 1) := by decide +kernel
theorem dX8_sheet_41 : decode cX8_sheet 41 = .ok (.ldc_w 319, 3) := by decide +kernel
theorem dX8_sheet_44 : decode cX8_sheet 44 = .ok (.invokevirtual 125, 3) := by decide +kernel
theorem dX8_sheet_47 : decode cX8_sheet 47 = .ok (.ireturn, 1) := by decide +kernel
theorem dX8_sheet_48 : decode cX8_sheet 48 = .ok (.iload_n 3, 1) := by decide +kernel
theorem dX8_sheet_49 : decode cX8_sheet 49 = .ok (.bipush 40, 2) := by decide +kernel
theorem dX8_sheet_51 : decode cX8_sheet 51 = .ok (.if_icmp .le 10, 3) := by decide +kernel
theorem dX8_sheet_54 : decode cX8_sheet 54 = .ok (.aload_n 0, 1) := by decide +kernel
theorem dX8_sheet_55 : decode cX8_sheet 55 = .ok (.ldc 98, 2) := by decide +kernel
theorem dX8_sheet_57 : decode cX8_sheet 57 = .ok (.invokevirtual 125, 3) := by decide +kernel
theorem dX8_sheet_60 : decode cX8_sheet 60 = .ok (.ireturn, 1) := by decide +kernel
theorem dX8_sheet_61 : decode cX8_sheet 61 = .ok (.aload_n 0, 1) := by decide +kernel
theorem dX8_sheet_62 : decode cX8_sheet 62 = .ok (.getfield 85, 3) := by decide +kernel
theorem dX8_sheet_65 : decode cX8_sheet 65 = .ok (.iload_n 1, 1) := by decide +kernel
theorem dX8_sheet_66 : decode cX8_sheet 66 = .ok (.iload_n 2, 1) := by decide +kernel
theorem dX8_sheet_67 : decode cX8_sheet 67 = .ok (.iastore, 1) := by decide +kernel
theorem dX8_sheet_68 : decode cX8_sheet 68 = .ok (.aload_n 0, 1) := by decide +kernel
theorem dX8_sheet_69 : decode cX8_sheet 69 = .ok (.getfield 88, 3) := by decide +kernel
theorem dX8_sheet_72 : decode cX8_sheet 72 = .ok (.iload_n 1, 1) := by decide +kernel
theorem dX8_sheet_73 : decode cX8_sheet 73 = .ok (.iload_n 2, 1) := by decide +kernel
theorem dX8_sheet_74 : decode cX8_sheet 74 = .ok (.ifCond .ne 7, 3) := by decide +kernel
theorem dX8_sheet_77 : decode cX8_sheet 77 = .ok (.iconst 0, 1) := by decide +kernel
theorem dX8_sheet_78 : decode cX8_sheet 78 = .ok (.goto 4, 3) := by decide +kernel
theorem dX8_sheet_81 : decode cX8_sheet 81 = .ok (.iload_n 3, 1) := by decide +kernel
theorem dX8_sheet_82 : decode cX8_sheet 82 = .ok (.iastore, 1) := by decide +kernel
theorem dX8_sheet_83 : decode cX8_sheet 83 = .ok (.iconst 0, 1) := by decide +kernel
theorem dX8_sheet_84 : decode cX8_sheet 84 = .ok (.istore 4, 2) := by decide +kernel
theorem dX8_sheet_86 : decode cX8_sheet 86 = .ok (.iload 4, 2) := by decide +kernel
theorem dX8_sheet_88 : decode cX8_sheet 88 = .ok (.bipush 40, 2) := by decide +kernel
theorem dX8_sheet_90 : decode cX8_sheet 90 = .ok (.if_icmp .ge 22, 3) := by decide +kernel
theorem dX8_sheet_93 : decode cX8_sheet 93 = .ok (.aload_n 0, 1) := by decide +kernel
theorem dX8_sheet_94 : decode cX8_sheet 94 = .ok (.getfield 91, 3) := by decide +kernel
theorem dX8_sheet_97 : decode cX8_sheet 97 = .ok (.bipush 40, 2) := by decide +kernel
theorem dX8_sheet_99 : decode cX8_sheet 99 = .ok (.iload_n 1, 1) := by decide +kernel
theorem dX8_sheet_100 : decode cX8_sheet 100 = .ok (.imul, 1) := by decide +kernel
theorem dX8_sheet_101 : decode cX8_sheet 101 = .ok (.iload 4, 2) := by decide +kernel
theorem dX8_sheet_103 : decode cX8_sheet 103 = .ok (.iadd, 1) := by decide +kernel
theorem dX8_sheet_104 : decode cX8_sheet 104 = .ok (.lconst 0, 1) := by decide +kernel
theorem dX8_sheet_105 : decode cX8_sheet 105 = .ok (.lastore, 1) := by decide +kernel
theorem dX8_sheet_106 : decode cX8_sheet 106 = .ok (.iinc 4 1, 3) := by decide +kernel
theorem dX8_sheet_109 : decode cX8_sheet 109 = .ok (.goto (-23), 3) := by decide +kernel
theorem dX8_sheet_112 : decode cX8_sheet 112 = .ok (.aload_n 0, 1) := by decide +kernel
theorem dX8_sheet_113 : decode cX8_sheet 113 = .ok (.getfield 88, 3) := by decide +kernel
theorem dX8_sheet_116 : decode cX8_sheet 116 = .ok (.iload_n 1, 1) := by decide +kernel
theorem dX8_sheet_117 : decode cX8_sheet 117 = .ok (.iaload, 1) := by decide +kernel
theorem dX8_sheet_118 : decode cX8_sheet 118 = .ok (.ireturn, 1) := by decide +kernel
theorem dX8_write_0 : decode cX8_write 0 = .ok (.iload_n 1, 1) := by decide +kernel
theorem dX8_write_1 : decode cX8_write 1 = .ok (.invokestatic 316, 3) := by decide +kernel
theorem dX8_write_4 : decode cX8_write 4 = .ok (.ifCond .ne 11, 3) := by decide +kernel
theorem dX8_write_7 : decode cX8_write 7 = .ok (.aload_n 0, 1) := by decide +kernel
theorem dX8_write_8 : decode cX8_write 8 = .ok (.ldc 98, 2) := by decide +kernel
theorem dX8_write_10 : decode cX8_write 10 = .ok (.invokevirtual 125, 3) := by decide +kernel
theorem dX8_write_13 : decode cX8_write 13 = .ok (.i2l, 1) := by decide +kernel
theorem dX8_write_14 : decode cX8_write 14 = .ok (.lreturn, 1) := by decide +kernel
theorem dX8_write_15 : decode cX8_write 15 = .ok (.aload_n 0, 1) := by decide +kernel
theorem dX8_write_16 : decode cX8_write 16 = .ok (.getfield 85, 3) := by decide +kernel
theorem dX8_write_19 : decode cX8_write 19 = .ok (.iload_n 1, 1) := by decide +kernel
theorem dX8_write_20 : decode cX8_write 20 = .ok (.iaload, 1) := by decide +kernel
theorem dX8_write_21 : decode cX8_write 21 = .ok (.ifCond .ne 12, 3) := by decide +kernel
theorem dX8_write_24 : decode cX8_write 24 = .ok (.aload_n 0, 1) := by decide +kernel
theorem dX8_write_25 : decode cX8_write 25 = .ok (.ldc_w 320, 3) := by decide +kernel
theorem dX8_write_28 : decode cX8_write 28 = .ok (.invokevirtual 125, 3) := by decide +kernel
theorem dX8_write_31 : decode cX8_write 31 = .ok (.i2l, 1) := by decide +kernel
theorem dX8_write_32 : decode cX8_write 32 = .ok (.lreturn, 1) := by decide +kernel
theorem dX8_write_33 : decode cX8_write 33 = .ok (.iload_n 2, 1) := by decide +kernel
theorem dX8_write_34 : decode cX8_write 34 = .ok (.iconst 0, 1) := by decide +kernel
theorem dX8_write_35 : decode cX8_write 35 = .ok (.aload_n 0, 1) := by decide +kernel
theorem dX8_write_36 : decode cX8_write 36 = .ok (.getfield 88, 3) := by decide +kernel
theorem dX8_write_39 : decode cX8_write 39 = .ok (.iload_n 1, 1) := by decide +kernel
theorem dX8_write_40 : decode cX8_write 40 = .ok (.iaload, 1) := by decide +kernel
theorem dX8_write_41 : decode cX8_write 41 = .ok (.iconst 1, 1) := by decide +kernel
theorem dX8_write_42 : decode cX8_write 42 = .ok (.isub, 1) := by decide +kernel
theorem dX8_write_43 : decode cX8_write 43 = .ok (.invokestatic 121, 3) := by decide +kernel
theorem dX8_write_46 : decode cX8_write 46 = .ok (.ifCond .ne 11, 3) := by decide +kernel
theorem dX8_write_49 : decode cX8_write 49 = .ok (.aload_n 0, 1) := by decide +kernel
theorem dX8_write_50 : decode cX8_write 50 = .ok (.ldc 98, 2) := by decide +kernel
theorem dX8_write_52 : decode cX8_write 52 = .ok (.invokevirtual 125, 3) := by decide +kernel
theorem dX8_write_55 : decode cX8_write 55 = .ok (.i2l, 1) := by decide +kernel
theorem dX8_write_56 : decode cX8_write 56 = .ok (.lreturn, 1) := by decide +kernel
theorem dX8_write_57 : decode cX8_write 57 = .ok (.aload_n 0, 1) := by decide +kernel
theorem dX8_write_58 : decode cX8_write 58 = .ok (.getfield 91, 3) := by decide +kernel
theorem dX8_write_61 : decode cX8_write 61 = .ok (.bipush 40, 2) := by decide +kernel
theorem dX8_write_63 : decode cX8_write 63 = .ok (.iload_n 1, 1) := by decide +kernel
theorem dX8_write_64 : decode cX8_write 64 = .ok (.imul, 1) := by decide +kernel
theorem dX8_write_65 : decode cX8_write 65 = .ok (.iload_n 2, 1) := by decide +kernel
theorem dX8_write_66 : decode cX8_write 66 = .ok (.iadd, 1) := by decide +kernel
theorem dX8_write_67 : decode cX8_write 67 = .ok (.laload, 1) := by decide +kernel
theorem dX8_write_68 : decode cX8_write 68 = .ok (.lstore 5, 2) := by decide +kernel
theorem dX8_write_70 : decode cX8_write 70 = .ok (.aload_n 0, 1) := by decide +kernel
theorem dX8_write_71 : decode cX8_write 71 = .ok (.getfield 91, 3) := by decide +kernel
theorem dX8_write_74 : decode cX8_write 74 = .ok (.bipush 40, 2) := by decide +kernel
theorem dX8_write_76 : decode cX8_write 76 = .ok (.iload_n 1, 1) := by decide +kernel
theorem dX8_write_77 : decode cX8_write 77 = .ok (.imul, 1) := by decide +kernel
theorem dX8_write_78 : decode cX8_write 78 = .ok (.iload_n 2, 1) := by decide +kernel
theorem dX8_write_79 : decode cX8_write 79 = .ok (.iadd, 1) := by decide +kernel
theorem dX8_write_80 : decode cX8_write 80 = .ok (.lload_n 3, 1) := by decide +kernel
theorem dX8_write_81 : decode cX8_write 81 = .ok (.aload_n 0, 1) := by decide +kernel
theorem dX8_write_82 : decode cX8_write 82 = .ok (.getfield 85, 3) := by decide +kernel
theorem dX8_write_85 : decode cX8_write 85 = .ok (.iload_n 1, 1) := by decide +kernel
theorem dX8_write_86 : decode cX8_write 86 = .ok (.iaload, 1) := by decide +kernel
theorem dX8_write_87 : decode cX8_write 87 = .ok (.invokestatic 321, 3) := by decide +kernel
theorem dX8_write_90 : decode cX8_write 90 = .ok (.lastore, 1) := by decide +kernel
theorem dX8_write_91 : decode cX8_write 91 = .ok (.lload 5, 2) := by decide +kernel
theorem dX8_write_93 : decode cX8_write 93 = .ok (.lreturn, 1) := by decide +kernel
theorem dX8_copy_0 : decode cX8_copy 0 = .ok (.iload_n 1, 1) := by decide +kernel
theorem dX8_copy_1 : decode cX8_copy 1 = .ok (.invokestatic 316, 3) := by decide +kernel
theorem dX8_copy_4 : decode cX8_copy 4 = .ok (.ifCond .eq 10, 3) := by decide +kernel
theorem dX8_copy_7 : decode cX8_copy 7 = .ok (.iload_n 3, 1) := by decide +kernel
theorem dX8_copy_8 : decode cX8_copy 8 = .ok (.invokestatic 316, 3) := by decide +kernel
theorem dX8_copy_11 : decode cX8_copy 11 = .ok (.ifCond .ne 10, 3) := by decide +kernel
theorem dX8_copy_14 : decode cX8_copy 14 = .ok (.aload_n 0, 1) := by decide +kernel
theorem dX8_copy_15 : decode cX8_copy 15 = .ok (.ldc 98, 2) := by decide +kernel
theorem dX8_copy_17 : decode cX8_copy 17 = .ok (.invokevirtual 125, 3) := by decide +kernel
theorem dX8_copy_20 : decode cX8_copy 20 = .ok (.ireturn, 1) := by decide +kernel
theorem dX8_copy_21 : decode cX8_copy 21 = .ok (.aload_n 0, 1) := by decide +kernel
theorem dX8_copy_22 : decode cX8_copy 22 = .ok (.getfield 85, 3) := by decide +kernel
theorem dX8_copy_25 : decode cX8_copy 25 = .ok (.iload_n 1, 1) := by decide +kernel
theorem dX8_copy_26 : decode cX8_copy 26 = .ok (.iaload, 1) := by decide +kernel
theorem dX8_copy_27 : decode cX8_copy 27 = .ok (.ifCond .eq 12, 3) := by decide +kernel
theorem dX8_copy_30 : decode cX8_copy 30 = .ok (.aload_n 0, 1) := by decide +kernel
theorem dX8_copy_31 : decode cX8_copy 31 = .ok (.getfield 85, 3) := by decide +kernel
theorem dX8_copy_34 : decode cX8_copy 34 = .ok (.iload_n 3, 1) := by decide +kernel
theorem dX8_copy_35 : decode cX8_copy 35 = .ok (.iaload, 1) := by decide +kernel
theorem dX8_copy_36 : decode cX8_copy 36 = .ok (.ifCond .ne 11, 3) := by decide +kernel
theorem dX8_copy_39 : decode cX8_copy 39 = .ok (.aload_n 0, 1) := by decide +kernel
theorem dX8_copy_40 : decode cX8_copy 40 = .ok (.ldc_w 320, 3) := by decide +kernel
theorem dX8_copy_43 : decode cX8_copy 43 = .ok (.invokevirtual 125, 3) := by decide +kernel
theorem dX8_copy_46 : decode cX8_copy 46 = .ok (.ireturn, 1) := by decide +kernel
theorem dX8_copy_47 : decode cX8_copy 47 = .ok (.aload_n 0, 1) := by decide +kernel
theorem dX8_copy_48 : decode cX8_copy 48 = .ok (.getfield 85, 3) := by decide +kernel
theorem dX8_copy_51 : decode cX8_copy 51 = .ok (.iload_n 1, 1) := by decide +kernel
theorem dX8_copy_52 : decode cX8_copy 52 = .ok (.iaload, 1) := by decide +kernel
theorem dX8_copy_53 : decode cX8_copy 53 = .ok (.aload_n 0, 1) := by decide +kernel
theorem dX8_copy_54 : decode cX8_copy 54 = .ok (.getfield 85, 3) := by decide +kernel
theorem dX8_copy_57 : decode cX8_copy 57 = .ok (.iload_n 3, 1) := by decide +kernel
theorem dX8_copy_58 : decode cX8_copy 58 = .ok (.iaload, 1) := by decide +kernel
theorem dX8_copy_59 : decode cX8_copy 59 = .ok (.if_icmp .eq 10, 3) := by decide +kernel
theorem dX8_copy_62 : decode cX8_copy 62 = .ok (.aload_n 0, 1) := by decide +kernel
theorem dX8_copy_63 : decode cX8_copy 63 = .ok (.ldc 166, 2) := by decide +kernel
theorem dX8_copy_65 : decode cX8_copy 65 = .ok (.invokevirtual 125, 3) := by decide +kernel
theorem dX8_copy_68 : decode cX8_copy 68 = .ok (.ireturn, 1) := by decide +kernel
theorem dX8_copy_69 : decode cX8_copy 69 = .ok (.iload_n 2, 1) := by decide +kernel
theorem dX8_copy_70 : decode cX8_copy 70 = .ok (.ifCond .lt 48, 3) := by decide +kernel
theorem dX8_copy_73 : decode cX8_copy 73 = .ok (.iload 4, 2) := by decide +kernel
theorem dX8_copy_75 : decode cX8_copy 75 = .ok (.ifCond .lt 43, 3) := by decide +kernel
theorem dX8_copy_78 : decode cX8_copy 78 = .ok (.iload 5, 2) := by decide +kernel
theorem dX8_copy_80 : decode cX8_copy 80 = .ok (.ifCond .lt 38, 3) := by decide +kernel
theorem dX8_copy_83 : decode cX8_copy 83 = .ok (.iload_n 2, 1) := by decide +kernel
theorem dX8_copy_84 : decode cX8_copy 84 = .ok (.i2l, 1) := by decide +kernel
theorem dX8_copy_85 : decode cX8_copy 85 = .ok (.iload 5, 2) := by decide +kernel
theorem dX8_copy_87 : decode cX8_copy 87 = .ok (.i2l, 1) := by decide +kernel
theorem dX8_copy_88 : decode cX8_copy 88 = .ok (.ladd, 1) := by decide +kernel
theorem dX8_copy_89 : decode cX8_copy 89 = .ok (.aload_n 0, 1) := by decide +kernel
theorem dX8_copy_90 : decode cX8_copy 90 = .ok (.getfield 88, 3) := by decide +kernel
theorem dX8_copy_93 : decode cX8_copy 93 = .ok (.iload_n 1, 1) := by decide +kernel
theorem dX8_copy_94 : decode cX8_copy 94 = .ok (.iaload, 1) := by decide +kernel
theorem dX8_copy_95 : decode cX8_copy 95 = .ok (.i2l, 1) := by decide +kernel
theorem dX8_copy_96 : decode cX8_copy 96 = .ok (.lcmp, 1) := by decide +kernel
theorem dX8_copy_97 : decode cX8_copy 97 = .ok (.ifCond .gt 21, 3) := by decide +kernel
theorem dX8_copy_100 : decode cX8_copy 100 = .ok (.iload 4, 2) := by decide +kernel
theorem dX8_copy_102 : decode cX8_copy 102 = .ok (.i2l, 1) := by decide +kernel
theorem dX8_copy_103 : decode cX8_copy 103 = .ok (.iload 5, 2) := by decide +kernel
theorem dX8_copy_105 : decode cX8_copy 105 = .ok (.i2l, 1) := by decide +kernel
theorem dX8_copy_106 : decode cX8_copy 106 = .ok (.ladd, 1) := by decide +kernel
theorem dX8_copy_107 : decode cX8_copy 107 = .ok (.aload_n 0, 1) := by decide +kernel
theorem dX8_copy_108 : decode cX8_copy 108 = .ok (.getfield 88, 3) := by decide +kernel
theorem dX8_copy_111 : decode cX8_copy 111 = .ok (.iload_n 3, 1) := by decide +kernel
theorem dX8_copy_112 : decode cX8_copy 112 = .ok (.iaload, 1) := by decide +kernel
theorem dX8_copy_113 : decode cX8_copy 113 = .ok (.i2l, 1) := by decide +kernel
theorem dX8_copy_114 : decode cX8_copy 114 = .ok (.lcmp, 1) := by decide +kernel
theorem dX8_copy_115 : decode cX8_copy 115 = .ok (.ifCond .le 10, 3) := by decide +kernel
theorem dX8_copy_118 : decode cX8_copy 118 = .ok (.aload_n 0, 1) := by decide +kernel
theorem dX8_copy_119 : decode cX8_copy 119 = .ok (.ldc 98, 2) := by decide +kernel
theorem dX8_copy_121 : decode cX8_copy 121 = .ok (.invokevirtual 125, 3) := by decide +kernel
theorem dX8_copy_124 : decode cX8_copy 124 = .ok (.ireturn, 1) := by decide +kernel
theorem dX8_copy_125 : decode cX8_copy 125 = .ok (.iconst 0, 1) := by decide +kernel
theorem dX8_copy_126 : decode cX8_copy 126 = .ok (.istore 6, 2) := by decide +kernel
theorem dX8_copy_128 : decode cX8_copy 128 = .ok (.iload 6, 2) := by decide +kernel
theorem dX8_copy_130 : decode cX8_copy 130 = .ok (.iload 5, 2) := by decide +kernel
theorem dX8_copy_132 : decode cX8_copy 132 = .ok (.if_icmp .ge 30, 3) := by decide +kernel
theorem dX8_copy_135 : decode cX8_copy 135 = .ok (.aload_n 0, 1) := by decide +kernel
theorem dX8_copy_136 : decode cX8_copy 136 = .ok (.getfield 95, 3) := by decide +kernel
theorem dX8_copy_139 : decode cX8_copy 139 = .ok (.iload 6, 2) := by decide +kernel
theorem dX8_copy_141 : decode cX8_copy 141 = .ok (.aload_n 0, 1) := by decide +kernel
theorem dX8_copy_142 : decode cX8_copy 142 = .ok (.getfield 91, 3) := by decide +kernel
theorem dX8_copy_145 : decode cX8_copy 145 = .ok (.bipush 40, 2) := by decide +kernel
theorem dX8_copy_147 : decode cX8_copy 147 = .ok (.iload_n 1, 1) := by decide +kernel
theorem dX8_copy_148 : decode cX8_copy 148 = .ok (.imul, 1) := by decide +kernel
theorem dX8_copy_149 : decode cX8_copy 149 = .ok (.iload_n 2, 1) := by decide +kernel
theorem dX8_copy_150 : decode cX8_copy 150 = .ok (.iadd, 1) := by decide +kernel
theorem dX8_copy_151 : decode cX8_copy 151 = .ok (.iload 6, 2) := by decide +kernel
theorem dX8_copy_153 : decode cX8_copy 153 = .ok (.iadd, 1) := by decide +kernel
theorem dX8_copy_154 : decode cX8_copy 154 = .ok (.laload, 1) := by decide +kernel
theorem dX8_copy_155 : decode cX8_copy 155 = .ok (.lastore, 1) := by decide +kernel
theorem dX8_copy_156 : decode cX8_copy 156 = .ok (.iinc 6 1, 3) := by decide +kernel
theorem dX8_copy_159 : decode cX8_copy 159 = .ok (.goto (-31), 3) := by decide +kernel
theorem dX8_copy_162 : decode cX8_copy 162 = .ok (.iconst 0, 1) := by decide +kernel
theorem dX8_copy_163 : decode cX8_copy 163 = .ok (.istore 6, 2) := by decide +kernel
theorem dX8_copy_165 : decode cX8_copy 165 = .ok (.iload 6, 2) := by decide +kernel
theorem dX8_copy_167 : decode cX8_copy 167 = .ok (.iload 5, 2) := by decide +kernel
theorem dX8_copy_169 : decode cX8_copy 169 = .ok (.if_icmp .ge 31, 3) := by decide +kernel
theorem dX8_copy_172 : decode cX8_copy 172 = .ok (.aload_n 0, 1) := by decide +kernel
theorem dX8_copy_173 : decode cX8_copy 173 = .ok (.getfield 91, 3) := by decide +kernel
theorem dX8_copy_176 : decode cX8_copy 176 = .ok (.bipush 40, 2) := by decide +kernel
theorem dX8_copy_178 : decode cX8_copy 178 = .ok (.iload_n 3, 1) := by decide +kernel
theorem dX8_copy_179 : decode cX8_copy 179 = .ok (.imul, 1) := by decide +kernel
theorem dX8_copy_180 : decode cX8_copy 180 = .ok (.iload 4, 2) := by decide +kernel
theorem dX8_copy_182 : decode cX8_copy 182 = .ok (.iadd, 1) := by decide +kernel
theorem dX8_copy_183 : decode cX8_copy 183 = .ok (.iload 6, 2) := by decide +kernel
theorem dX8_copy_185 : decode cX8_copy 185 = .ok (.iadd, 1) := by decide +kernel
theorem dX8_copy_186 : decode cX8_copy 186 = .ok (.aload_n 0, 1) := by decide +kernel
theorem dX8_copy_187 : decode cX8_copy 187 = .ok (.getfield 95, 3) := by decide +kernel
theorem dX8_copy_190 : decode cX8_copy 190 = .ok (.iload 6, 2) := by decide +kernel
theorem dX8_copy_192 : decode cX8_copy 192 = .ok (.laload, 1) := by decide +kernel
theorem dX8_copy_193 : decode cX8_copy 193 = .ok (.lastore, 1) := by decide +kernel
theorem dX8_copy_194 : decode cX8_copy 194 = .ok (.iinc 6 1, 3) := by decide +kernel
theorem dX8_copy_197 : decode cX8_copy 197 = .ok (.goto (-32), 3) := by decide +kernel
theorem dX8_copy_200 : decode cX8_copy 200 = .ok (.iload 5, 2) := by decide +kernel
theorem dX8_copy_202 : decode cX8_copy 202 = .ok (.ireturn, 1) := by decide +kernel
theorem dX8_lays_0 : decode cX8_lays 0 = .ok (.iload_n 1, 1) := by decide +kernel
theorem dX8_lays_1 : decode cX8_lays 1 = .ok (.invokestatic 316, 3) := by decide +kernel
theorem dX8_lays_4 : decode cX8_lays 4 = .ok (.ifCond .ne 10, 3) := by decide +kernel
theorem dX8_lays_7 : decode cX8_lays 7 = .ok (.aload_n 0, 1) := by decide +kernel
theorem dX8_lays_8 : decode cX8_lays 8 = .ok (.ldc 98, 2) := by decide +kernel
theorem dX8_lays_10 : decode cX8_lays 10 = .ok (.invokevirtual 125, 3) := by decide +kernel
theorem dX8_lays_13 : decode cX8_lays 13 = .ok (.ireturn, 1) := by decide +kernel
theorem dX8_lays_14 : decode cX8_lays 14 = .ok (.aload_n 0, 1) := by decide +kernel
theorem dX8_lays_15 : decode cX8_lays 15 = .ok (.getfield 85, 3) := by decide +kernel
theorem dX8_lays_18 : decode cX8_lays 18 = .ok (.iload_n 1, 1) := by decide +kernel
theorem dX8_lays_19 : decode cX8_lays 19 = .ok (.iaload, 1) := by decide +kernel
theorem dX8_lays_20 : decode cX8_lays 20 = .ok (.ifCond .ne 11, 3) := by decide +kernel
theorem dX8_lays_23 : decode cX8_lays 23 = .ok (.aload_n 0, 1) := by decide +kernel
theorem dX8_lays_24 : decode cX8_lays 24 = .ok (.ldc_w 320, 3) := by decide +kernel
theorem dX8_lays_27 : decode cX8_lays 27 = .ok (.invokevirtual 125, 3) := by decide +kernel
theorem dX8_lays_30 : decode cX8_lays 30 = .ok (.ireturn, 1) := by decide +kernel
theorem dX8_lays_31 : decode cX8_lays 31 = .ok (.iconst 0, 1) := by decide +kernel
theorem dX8_lays_32 : decode cX8_lays 32 = .ok (.istore_n 2, 1) := by decide +kernel
theorem dX8_lays_33 : decode cX8_lays 33 = .ok (.iconst 0, 1) := by decide +kernel
theorem dX8_lays_34 : decode cX8_lays 34 = .ok (.istore_n 3, 1) := by decide +kernel
theorem dX8_lays_35 : decode cX8_lays 35 = .ok (.iload_n 3, 1) := by decide +kernel
theorem dX8_lays_36 : decode cX8_lays 36 = .ok (.aload_n 0, 1) := by decide +kernel
theorem dX8_lays_37 : decode cX8_lays 37 = .ok (.getfield 88, 3) := by decide +kernel
theorem dX8_lays_40 : decode cX8_lays 40 = .ok (.iload_n 1, 1) := by decide +kernel
theorem dX8_lays_41 : decode cX8_lays 41 = .ok (.iaload, 1) := by decide +kernel
theorem dX8_lays_42 : decode cX8_lays 42 = .ok (.if_icmp .ge 68, 3) := by decide +kernel
theorem dX8_lays_45 : decode cX8_lays 45 = .ok (.iload_n 3, 1) := by decide +kernel
theorem dX8_lays_46 : decode cX8_lays 46 = .ok (.aload_n 0, 1) := by decide +kernel
theorem dX8_lays_47 : decode cX8_lays 47 = .ok (.getfield 9, 3) := by decide +kernel
theorem dX8_lays_50 : decode cX8_lays 50 = .ok (.bipush 9, 2) := by decide +kernel
theorem dX8_lays_52 : decode cX8_lays 52 = .ok (.iaload, 1) := by decide +kernel
theorem dX8_lays_53 : decode cX8_lays 53 = .ok (.if_icmp .ge 57, 3) := by decide +kernel
theorem dX8_lays_56 : decode cX8_lays 56 = .ok (.aload_n 0, 1) := by decide +kernel
theorem dX8_lays_57 : decode cX8_lays 57 = .ok (.getfield 91, 3) := by decide +kernel
theorem dX8_lays_60 : decode cX8_lays 60 = .ok (.bipush 40, 2) := by decide +kernel
theorem dX8_lays_62 : decode cX8_lays 62 = .ok (.iload_n 1, 1) := by decide +kernel
theorem dX8_lays_63 : decode cX8_lays 63 = .ok (.imul, 1) := by decide +kernel
theorem dX8_lays_64 : decode cX8_lays 64 = .ok (.iload_n 3, 1) := by decide +kernel
theorem dX8_lays_65 : decode cX8_lays 65 = .ok (.iadd, 1) := by decide +kernel
theorem dX8_lays_66 : decode cX8_lays 66 = .ok (.laload, 1) := by decide +kernel
theorem dX8_lays_67 : decode cX8_lays 67 = .ok (.lstore 4, 2) := by decide +kernel
theorem dX8_lays_69 : decode cX8_lays 69 = .ok (.lload 4, 2) := by decide +kernel
theorem dX8_lays_71 : decode cX8_lays 71 = .ok (.lconst 0, 1) := by decide +kernel
theorem dX8_lays_72 : decode cX8_lays 72 = .ok (.lcmp, 1) := by decide +kernel
theorem dX8_lays_73 : decode cX8_lays 73 = .ok (.ifCond .lt 31, 3) := by decide +kernel
theorem dX8_lays_76 : decode cX8_lays 76 = .ok (.lload 4, 2) := by decide +kernel
theorem dX8_lays_78 : decode cX8_lays 78 = .ok (.ldc2_w 325, 3) := by decide +kernel
theorem dX8_lays_81 : decode cX8_lays 81 = .ok (.lcmp, 1) := by decide +kernel
theorem dX8_lays_82 : decode cX8_lays 82 = .ok (.ifCond .ge 22, 3) := by decide +kernel
theorem dX8_lays_85 : decode cX8_lays 85 = .ok (.aload_n 0, 1) := by decide +kernel
theorem dX8_lays_86 : decode cX8_lays 86 = .ok (.getfield 9, 3) := by decide +kernel
theorem dX8_lays_89 : decode cX8_lays 89 = .ok (.bipush 11, 2) := by decide +kernel
theorem dX8_lays_91 : decode cX8_lays 91 = .ok (.iconst 2, 1) := by decide +kernel
theorem dX8_lays_92 : decode cX8_lays 92 = .ok (.iload_n 3, 1) := by decide +kernel
theorem dX8_lays_93 : decode cX8_lays 93 = .ok (.imul, 1) := by decide +kernel
theorem dX8_lays_94 : decode cX8_lays 94 = .ok (.iadd, 1) := by decide +kernel
theorem dX8_lays_95 : decode cX8_lays 95 = .ok (.iconst 1, 1) := by decide +kernel
theorem dX8_lays_96 : decode cX8_lays 96 = .ok (.iadd, 1) := by decide +kernel
theorem dX8_lays_97 : decode cX8_lays 97 = .ok (.lload 4, 2) := by decide +kernel
theorem dX8_lays_99 : decode cX8_lays 99 = .ok (.l2i, 1) := by decide +kernel
theorem dX8_lays_100 : decode cX8_lays 100 = .ok (.iastore, 1) := by decide +kernel
theorem dX8_lays_101 : decode cX8_lays 101 = .ok (.iinc 2 1, 3) := by decide +kernel
theorem dX8_lays_104 : decode cX8_lays 104 = .ok (.iinc 3 1, 3) := by decide +kernel
theorem dX8_lays_107 : decode cX8_lays 107 = .ok (.goto (-72), 3) := by decide +kernel
theorem dX8_lays_110 : decode cX8_lays 110 = .ok (.iload_n 2, 1) := by decide +kernel
theorem dX8_lays_111 : decode cX8_lays 111 = .ok (.ireturn, 1) := by decide +kernel
theorem dX8_refuses_0 : decode cX8_refuses 0 = .ok (.iload_n 1, 1) := by decide +kernel
theorem dX8_refuses_1 : decode cX8_refuses 1 = .ok (.invokestatic 316, 3) := by decide +kernel
theorem dX8_refuses_4 : decode cX8_refuses 4 = .ok (.ifCond .ne 6, 3) := by decide +kernel
theorem dX8_refuses_7 : decode cX8_refuses 7 = .ok (.ldc 98, 2) := by decide +kernel
theorem dX8_refuses_9 : decode cX8_refuses 9 = .ok (.ireturn, 1) := by decide +kernel
theorem dX8_refuses_10 : decode cX8_refuses 10 = .ok (.aload_n 0, 1) := by decide +kernel
theorem dX8_refuses_11 : decode cX8_refuses 11 = .ok (.getfield 85, 3) := by decide +kernel
theorem dX8_refuses_14 : decode cX8_refuses 14 = .ok (.iload_n 1, 1) := by decide +kernel
theorem dX8_refuses_15 : decode cX8_refuses 15 = .ok (.iaload, 1) := by decide +kernel
theorem dX8_refuses_16 : decode cX8_refuses 16 = .ok (.ifCond .ne 9, 3) := by decide +kernel
theorem dX8_refuses_19 : decode cX8_refuses 19 = .ok (.ldc_w 320, 3) := by decide +kernel
theorem dX8_refuses_22 : decode cX8_refuses 22 = .ok (.goto 34, 3) := by decide +kernel
theorem dX8_refuses_25 : decode cX8_refuses 25 = .ok (.iload_n 2, 1) := by decide +kernel
theorem dX8_refuses_26 : decode cX8_refuses 26 = .ok (.invokestatic 133, 3) := by decide +kernel
theorem dX8_refuses_29 : decode cX8_refuses 29 = .ok (.ifCond .eq 21, 3) := by decide +kernel
theorem dX8_refuses_32 : decode cX8_refuses 32 = .ok (.iload_n 3, 1) := by decide +kernel
theorem dX8_refuses_33 : decode cX8_refuses 33 = .ok (.invokestatic 137, 3) := by decide +kernel
theorem dX8_refuses_36 : decode cX8_refuses 36 = .ok (.ifCond .eq 14, 3) := by decide +kernel
theorem dX8_refuses_39 : decode cX8_refuses 39 = .ok (.iload 4, 2) := by decide +kernel
theorem dX8_refuses_41 : decode cX8_refuses 41 = .ok (.iconst 1, 1) := by decide +kernel
theorem dX8_refuses_42 : decode cX8_refuses 42 = .ok (.bipush 96, 2) := by decide +kernel
theorem dX8_refuses_44 : decode cX8_refuses 44 = .ok (.invokestatic 121, 3) := by decide +kernel
theorem dX8_refuses_47 : decode cX8_refuses 47 = .ok (.ifCond .ne 8, 3) := by decide +kernel
theorem dX8_refuses_50 : decode cX8_refuses 50 = .ok (.ldc 98, 2) := by decide +kernel
theorem dX8_refuses_52 : decode cX8_refuses 52 = .ok (.goto 4, 3) := by decide +kernel
theorem dX8_refuses_55 : decode cX8_refuses 55 = .ok (.iconst 0, 1) := by decide +kernel
theorem dX8_refuses_56 : decode cX8_refuses 56 = .ok (.ireturn, 1) := by decide +kernel
theorem dX8_calendar_0 : decode cX8_calendar 0 = .ok (.aload_n 0, 1) := by decide +kernel
theorem dX8_calendar_1 : decode cX8_calendar 1 = .ok (.iload_n 1, 1) := by decide +kernel
theorem dX8_calendar_2 : decode cX8_calendar 2 = .ok (.iload_n 2, 1) := by decide +kernel
theorem dX8_calendar_3 : decode cX8_calendar 3 = .ok (.iload_n 3, 1) := by decide +kernel
theorem dX8_calendar_4 : decode cX8_calendar 4 = .ok (.iload 4, 2) := by decide +kernel
theorem dX8_calendar_6 : decode cX8_calendar 6 = .ok (.invokevirtual 327, 3) := by decide +kernel
theorem dX8_calendar_9 : decode cX8_calendar 9 = .ok (.istore 5, 2) := by decide +kernel
theorem dX8_calendar_11 : decode cX8_calendar 11 = .ok (.iload 5, 2) := by decide +kernel
theorem dX8_calendar_13 : decode cX8_calendar 13 = .ok (.ifCond .eq 10, 3) := by decide +kernel
theorem dX8_calendar_16 : decode cX8_calendar 16 = .ok (.aload_n 0, 1) := by decide +kernel
theorem dX8_calendar_17 : decode cX8_calendar 17 = .ok (.iload 5, 2) := by decide +kernel
theorem dX8_calendar_19 : decode cX8_calendar 19 = .ok (.invokevirtual 125, 3) := by decide +kernel
theorem dX8_calendar_22 : decode cX8_calendar 22 = .ok (.ireturn, 1) := by decide +kernel
theorem dX8_calendar_23 : decode cX8_calendar 23 = .ok (.iconst 0, 1) := by decide +kernel
theorem dX8_calendar_24 : decode cX8_calendar 24 = .ok (.istore 6, 2) := by decide +kernel
theorem dX8_calendar_26 : decode cX8_calendar 26 = .ok (.iload 6, 2) := by decide +kernel
theorem dX8_calendar_28 : decode cX8_calendar 28 = .ok (.aload_n 0, 1) := by decide +kernel
theorem dX8_calendar_29 : decode cX8_calendar 29 = .ok (.getfield 88, 3) := by decide +kernel
theorem dX8_calendar_32 : decode cX8_calendar 32 = .ok (.iload_n 1, 1) := by decide +kernel
theorem dX8_calendar_33 : decode cX8_calendar 33 = .ok (.iaload, 1) := by decide +kernel
theorem dX8_calendar_34 : decode cX8_calendar 34 = .ok (.if_icmp .ge 34, 3) := by decide +kernel
theorem dX8_calendar_37 : decode cX8_calendar 37 = .ok (.aload_n 0, 1) := by decide +kernel
