theorem dX2_init_11 : decode cX2_init 11 = .ok (.putfield 13, 3) := by decide +kernel
theorem dX2_init_14 : decode cX2_init 14 = .ok (.aload_n 0, 1) := by decide +kernel
theorem dX2_init_15 : decode cX2_init 15 = .ok (.bipush 40, 2) := by decide +kernel
theorem dX2_init_17 : decode cX2_init 17 = .ok (.newarray .long, 2) := by decide +kernel
theorem dX2_init_19 : decode cX2_init 19 = .ok (.putfield 16, 3) := by decide +kernel
theorem dX2_init_22 : decode cX2_init 22 = .ok (.return_, 1) := by decide +kernel
theorem dX2_mayBe_0 : decode cX2_mayBe 0 = .ok (.iload_n 0, 1) := by decide +kernel
theorem dX2_mayBe_1 : decode cX2_mayBe 1 = .ok (.ifCond .eq 21, 3) := by decide +kernel
theorem dX2_mayBe_4 : decode cX2_mayBe 4 = .ok (.iload_n 0, 1) := by decide +kernel
theorem dX2_mayBe_5 : decode cX2_mayBe 5 = .ok (.bipush 8, 2) := by decide +kernel
theorem dX2_mayBe_7 : decode cX2_mayBe 7 = .ok (.if_icmp .eq 15, 3) := by decide +kernel
theorem dX2_mayBe_10 : decode cX2_mayBe 10 = .ok (.iload_n 0, 1) := by decide +kernel
theorem dX2_mayBe_11 : decode cX2_mayBe 11 = .ok (.bipush 16, 2) := by decide +kernel
theorem dX2_mayBe_13 : decode cX2_mayBe 13 = .ok (.if_icmp .eq 9, 3) := by decide +kernel
theorem dX2_mayBe_16 : decode cX2_mayBe 16 = .ok (.iload_n 0, 1) := by decide +kernel
theorem dX2_mayBe_17 : decode cX2_mayBe 17 = .ok (.bipush 64, 2) := by decide +kernel
theorem dX2_mayBe_19 : decode cX2_mayBe 19 = .ok (.if_icmp .ne 7, 3) := by decide +kernel
theorem dX2_mayBe_22 : decode cX2_mayBe 22 = .ok (.iconst 1, 1) := by decide +kernel
theorem dX2_mayBe_23 : decode cX2_mayBe 23 = .ok (.goto 4, 3) := by decide +kernel
theorem dX2_mayBe_26 : decode cX2_mayBe 26 = .ok (.iconst 0, 1) := by decide +kernel
theorem dX2_mayBe_27 : decode cX2_mayBe 27 = .ok (.ireturn, 1) := by decide +kernel
theorem dX2_isMissing_0 : decode cX2_isMissing 0 = .ok (.aload_n 0, 1) := by decide +kernel
theorem dX2_isMissing_1 : decode cX2_isMissing 1 = .ok (.getfield 7, 3) := by decide +kernel
theorem dX2_isMissing_4 : decode cX2_isMissing 4 = .ok (.ifCond .ne 7, 3) := by decide +kernel
theorem dX2_isMissing_7 : decode cX2_isMissing 7 = .ok (.iconst 1, 1) := by decide +kernel
theorem dX2_isMissing_8 : decode cX2_isMissing 8 = .ok (.goto 4, 3) := by decide +kernel
theorem dX2_isMissing_11 : decode cX2_isMissing 11 = .ok (.iconst 0, 1) := by decide +kernel
theorem dX2_isMissing_12 : decode cX2_isMissing 12 = .ok (.ireturn, 1) := by decide +kernel
theorem dX2_lay_0 : decode cX2_lay 0 = .ok (.aload_n 0, 1) := by decide +kernel
theorem dX2_lay_1 : decode cX2_lay 1 = .ok (.getfield 16, 3) := by decide +kernel
theorem dX2_lay_4 : decode cX2_lay 4 = .ok (.lconst 0, 1) := by decide +kernel
theorem dX2_lay_5 : decode cX2_lay 5 = .ok (.invokestatic 20, 3) := by decide +kernel
theorem dX2_lay_8 : decode cX2_lay 8 = .ok (.aload_n 0, 1) := by decide +kernel
theorem dX2_lay_9 : decode cX2_lay 9 = .ok (.iload_n 1, 1) := by decide +kernel
theorem dX2_lay_10 : decode cX2_lay 10 = .ok (.putfield 7, 3) := by decide +kernel
theorem dX2_lay_13 : decode cX2_lay 13 = .ok (.aload_n 0, 1) := by decide +kernel
theorem dX2_lay_14 : decode cX2_lay 14 = .ok (.iload_n 1, 1) := by decide +kernel
theorem dX2_lay_15 : decode cX2_lay 15 = .ok (.ifCond .ne 7, 3) := by decide +kernel
theorem dX2_lay_18 : decode cX2_lay 18 = .ok (.iconst 0, 1) := by decide +kernel
theorem dX2_lay_19 : decode cX2_lay 19 = .ok (.goto 4, 3) := by decide +kernel
theorem dX2_lay_22 : decode cX2_lay 22 = .ok (.iload_n 2, 1) := by decide +kernel
theorem dX2_lay_23 : decode cX2_lay 23 = .ok (.putfield 13, 3) := by decide +kernel
theorem dX2_lay_26 : decode cX2_lay 26 = .ok (.aload_n 0, 1) := by decide +kernel
theorem dX2_lay_27 : decode cX2_lay 27 = .ok (.getfield 13, 3) := by decide +kernel
theorem dX2_lay_30 : decode cX2_lay 30 = .ok (.ireturn, 1) := by decide +kernel
theorem dX2_has_0 : decode cX2_has 0 = .ok (.iload_n 1, 1) := by decide +kernel
theorem dX2_has_1 : decode cX2_has 1 = .ok (.ifCond .lt 29, 3) := by decide +kernel
theorem dX2_has_4 : decode cX2_has 4 = .ok (.iload_n 2, 1) := by decide +kernel
theorem dX2_has_5 : decode cX2_has 5 = .ok (.ifCond .lt 25, 3) := by decide +kernel
theorem dX2_has_8 : decode cX2_has 8 = .ok (.iload_n 1, 1) := by decide +kernel
theorem dX2_has_9 : decode cX2_has 9 = .ok (.aload_n 0, 1) := by decide +kernel
theorem dX2_has_10 : decode cX2_has 10 = .ok (.getfield 13, 3) := by decide +kernel
theorem dX2_has_13 : decode cX2_has 13 = .ok (.if_icmp .gt 17, 3) := by decide +kernel
theorem dX2_has_16 : decode cX2_has 16 = .ok (.iload_n 2, 1) := by decide +kernel
theorem dX2_has_17 : decode cX2_has 17 = .ok (.aload_n 0, 1) := by decide +kernel
theorem dX2_has_18 : decode cX2_has 18 = .ok (.getfield 13, 3) := by decide +kernel
theorem dX2_has_21 : decode cX2_has 21 = .ok (.iload_n 1, 1) := by decide +kernel
theorem dX2_has_22 : decode cX2_has 22 = .ok (.isub, 1) := by decide +kernel
theorem dX2_has_23 : decode cX2_has 23 = .ok (.if_icmp .gt 7, 3) := by decide +kernel
theorem dX2_has_26 : decode cX2_has 26 = .ok (.iconst 1, 1) := by decide +kernel
theorem dX2_has_27 : decode cX2_has 27 = .ok (.goto 4, 3) := by decide +kernel
theorem dX2_has_30 : decode cX2_has 30 = .ok (.iconst 0, 1) := by decide +kernel
theorem dX2_has_31 : decode cX2_has 31 = .ok (.ireturn, 1) := by decide +kernel
theorem dX2_put_0 : decode cX2_put 0 = .ok (.aload_n 0, 1) := by decide +kernel
theorem dX2_put_1 : decode cX2_put 1 = .ok (.getfield 7, 3) := by decide +kernel
theorem dX2_put_4 : decode cX2_put 4 = .ok (.bipush 8, 2) := by decide +kernel
theorem dX2_put_6 : decode cX2_put 6 = .ok (.if_icmp .ne 16, 3) := by decide +kernel
theorem dX2_put_9 : decode cX2_put 9 = .ok (.aload_n 0, 1) := by decide +kernel
theorem dX2_put_10 : decode cX2_put 10 = .ok (.getfield 16, 3) := by decide +kernel
theorem dX2_put_13 : decode cX2_put 13 = .ok (.iload_n 1, 1) := by decide +kernel
theorem dX2_put_14 : decode cX2_put 14 = .ok (.lload_n 2, 1) := by decide +kernel
theorem dX2_put_15 : decode cX2_put 15 = .ok (.l2i, 1) := by decide +kernel
theorem dX2_put_16 : decode cX2_put 16 = .ok (.i2b, 1) := by decide +kernel
theorem dX2_put_17 : decode cX2_put 17 = .ok (.i2l, 1) := by decide +kernel
theorem dX2_put_18 : decode cX2_put 18 = .ok (.lastore, 1) := by decide +kernel
theorem dX2_put_19 : decode cX2_put 19 = .ok (.goto 32, 3) := by decide +kernel
theorem dX2_put_22 : decode cX2_put 22 = .ok (.aload_n 0, 1) := by decide +kernel
theorem dX2_put_23 : decode cX2_put 23 = .ok (.getfield 7, 3) := by decide +kernel
theorem dX2_put_26 : decode cX2_put 26 = .ok (.bipush 16, 2) := by decide +kernel
theorem dX2_put_28 : decode cX2_put 28 = .ok (.if_icmp .ne 16, 3) := by decide +kernel
theorem dX2_put_31 : decode cX2_put 31 = .ok (.aload_n 0, 1) := by decide +kernel
theorem dX2_put_32 : decode cX2_put 32 = .ok (.getfield 16, 3) := by decide +kernel
theorem dX2_put_35 : decode cX2_put 35 = .ok (.iload_n 1, 1) := by decide +kernel
theorem dX2_put_36 : decode cX2_put 36 = .ok (.lload_n 2, 1) := by decide +kernel
theorem dX2_put_37 : decode cX2_put 37 = .ok (.l2i, 1) := by decide +kernel
theorem dX2_put_38 : decode cX2_put 38 = .ok (.i2s, 1) := by decide +kernel
theorem dX2_put_39 : decode cX2_put 39 = .ok (.i2l, 1) := by decide +kernel
theorem dX2_put_40 : decode cX2_put 40 = .ok (.lastore, 1) := by decide +kernel
theorem dX2_put_41 : decode cX2_put 41 = .ok (.goto 10, 3) := by decide +kernel
theorem dX2_put_44 : decode cX2_put 44 = .ok (.aload_n 0, 1) := by decide +kernel
theorem dX2_put_45 : decode cX2_put 45 = .ok (.getfield 16, 3) := by decide +kernel
theorem dX2_put_48 : decode cX2_put 48 = .ok (.iload_n 1, 1) := by decide +kernel
theorem dX2_put_49 : decode cX2_put 49 = .ok (.lload_n 2, 1) := by decide +kernel
theorem dX2_put_50 : decode cX2_put 50 = .ok (.lastore, 1) := by decide +kernel
theorem dX2_put_51 : decode cX2_put 51 = .ok (.return_, 1) := by decide +kernel
theorem dX3_init_0 : decode cX3_init 0 = .ok (.aload_n 0, 1) := by decide +kernel
theorem dX3_init_1 : decode cX3_init 1 = .ok (.invokespecial 3, 3) := by decide +kernel
theorem dX3_init_4 : decode cX3_init 4 = .ok (.aload_n 0, 1) := by decide +kernel
theorem dX3_init_5 : decode cX3_init 5 = .ok (.bipush 120, 2) := by decide +kernel
theorem dX3_init_7 : decode cX3_init 7 = .ok (.newarray .int, 2) := by decide +kernel
theorem dX3_init_9 : decode cX3_init 9 = .ok (.putfield 9, 3) := by decide +kernel
theorem dX3_init_12 : decode cX3_init 12 = .ok (.aload_n 0, 1) := by decide +kernel
theorem dX3_init_13 : decode cX3_init 13 = .ok (.bipush 24, 2) := by decide +kernel
theorem dX3_init_15 : decode cX3_init 15 = .ok (.newarray .int, 2) := by decide +kernel
theorem dX3_init_17 : decode cX3_init 17 = .ok (.putfield 17, 3) := by decide +kernel
theorem dX3_init_20 : decode cX3_init 20 = .ok (.return_, 1) := by decide +kernel
theorem dX3_watch_0 : decode cX3_watch 0 = .ok (.aload_n 0, 1) := by decide +kernel
theorem dX3_watch_1 : decode cX3_watch 1 = .ok (.getfield 9, 3) := by decide +kernel
theorem dX3_watch_4 : decode cX3_watch 4 = .ok (.iconst 0, 1) := by decide +kernel
theorem dX3_watch_5 : decode cX3_watch 5 = .ok (.invokestatic 20, 3) := by decide +kernel
theorem dX3_watch_8 : decode cX3_watch 8 = .ok (.iload_n 2, 1) := by decide +kernel
theorem dX3_watch_9 : decode cX3_watch 9 = .ok (.istore 4, 2) := by decide +kernel
theorem dX3_watch_11 : decode cX3_watch 11 = .ok (.iload 4, 2) := by decide +kernel
theorem dX3_watch_13 : decode cX3_watch 13 = .ok (.iload_n 2, 1) := by decide +kernel
theorem dX3_watch_14 : decode cX3_watch 14 = .ok (.iload_n 3, 1) := by decide +kernel
theorem dX3_watch_15 : decode cX3_watch 15 = .ok (.iadd, 1) := by decide +kernel
theorem dX3_watch_16 : decode cX3_watch 16 = .ok (.if_icmp .ge 40, 3) := by decide +kernel
theorem dX3_watch_19 : decode cX3_watch 19 = .ok (.aload_n 1, 1) := by decide +kernel
theorem dX3_watch_20 : decode cX3_watch 20 = .ok (.iload 4, 2) := by decide +kernel
theorem dX3_watch_22 : decode cX3_watch 22 = .ok (.invokevirtual 26, 3) := by decide +kernel
theorem dX3_watch_25 : decode cX3_watch 25 = .ok (.aload_n 0, 1) := by decide +kernel
theorem dX3_watch_26 : decode cX3_watch 26 = .ok (.getfield 9, 3) := by decide +kernel
theorem dX3_watch_29 : decode cX3_watch 29 = .ok (.iconst 1, 1) := by decide +kernel
theorem dX3_watch_30 : decode cX3_watch 30 = .ok (.aload_n 1, 1) := by decide +kernel
theorem dX3_watch_31 : decode cX3_watch 31 = .ok (.iconst 0, 1) := by decide +kernel
theorem dX3_watch_32 : decode cX3_watch 32 = .ok (.invokevirtual 32, 3) := by decide +kernel
theorem dX3_watch_35 : decode cX3_watch 35 = .ok (.iadd, 1) := by decide +kernel
theorem dX3_watch_36 : decode cX3_watch 36 = .ok (.bipush 24, 2) := by decide +kernel
theorem dX3_watch_38 : decode cX3_watch 38 = .ok (.imul, 1) := by decide +kernel
theorem dX3_watch_39 : decode cX3_watch 39 = .ok (.iload 4, 2) := by decide +kernel
theorem dX3_watch_41 : decode cX3_watch 41 = .ok (.invokestatic 36, 3) := by decide +kernel
theorem dX3_watch_44 : decode cX3_watch 44 = .ok (.iadd, 1) := by decide +kernel
theorem dX3_watch_45 : decode cX3_watch 45 = .ok (.dup2, 1) := by decide +kernel
theorem dX3_watch_46 : decode cX3_watch 46 = .ok (.iaload, 1) := by decide +kernel
theorem dX3_watch_47 : decode cX3_watch 47 = .ok (.iconst 1, 1) := by decide +kernel
theorem dX3_watch_48 : decode cX3_watch 48 = .ok (.iadd, 1) := by decide +kernel
theorem dX3_watch_49 : decode cX3_watch 49 = .ok (.iastore, 1) := by decide +kernel
theorem dX3_watch_50 : decode cX3_watch 50 = .ok (.iinc 4 1, 3) := by decide +kernel
theorem dX3_watch_53 : decode cX3_watch 53 = .ok (.goto (-42), 3) := by decide +kernel
theorem dX3_watch_56 : decode cX3_watch 56 = .ok (.return_, 1) := by decide +kernel
theorem dX3_sumOf_0 : decode cX3_sumOf 0 = .ok (.iconst 0, 1) := by decide +kernel
theorem dX3_sumOf_1 : decode cX3_sumOf 1 = .ok (.istore 4, 2) := by decide +kernel
theorem dX3_sumOf_3 : decode cX3_sumOf 3 = .ok (.iconst 0, 1) := by decide +kernel
theorem dX3_sumOf_4 : decode cX3_sumOf 4 = .ok (.istore 5, 2) := by decide +kernel
theorem dX3_sumOf_6 : decode cX3_sumOf 6 = .ok (.iload 5, 2) := by decide +kernel
theorem dX3_sumOf_8 : decode cX3_sumOf 8 = .ok (.aload_n 0, 1) := by decide +kernel
theorem dX3_sumOf_9 : decode cX3_sumOf 9 = .ok (.getfield 9, 3) := by decide +kernel
theorem dX3_sumOf_12 : decode cX3_sumOf 12 = .ok (.arraylength, 1) := by decide +kernel
theorem dX3_sumOf_13 : decode cX3_sumOf 13 = .ok (.if_icmp .ge 70, 3) := by decide +kernel
theorem dX3_sumOf_16 : decode cX3_sumOf 16 = .ok (.aload_n 0, 1) := by decide +kernel
theorem dX3_sumOf_17 : decode cX3_sumOf 17 = .ok (.getfield 9, 3) := by decide +kernel
theorem dX3_sumOf_20 : decode cX3_sumOf 20 = .ok (.iload 5, 2) := by decide +kernel
theorem dX3_sumOf_22 : decode cX3_sumOf 22 = .ok (.iaload, 1) := by decide +kernel
theorem dX3_sumOf_23 : decode cX3_sumOf 23 = .ok (.ifCond .eq 54, 3) := by decide +kernel
theorem dX3_sumOf_26 : decode cX3_sumOf 26 = .ok (.iload 5, 2) := by decide +kernel
theorem dX3_sumOf_28 : decode cX3_sumOf 28 = .ok (.bipush 24, 2) := by decide +kernel
theorem dX3_sumOf_30 : decode cX3_sumOf 30 = .ok (.idiv, 1) := by decide +kernel
theorem dX3_sumOf_31 : decode cX3_sumOf 31 = .ok (.istore 6, 2) := by decide +kernel
theorem dX3_sumOf_33 : decode cX3_sumOf 33 = .ok (.iload 6, 2) := by decide +kernel
theorem dX3_sumOf_35 : decode cX3_sumOf 35 = .ok (.ifCond .ne 7, 3) := by decide +kernel
theorem dX3_sumOf_38 : decode cX3_sumOf 38 = .ok (.iconst (-1), 1) := by decide +kernel
theorem dX3_sumOf_39 : decode cX3_sumOf 39 = .ok (.goto 11, 3) := by decide +kernel
theorem dX3_sumOf_42 : decode cX3_sumOf 42 = .ok (.iload 6, 2) := by decide +kernel
theorem dX3_sumOf_44 : decode cX3_sumOf 44 = .ok (.iconst 1, 1) := by decide +kernel
theorem dX3_sumOf_45 : decode cX3_sumOf 45 = .ok (.isub, 1) := by decide +kernel
theorem dX3_sumOf_46 : decode cX3_sumOf 46 = .ok (.iload_n 3, 1) := by decide +kernel
theorem dX3_sumOf_47 : decode cX3_sumOf 47 = .ok (.iadd, 1) := by decide +kernel
theorem dX3_sumOf_48 : decode cX3_sumOf 48 = .ok (.iconst 3, 1) := by decide +kernel
theorem dX3_sumOf_49 : decode cX3_sumOf 49 = .ok (.iand, 1) := by decide +kernel
theorem dX3_sumOf_50 : decode cX3_sumOf 50 = .ok (.istore 7, 2) := by decide +kernel
theorem dX3_sumOf_52 : decode cX3_sumOf 52 = .ok (.iload 4, 2) := by decide +kernel
theorem dX3_sumOf_54 : decode cX3_sumOf 54 = .ok (.aload_n 0, 1) := by decide +kernel
theorem dX3_sumOf_55 : decode cX3_sumOf 55 = .ok (.getfield 9, 3) := by decide +kernel
theorem dX3_sumOf_58 : decode cX3_sumOf 58 = .ok (.iload 5, 2) := by decide +kernel
theorem dX3_sumOf_60 : decode cX3_sumOf 60 = .ok (.iaload, 1) := by decide +kernel
theorem dX3_sumOf_61 : decode cX3_sumOf 61 = .ok (.aload_n 1, 1) := by decide +kernel
theorem dX3_sumOf_62 : decode cX3_sumOf 62 = .ok (.iload_n 2, 1) := by decide +kernel
theorem dX3_sumOf_63 : decode cX3_sumOf 63 = .ok (.iload 7, 2) := by decide +kernel
theorem dX3_sumOf_65 : decode cX3_sumOf 65 = .ok (.iload 5, 2) := by decide +kernel
theorem dX3_sumOf_67 : decode cX3_sumOf 67 = .ok (.bipush 24, 2) := by decide +kernel
theorem dX3_sumOf_69 : decode cX3_sumOf 69 = .ok (.irem, 1) := by decide +kernel
theorem dX3_sumOf_70 : decode cX3_sumOf 70 = .ok (.invokevirtual 39, 3) := by decide +kernel
theorem dX3_sumOf_73 : decode cX3_sumOf 73 = .ok (.imul, 1) := by decide +kernel
theorem dX3_sumOf_74 : decode cX3_sumOf 74 = .ok (.iadd, 1) := by decide +kernel
theorem dX3_sumOf_75 : decode cX3_sumOf 75 = .ok (.istore 4, 2) := by decide +kernel
theorem dX3_sumOf_77 : decode cX3_sumOf 77 = .ok (.iinc 5 1, 3) := by decide +kernel
theorem dX3_sumOf_80 : decode cX3_sumOf 80 = .ok (.goto (-74), 3) := by decide +kernel
theorem dX3_sumOf_83 : decode cX3_sumOf 83 = .ok (.iload 4, 2) := by decide +kernel
theorem dX3_sumOf_85 : decode cX3_sumOf 85 = .ok (.ireturn, 1) := by decide +kernel
theorem dX3_reckonAll_0 : decode cX3_reckonAll 0 = .ok (.iconst 0, 1) := by decide +kernel
theorem dX3_reckonAll_1 : decode cX3_reckonAll 1 = .ok (.istore_n 2, 1) := by decide +kernel
theorem dX3_reckonAll_2 : decode cX3_reckonAll 2 = .ok (.iload_n 2, 1) := by decide +kernel
theorem dX3_reckonAll_3 : decode cX3_reckonAll 3 = .ok (.aload_n 0, 1) := by decide +kernel
theorem dX3_reckonAll_4 : decode cX3_reckonAll 4 = .ok (.getfield 17, 3) := by decide +kernel
theorem dX3_reckonAll_7 : decode cX3_reckonAll 7 = .ok (.arraylength, 1) := by decide +kernel
theorem dX3_reckonAll_8 : decode cX3_reckonAll 8 = .ok (.if_icmp .ge 26, 3) := by decide +kernel
theorem dX3_reckonAll_11 : decode cX3_reckonAll 11 = .ok (.aload_n 0, 1) := by decide +kernel
theorem dX3_reckonAll_12 : decode cX3_reckonAll 12 = .ok (.getfield 17, 3) := by decide +kernel
theorem dX3_reckonAll_15 : decode cX3_reckonAll 15 = .ok (.iload_n 2, 1) := by decide +kernel
theorem dX3_reckonAll_16 : decode cX3_reckonAll 16 = .ok (.aload_n 0, 1) := by decide +kernel
theorem dX3_reckonAll_17 : decode cX3_reckonAll 17 = .ok (.aload_n 1, 1) := by decide +kernel
theorem dX3_reckonAll_18 : decode cX3_reckonAll 18 = .ok (.iload_n 2, 1) := by decide +kernel
theorem dX3_reckonAll_19 : decode cX3_reckonAll 19 = .ok (.iconst 4, 1) := by decide +kernel
theorem dX3_reckonAll_20 : decode cX3_reckonAll 20 = .ok (.idiv, 1) := by decide +kernel
theorem dX3_reckonAll_21 : decode cX3_reckonAll 21 = .ok (.iload_n 2, 1) := by decide +kernel
theorem dX3_reckonAll_22 : decode cX3_reckonAll 22 = .ok (.iconst 4, 1) := by decide +kernel
theorem dX3_reckonAll_23 : decode cX3_reckonAll 23 = .ok (.irem, 1) := by decide +kernel
theorem dX3_reckonAll_24 : decode cX3_reckonAll 24 = .ok (.invokevirtual 43, 3) := by decide +kernel
theorem dX3_reckonAll_27 : decode cX3_reckonAll 27 = .ok (.iastore, 1) := by decide +kernel
theorem dX3_reckonAll_28 : decode cX3_reckonAll 28 = .ok (.iinc 2 1, 3) := by decide +kernel
theorem dX3_reckonAll_31 : decode cX3_reckonAll 31 = .ok (.goto (-29), 3) := by decide +kernel
theorem dX3_reckonAll_34 : decode cX3_reckonAll 34 = .ok (.return_, 1) := by decide +kernel
theorem dX4_init_0 : decode cX4_init 0 = .ok (.aload_n 0, 1) := by decide +kernel
theorem dX4_init_1 : decode cX4_init 1 = .ok (.invokespecial 1, 3) := by decide +kernel
theorem dX4_init_4 : decode cX4_init 4 = .ok (.aload_n 0, 1) := by decide +kernel
theorem dX4_init_5 : decode cX4_init 5 = .ok (.bipush 120, 2) := by decide +kernel
theorem dX4_init_7 : decode cX4_init 7 = .ok (.newarray .byte, 2) := by decide +kernel
theorem dX4_init_9 : decode cX4_init 9 = .ok (.putfield 9, 3) := by decide +kernel
theorem dX4_init_12 : decode cX4_init 12 = .ok (.aload_n 0, 1) := by decide +kernel
theorem dX4_init_13 : decode cX4_init 13 = .ok (.iconst 0, 1) := by decide +kernel
theorem dX4_init_14 : decode cX4_init 14 = .ok (.putfield 13, 3) := by decide +kernel
theorem dX4_init_17 : decode cX4_init 17 = .ok (.aload_n 0, 1) := by decide +kernel
theorem dX4_init_18 : decode cX4_init 18 = .ok (.iconst 0, 1) := by decide +kernel
theorem dX4_init_19 : decode cX4_init 19 = .ok (.putfield 17, 3) := by decide +kernel
theorem dX4_init_22 : decode cX4_init 22 = .ok (.aload_n 0, 1) := by decide +kernel
theorem dX4_init_23 : decode cX4_init 23 = .ok (.iconst 0, 1) := by decide +kernel
theorem dX4_init_24 : decode cX4_init 24 = .ok (.putfield 20, 3) := by decide +kernel
theorem dX4_init_27 : decode cX4_init 27 = .ok (.aload_n 0, 1) := by decide +kernel
theorem dX4_init_28 : decode cX4_init 28 = .ok (.iconst 0, 1) := by decide +kernel
theorem dX4_init_29 : decode cX4_init 29 = .ok (.putfield 23, 3) := by decide +kernel
theorem dX4_init_32 : decode cX4_init 32 = .ok (.return_, 1) := by decide +kernel
theorem dX4_add_0 : decode cX4_add 0 = .ok (.aload_n 0, 1) := by decide +kernel
theorem dX4_add_1 : decode cX4_add 1 = .ok (.getfield 13, 3) := by decide +kernel
theorem dX4_add_4 : decode cX4_add 4 = .ok (.bipush 120, 2) := by decide +kernel
theorem dX4_add_6 : decode cX4_add 6 = .ok (.if_icmp .ge 23, 3) := by decide +kernel
theorem dX4_add_9 : decode cX4_add 9 = .ok (.aload_n 0, 1) := by decide +kernel
theorem dX4_add_10 : decode cX4_add 10 = .ok (.getfield 9, 3) := by decide +kernel
theorem dX4_add_13 : decode cX4_add 13 = .ok (.aload_n 0, 1) := by decide +kernel
theorem dX4_add_14 : decode cX4_add 14 = .ok (.getfield 13, 3) := by decide +kernel
theorem dX4_add_17 : decode cX4_add 17 = .ok (.iload_n 1, 1) := by decide +kernel
theorem dX4_add_18 : decode cX4_add 18 = .ok (.bastore, 1) := by decide +kernel
theorem dX4_add_19 : decode cX4_add 19 = .ok (.aload_n 0, 1) := by decide +kernel
theorem dX4_add_20 : decode cX4_add 20 = .ok (.dup, 1) := by decide +kernel
theorem dX4_add_21 : decode cX4_add 21 = .ok (.getfield 13, 3) := by decide +kernel
theorem dX4_add_24 : decode cX4_add 24 = .ok (.iconst 1, 1) := by decide +kernel
theorem dX4_add_25 : decode cX4_add 25 = .ok (.iadd, 1) := by decide +kernel
theorem dX4_add_26 : decode cX4_add 26 = .ok (.putfield 13, 3) := by decide +kernel
theorem dX4_add_29 : decode cX4_add 29 = .ok (.return_, 1) := by decide +kernel
theorem dX4_rewind_0 : decode cX4_rewind 0 = .ok (.aload_n 0, 1) := by decide +kernel
theorem dX4_rewind_1 : decode cX4_rewind 1 = .ok (.iconst 0, 1) := by decide +kernel
theorem dX4_rewind_2 : decode cX4_rewind 2 = .ok (.putfield 23, 3) := by decide +kernel
theorem dX4_rewind_5 : decode cX4_rewind 5 = .ok (.aload_n 0, 1) := by decide +kernel
theorem dX4_rewind_6 : decode cX4_rewind 6 = .ok (.invokevirtual 26, 3) := by decide +kernel
theorem dX4_rewind_9 : decode cX4_rewind 9 = .ok (.return_, 1) := by decide +kernel
theorem dX4_step_0 : decode cX4_step 0 = .ok (.aload_n 0, 1) := by decide +kernel
theorem dX4_step_1 : decode cX4_step 1 = .ok (.aload_n 0, 1) := by decide +kernel
theorem dX4_step_2 : decode cX4_step 2 = .ok (.getfield 23, 3) := by decide +kernel
theorem dX4_step_5 : decode cX4_step 5 = .ok (.putfield 20, 3) := by decide +kernel
theorem dX4_step_8 : decode cX4_step 8 = .ok (.aload_n 0, 1) := by decide +kernel
theorem dX4_step_9 : decode cX4_step 9 = .ok (.getfield 20, 3) := by decide +kernel
theorem dX4_step_12 : decode cX4_step 12 = .ok (.aload_n 0, 1) := by decide +kernel
theorem dX4_step_13 : decode cX4_step 13 = .ok (.getfield 13, 3) := by decide +kernel
theorem dX4_step_16 : decode cX4_step 16 = .ok (.if_icmp .ge 28, 3) := by decide +kernel
theorem dX4_step_19 : decode cX4_step 19 = .ok (.aload_n 0, 1) := by decide +kernel
theorem dX4_step_20 : decode cX4_step 20 = .ok (.aload_n 0, 1) := by decide +kernel
theorem dX4_step_21 : decode cX4_step 21 = .ok (.getfield 20, 3) := by decide +kernel
theorem dX4_step_24 : decode cX4_step 24 = .ok (.invokevirtual 29, 3) := by decide +kernel
theorem dX4_step_27 : decode cX4_step 27 = .ok (.iconst 4, 1) := by decide +kernel
theorem dX4_step_28 : decode cX4_step 28 = .ok (.if_icmp .ne 16, 3) := by decide +kernel
theorem dX4_step_31 : decode cX4_step 31 = .ok (.aload_n 0, 1) := by decide +kernel
theorem dX4_step_32 : decode cX4_step 32 = .ok (.dup, 1) := by decide +kernel
theorem dX4_step_33 : decode cX4_step 33 = .ok (.getfield 20, 3) := by decide +kernel
theorem dX4_step_36 : decode cX4_step 36 = .ok (.iconst 1, 1) := by decide +kernel
theorem dX4_step_37 : decode cX4_step 37 = .ok (.iadd, 1) := by decide +kernel
theorem dX4_step_38 : decode cX4_step 38 = .ok (.putfield 20, 3) := by decide +kernel
theorem dX4_step_41 : decode cX4_step 41 = .ok (.goto (-33), 3) := by decide +kernel
theorem dX4_step_44 : decode cX4_step 44 = .ok (.aload_n 0, 1) := by decide +kernel
theorem dX4_step_45 : decode cX4_step 45 = .ok (.aload_n 0, 1) := by decide +kernel
theorem dX4_step_46 : decode cX4_step 46 = .ok (.aload_n 0, 1) := by decide +kernel
theorem dX4_step_47 : decode cX4_step 47 = .ok (.getfield 20, 3) := by decide +kernel
theorem dX4_step_50 : decode cX4_step 50 = .ok (.invokevirtual 29, 3) := by decide +kernel
theorem dX4_step_53 : decode cX4_step 53 = .ok (.putfield 17, 3) := by decide +kernel
theorem dX4_step_56 : decode cX4_step 56 = .ok (.aload_n 0, 1) := by decide +kernel
theorem dX4_step_57 : decode cX4_step 57 = .ok (.aload_n 0, 1) := by decide +kernel
theorem dX4_step_58 : decode cX4_step 58 = .ok (.getfield 17, 3) := by decide +kernel
theorem dX4_step_61 : decode cX4_step 61 = .ok (.ifCond .ne 10, 3) := by decide +kernel
theorem dX4_step_64 : decode cX4_step 64 = .ok (.aload_n 0, 1) := by decide +kernel
theorem dX4_step_65 : decode cX4_step 65 = .ok (.getfield 20, 3) := by decide +kernel
theorem dX4_step_68 : decode cX4_step 68 = .ok (.goto 9, 3) := by decide +kernel
theorem dX4_step_71 : decode cX4_step 71 = .ok (.aload_n 0, 1) := by decide +kernel
theorem dX4_step_72 : decode cX4_step 72 = .ok (.getfield 20, 3) := by decide +kernel
theorem dX4_step_75 : decode cX4_step 75 = .ok (.iconst 1, 1) := by decide +kernel
theorem dX4_step_76 : decode cX4_step 76 = .ok (.iadd, 1) := by decide +kernel
theorem dX4_step_77 : decode cX4_step 77 = .ok (.putfield 23, 3) := by decide +kernel
theorem dX4_step_80 : decode cX4_step 80 = .ok (.aload_n 0, 1) := by decide +kernel
theorem dX4_step_81 : decode cX4_step 81 = .ok (.getfield 23, 3) := by decide +kernel
theorem dX4_step_84 : decode cX4_step 84 = .ok (.aload_n 0, 1) := by decide +kernel
theorem dX4_step_85 : decode cX4_step 85 = .ok (.getfield 13, 3) := by decide +kernel
theorem dX4_step_88 : decode cX4_step 88 = .ok (.if_icmp .ge 47, 3) := by decide +kernel
theorem dX4_step_91 : decode cX4_step 91 = .ok (.aload_n 0, 1) := by decide +kernel
theorem dX4_step_92 : decode cX4_step 92 = .ok (.getfield 17, 3) := by decide +kernel
theorem dX4_step_95 : decode cX4_step 95 = .ok (.iconst 1, 1) := by decide +kernel
theorem dX4_step_96 : decode cX4_step 96 = .ok (.if_icmp .eq 11, 3) := by decide +kernel
theorem dX4_step_99 : decode cX4_step 99 = .ok (.aload_n 0, 1) := by decide +kernel
theorem dX4_step_100 : decode cX4_step 100 = .ok (.getfield 17, 3) := by decide +kernel
theorem dX4_step_103 : decode cX4_step 103 = .ok (.iconst 2, 1) := by decide +kernel
theorem dX4_step_104 : decode cX4_step 104 = .ok (.if_icmp .ne 31, 3) := by decide +kernel
theorem dX4_step_107 : decode cX4_step 107 = .ok (.aload_n 0, 1) := by decide +kernel
theorem dX4_step_108 : decode cX4_step 108 = .ok (.aload_n 0, 1) := by decide +kernel
theorem dX4_step_109 : decode cX4_step 109 = .ok (.getfield 23, 3) := by decide +kernel
theorem dX4_step_112 : decode cX4_step 112 = .ok (.invokevirtual 29, 3) := by decide +kernel
theorem dX4_step_115 : decode cX4_step 115 = .ok (.aload_n 0, 1) := by decide +kernel
theorem dX4_step_116 : decode cX4_step 116 = .ok (.getfield 17, 3) := by decide +kernel
theorem dX4_step_119 : decode cX4_step 119 = .ok (.if_icmp .ne 16, 3) := by decide +kernel
theorem dX4_step_122 : decode cX4_step 122 = .ok (.aload_n 0, 1) := by decide +kernel
theorem dX4_step_123 : decode cX4_step 123 = .ok (.dup, 1) := by decide +kernel
theorem dX4_step_124 : decode cX4_step 124 = .ok (.getfield 23, 3) := by decide +kernel
theorem dX4_step_127 : decode cX4_step 127 = .ok (.iconst 1, 1) := by decide +kernel
theorem dX4_step_128 : decode cX4_step 128 = .ok (.iadd, 1) := by decide +kernel
theorem dX4_step_129 : decode cX4_step 129 = .ok (.putfield 23, 3) := by decide +kernel
theorem dX4_step_132 : decode cX4_step 132 = .ok (.goto (-52), 3) := by decide +kernel
theorem dX4_step_135 : decode cX4_step 135 = .ok (.return_, 1) := by decide +kernel
theorem dX4_typeAt_0 : decode cX4_typeAt 0 = .ok (.iload_n 1, 1) := by decide +kernel
theorem dX4_typeAt_1 : decode cX4_typeAt 1 = .ok (.ifCond .lt 17, 3) := by decide +kernel
theorem dX4_typeAt_4 : decode cX4_typeAt 4 = .ok (.iload_n 1, 1) := by decide +kernel
theorem dX4_typeAt_5 : decode cX4_typeAt 5 = .ok (.aload_n 0, 1) := by decide +kernel
theorem dX4_typeAt_6 : decode cX4_typeAt 6 = .ok (.getfield 13, 3) := by decide +kernel
theorem dX4_typeAt_9 : decode cX4_typeAt 9 = .ok (.if_icmp .ge 9, 3) := by decide +kernel
theorem dX4_typeAt_12 : decode cX4_typeAt 12 = .ok (.iload_n 1, 1) := by decide +kernel
theorem dX4_typeAt_13 : decode cX4_typeAt 13 = .ok (.bipush 120, 2) := by decide +kernel
theorem dX4_typeAt_15 : decode cX4_typeAt 15 = .ok (.if_icmp .lt 5, 3) := by decide +kernel
theorem dX4_typeAt_18 : decode cX4_typeAt 18 = .ok (.iconst 0, 1) := by decide +kernel
theorem dX4_typeAt_19 : decode cX4_typeAt 19 = .ok (.ireturn, 1) := by decide +kernel
theorem dX4_typeAt_20 : decode cX4_typeAt 20 = .ok (.aload_n 0, 1) := by decide +kernel
theorem dX4_typeAt_21 : decode cX4_typeAt 21 = .ok (.getfield 9, 3) := by decide +kernel
theorem dX4_typeAt_24 : decode cX4_typeAt 24 = .ok (.iload_n 1, 1) := by decide +kernel
theorem dX4_typeAt_25 : decode cX4_typeAt 25 = .ok (.baload, 1) := by decide +kernel
theorem dX4_typeAt_26 : decode cX4_typeAt 26 = .ok (.istore_n 2, 1) := by decide +kernel
theorem dX4_typeAt_27 : decode cX4_typeAt 27 = .ok (.iload_n 2, 1) := by decide +kernel
theorem dX4_typeAt_28 : decode cX4_typeAt 28 = .ok (.bipush 97, 2) := by decide +kernel
theorem dX4_typeAt_30 : decode cX4_typeAt 30 = .ok (.if_icmp .lt 11, 3) := by decide +kernel
theorem dX4_typeAt_33 : decode cX4_typeAt 33 = .ok (.iload_n 2, 1) := by decide +kernel
theorem dX4_typeAt_34 : decode cX4_typeAt 34 = .ok (.bipush 122, 2) := by decide +kernel
theorem dX4_typeAt_36 : decode cX4_typeAt 36 = .ok (.if_icmp .gt 5, 3) := by decide +kernel
theorem dX4_typeAt_39 : decode cX4_typeAt 39 = .ok (.iconst 1, 1) := by decide +kernel
theorem dX4_typeAt_40 : decode cX4_typeAt 40 = .ok (.ireturn, 1) := by decide +kernel
theorem dX4_typeAt_41 : decode cX4_typeAt 41 = .ok (.iload_n 2, 1) := by decide +kernel
theorem dX4_typeAt_42 : decode cX4_typeAt 42 = .ok (.bipush 48, 2) := by decide +kernel
theorem dX4_typeAt_44 : decode cX4_typeAt 44 = .ok (.if_icmp .lt 11, 3) := by decide +kernel
theorem dX4_typeAt_47 : decode cX4_typeAt 47 = .ok (.iload_n 2, 1) := by decide +kernel
theorem dX4_typeAt_48 : decode cX4_typeAt 48 = .ok (.bipush 57, 2) := by decide +kernel
theorem dX4_typeAt_50 : decode cX4_typeAt 50 = .ok (.if_icmp .gt 5, 3) := by decide +kernel
theorem dX4_typeAt_53 : decode cX4_typeAt 53 = .ok (.iconst 2, 1) := by decide +kernel
theorem dX4_typeAt_54 : decode cX4_typeAt 54 = .ok (.ireturn, 1) := by decide +kernel
theorem dX4_typeAt_55 : decode cX4_typeAt 55 = .ok (.iload_n 2, 1) := by decide +kernel
theorem dX4_typeAt_56 : decode cX4_typeAt 56 = .ok (.bipush 59, 2) := by decide +kernel
theorem dX4_typeAt_58 : decode cX4_typeAt 58 = .ok (.if_icmp .ne 5, 3) := by decide +kernel
theorem dX4_typeAt_61 : decode cX4_typeAt 61 = .ok (.iconst 3, 1) := by decide +kernel
theorem dX4_typeAt_62 : decode cX4_typeAt 62 = .ok (.ireturn, 1) := by decide +kernel
theorem dX4_typeAt_63 : decode cX4_typeAt 63 = .ok (.iload_n 2, 1) := by decide +kernel
theorem dX4_typeAt_64 : decode cX4_typeAt 64 = .ok (.bipush 32, 2) := by decide +kernel
theorem dX4_typeAt_66 : decode cX4_typeAt 66 = .ok (.if_icmp .ne 7, 3) := by decide +kernel
theorem dX4_typeAt_69 : decode cX4_typeAt 69 = .ok (.iconst 4, 1) := by decide +kernel
theorem dX4_typeAt_70 : decode cX4_typeAt 70 = .ok (.goto 4, 3) := by decide +kernel
theorem dX4_typeAt_73 : decode cX4_typeAt 73 = .ok (.iconst 5, 1) := by decide +kernel
theorem dX4_typeAt_74 : decode cX4_typeAt 74 = .ok (.ireturn, 1) := by decide +kernel
theorem dX4_value_0 : decode cX4_value 0 = .ok (.iconst 0, 1) := by decide +kernel
theorem dX4_value_1 : decode cX4_value 1 = .ok (.istore_n 1, 1) := by decide +kernel
theorem dX4_value_2 : decode cX4_value 2 = .ok (.aload_n 0, 1) := by decide +kernel
theorem dX4_value_3 : decode cX4_value 3 = .ok (.getfield 20, 3) := by decide +kernel
theorem dX4_value_6 : decode cX4_value 6 = .ok (.istore_n 2, 1) := by decide +kernel
theorem dX4_value_7 : decode cX4_value 7 = .ok (.iload_n 2, 1) := by decide +kernel
theorem dX4_value_8 : decode cX4_value 8 = .ok (.aload_n 0, 1) := by decide +kernel
theorem dX4_value_9 : decode cX4_value 9 = .ok (.getfield 23, 3) := by decide +kernel
theorem dX4_value_12 : decode cX4_value 12 = .ok (.if_icmp .ge 30, 3) := by decide +kernel
theorem dX4_value_15 : decode cX4_value 15 = .ok (.sipush 10000, 3) := by decide +kernel
theorem dX4_value_18 : decode cX4_value 18 = .ok (.iload_n 1, 1) := by decide +kernel
theorem dX4_value_19 : decode cX4_value 19 = .ok (.bipush 10, 2) := by decide +kernel
theorem dX4_value_21 : decode cX4_value 21 = .ok (.imul, 1) := by decide +kernel
theorem dX4_value_22 : decode cX4_value 22 = .ok (.aload_n 0, 1) := by decide +kernel
theorem dX4_value_23 : decode cX4_value 23 = .ok (.getfield 9, 3) := by decide +kernel
theorem dX4_value_26 : decode cX4_value 26 = .ok (.iload_n 2, 1) := by decide +kernel
theorem dX4_value_27 : decode cX4_value 27 = .ok (.baload, 1) := by decide +kernel
theorem dX4_value_28 : decode cX4_value 28 = .ok (.iadd, 1) := by decide +kernel
theorem dX4_value_29 : decode cX4_value 29 = .ok (.bipush 48, 2) := by decide +kernel
theorem dX4_value_31 : decode cX4_value 31 = .ok (.isub, 1) := by decide +kernel
theorem dX4_value_32 : decode cX4_value 32 = .ok (.invokestatic 33, 3) := by decide +kernel
theorem dX4_value_35 : decode cX4_value 35 = .ok (.istore_n 1, 1) := by decide +kernel
theorem dX4_value_36 : decode cX4_value 36 = .ok (.iinc 2 1, 3) := by decide +kernel
theorem dX4_value_39 : decode cX4_value 39 = .ok (.goto (-32), 3) := by decide +kernel
theorem dX4_value_42 : decode cX4_value 42 = .ok (.iload_n 1, 1) := by decide +kernel
theorem dX4_value_43 : decode cX4_value 43 = .ok (.ireturn, 1) := by decide +kernel
theorem dX4_isWord_0 : decode cX4_isWord 0 = .ok (.aload_n 0, 1) := by decide +kernel
theorem dX4_isWord_1 : decode cX4_isWord 1 = .ok (.getfield 17, 3) := by decide +kernel
theorem dX4_isWord_4 : decode cX4_isWord 4 = .ok (.iconst 1, 1) := by decide +kernel
theorem dX4_isWord_5 : decode cX4_isWord 5 = .ok (.if_icmp .ne 19, 3) := by decide +kernel
theorem dX4_isWord_8 : decode cX4_isWord 8 = .ok (.aload_n 0, 1) := by decide +kernel
theorem dX4_isWord_9 : decode cX4_isWord 9 = .ok (.getfield 23, 3) := by decide +kernel
theorem dX4_isWord_12 : decode cX4_isWord 12 = .ok (.aload_n 0, 1) := by decide +kernel
theorem dX4_isWord_13 : decode cX4_isWord 13 = .ok (.getfield 20, 3) := by decide +kernel
theorem dX4_isWord_16 : decode cX4_isWord 16 = .ok (.isub, 1) := by decide +kernel
theorem dX4_isWord_17 : decode cX4_isWord 17 = .ok (.aload_n 1, 1) := by decide +kernel
theorem dX4_isWord_18 : decode cX4_isWord 18 = .ok (.invokevirtual 39, 3) := by decide +kernel
theorem dX4_isWord_21 : decode cX4_isWord 21 = .ok (.if_icmp .eq 5, 3) := by decide +kernel
theorem dX4_isWord_24 : decode cX4_isWord 24 = .ok (.iconst 0, 1) := by decide +kernel
theorem dX4_isWord_25 : decode cX4_isWord 25 = .ok (.ireturn, 1) := by decide +kernel
theorem dX4_isWord_26 : decode cX4_isWord 26 = .ok (.iconst 0, 1) := by decide +kernel
theorem dX4_isWord_27 : decode cX4_isWord 27 = .ok (.istore_n 2, 1) := by decide +kernel
theorem dX4_isWord_28 : decode cX4_isWord 28 = .ok (.iload_n 2, 1) := by decide +kernel
theorem dX4_isWord_29 : decode cX4_isWord 29 = .ok (.aload_n 1, 1) := by decide +kernel
theorem dX4_isWord_30 : decode cX4_isWord 30 = .ok (.invokevirtual 39, 3) := by decide +kernel
theorem dX4_isWord_33 : decode cX4_isWord 33 = .ok (.if_icmp .ge 30, 3) := by decide +kernel
theorem dX4_isWord_36 : decode cX4_isWord 36 = .ok (.aload_n 0, 1) := by decide +kernel
theorem dX4_isWord_37 : decode cX4_isWord 37 = .ok (.getfield 9, 3) := by decide +kernel
theorem dX4_isWord_40 : decode cX4_isWord 40 = .ok (.aload_n 0, 1) := by decide +kernel
theorem dX4_isWord_41 : decode cX4_isWord 41 = .ok (.getfield 20, 3) := by decide +kernel
theorem dX4_isWord_44 : decode cX4_isWord 44 = .ok (.iload_n 2, 1) := by decide +kernel
theorem dX4_isWord_45 : decode cX4_isWord 45 = .ok (.iadd, 1) := by decide +kernel
theorem dX4_isWord_46 : decode cX4_isWord 46 = .ok (.baload, 1) := by decide +kernel
theorem dX4_isWord_47 : decode cX4_isWord 47 = .ok (.aload_n 1, 1) := by decide +kernel
theorem dX4_isWord_48 : decode cX4_isWord 48 = .ok (.iload_n 2, 1) := by decide +kernel
theorem dX4_isWord_49 : decode cX4_isWord 49 = .ok (.invokevirtual 45, 3) := by decide +kernel
theorem dX4_isWord_52 : decode cX4_isWord 52 = .ok (.if_icmp .eq 5, 3) := by decide +kernel
theorem dX4_isWord_55 : decode cX4_isWord 55 = .ok (.iconst 0, 1) := by decide +kernel
theorem dX4_isWord_56 : decode cX4_isWord 56 = .ok (.ireturn, 1) := by decide +kernel
theorem dX4_isWord_57 : decode cX4_isWord 57 = .ok (.iinc 2 1, 3) := by decide +kernel
theorem dX4_isWord_60 : decode cX4_isWord 60 = .ok (.goto (-32), 3) := by decide +kernel
theorem dX4_isWord_63 : decode cX4_isWord 63 = .ok (.iconst 1, 1) := by decide +kernel
theorem dX4_isWord_64 : decode cX4_isWord 64 = .ok (.ireturn, 1) := by decide +kernel
theorem dX5_init_0 : decode cX5_init 0 = .ok (.aload_n 0, 1) := by decide +kernel
theorem dX5_init_1 : decode cX5_init 1 = .ok (.invokespecial 3, 3) := by decide +kernel
theorem dX5_init_4 : decode cX5_init 4 = .ok (.aload_n 0, 1) := by decide +kernel
theorem dX5_init_5 : decode cX5_init 5 = .ok (.new 9, 3) := by decide +kernel
theorem dX5_init_8 : decode cX5_init 8 = .ok (.dup, 1) := by decide +kernel
theorem dX5_init_9 : decode cX5_init 9 = .ok (.invokespecial 11, 3) := by decide +kernel
theorem dX5_init_12 : decode cX5_init 12 = .ok (.putfield 12, 3) := by decide +kernel
theorem dX5_init_15 : decode cX5_init 15 = .ok (.aload_n 0, 1) := by decide +kernel
theorem dX5_init_16 : decode cX5_init 16 = .ok (.iconst 0, 1) := by decide +kernel
theorem dX5_init_17 : decode cX5_init 17 = .ok (.putfield 18, 3) := by decide +kernel
theorem dX5_init_20 : decode cX5_init 20 = .ok (.return_, 1) := by decide +kernel
theorem dX5_tell_0 : decode cX5_tell 0 = .ok (.aload_n 0, 1) := by decide +kernel
theorem dX5_tell_1 : decode cX5_tell 1 = .ok (.getfield 12, 3) := by decide +kernel
theorem dX5_tell_4 : decode cX5_tell 4 = .ok (.invokevirtual 22, 3) := by decide +kernel
theorem dX5_tell_7 : decode cX5_tell 7 = .ok (.iconst 1, 1) := by decide +kernel
theorem dX5_tell_8 : decode cX5_tell 8 = .ok (.istore_n 2, 1) := by decide +kernel
theorem dX5_tell_9 : decode cX5_tell 9 = .ok (.iload_n 2, 1) := by decide +kernel
theorem dX5_tell_10 : decode cX5_tell 10 = .ok (.bipush 120, 2) := by decide +kernel
theorem dX5_tell_12 : decode cX5_tell 12 = .ok (.if_icmp .gt 53, 3) := by decide +kernel
theorem dX5_tell_15 : decode cX5_tell 15 = .ok (.aload_n 0, 1) := by decide +kernel
theorem dX5_tell_16 : decode cX5_tell 16 = .ok (.aload_n 1, 1) := by decide +kernel
theorem dX5_tell_17 : decode cX5_tell 17 = .ok (.invokevirtual 25, 3) := by decide +kernel
theorem dX5_tell_20 : decode cX5_tell 20 = .ok (.ifCond .ne 6, 3) := by decide +kernel
theorem dX5_tell_23 : decode cX5_tell 23 = .ok (.goto 42, 3) := by decide +kernel
theorem dX5_tell_26 : decode cX5_tell 26 = .ok (.aload_n 0, 1) := by decide +kernel
theorem dX5_tell_27 : decode cX5_tell 27 = .ok (.getfield 12, 3) := by decide +kernel
theorem dX5_tell_30 : decode cX5_tell 30 = .ok (.getfield 29, 3) := by decide +kernel
theorem dX5_tell_33 : decode cX5_tell 33 = .ok (.ifCond .ne 5, 3) := by decide +kernel
theorem dX5_tell_36 : decode cX5_tell 36 = .ok (.iload_n 2, 1) := by decide +kernel
theorem dX5_tell_37 : decode cX5_tell 37 = .ok (.ireturn, 1) := by decide +kernel
theorem dX5_tell_38 : decode cX5_tell 38 = .ok (.aload_n 0, 1) := by decide +kernel
theorem dX5_tell_39 : decode cX5_tell 39 = .ok (.getfield 12, 3) := by decide +kernel
theorem dX5_tell_42 : decode cX5_tell 42 = .ok (.getfield 29, 3) := by decide +kernel
theorem dX5_tell_45 : decode cX5_tell 45 = .ok (.iconst 3, 1) := by decide +kernel
theorem dX5_tell_46 : decode cX5_tell 46 = .ok (.if_icmp .eq 6, 3) := by decide +kernel
theorem dX5_tell_49 : decode cX5_tell 49 = .ok (.goto 16, 3) := by decide +kernel
theorem dX5_tell_52 : decode cX5_tell 52 = .ok (.aload_n 0, 1) := by decide +kernel
theorem dX5_tell_53 : decode cX5_tell 53 = .ok (.getfield 12, 3) := by decide +kernel
theorem dX5_tell_56 : decode cX5_tell 56 = .ok (.invokevirtual 32, 3) := by decide +kernel
theorem dX5_tell_59 : decode cX5_tell 59 = .ok (.iinc 2 1, 3) := by decide +kernel
theorem dX5_tell_62 : decode cX5_tell 62 = .ok (.goto (-53), 3) := by decide +kernel
theorem dX5_tell_65 : decode cX5_tell 65 = .ok (.iconst (-1), 1) := by decide +kernel
theorem dX5_tell_66 : decode cX5_tell 66 = .ok (.aload_n 0, 1) := by decide +kernel
theorem dX5_tell_67 : decode cX5_tell 67 = .ok (.getfield 12, 3) := by decide +kernel
theorem dX5_tell_70 : decode cX5_tell 70 = .ok (.getfield 35, 3) := by decide +kernel
theorem dX5_tell_73 : decode cX5_tell 73 = .ok (.isub, 1) := by decide +kernel
theorem dX5_tell_74 : decode cX5_tell 74 = .ok (.ireturn, 1) := by decide +kernel
theorem dX5_item_0 : decode cX5_item 0 = .ok (.aload_n 0, 1) := by decide +kernel
theorem dX5_item_1 : decode cX5_item 1 = .ok (.invokevirtual 38, 3) := by decide +kernel
theorem dX5_item_4 : decode cX5_item 4 = .ok (.istore_n 2, 1) := by decide +kernel
theorem dX5_item_5 : decode cX5_item 5 = .ok (.iload_n 2, 1) := by decide +kernel
theorem dX5_item_6 : decode cX5_item 6 = .ok (.ifCond .lt 10, 3) := by decide +kernel
theorem dX5_item_9 : decode cX5_item 9 = .ok (.aload_n 0, 1) := by decide +kernel
theorem dX5_item_10 : decode cX5_item 10 = .ok (.aload_n 1, 1) := by decide +kernel
theorem dX5_item_11 : decode cX5_item 11 = .ok (.iload_n 2, 1) := by decide +kernel
theorem dX5_item_12 : decode cX5_item 12 = .ok (.invokevirtual 42, 3) := by decide +kernel
theorem dX5_item_15 : decode cX5_item 15 = .ok (.ireturn, 1) := by decide +kernel
theorem dX5_item_16 : decode cX5_item 16 = .ok (.aload_n 0, 1) := by decide +kernel
theorem dX5_item_17 : decode cX5_item 17 = .ok (.getfield 12, 3) := by decide +kernel
theorem dX5_item_20 : decode cX5_item 20 = .ok (.ldc 46, 2) := by decide +kernel
theorem dX5_item_22 : decode cX5_item 22 = .ok (.invokevirtual 48, 3) := by decide +kernel
theorem dX5_item_25 : decode cX5_item 25 = .ok (.ifCond .eq 9, 3) := by decide +kernel
theorem dX5_item_28 : decode cX5_item 28 = .ok (.aload_n 0, 1) := by decide +kernel
theorem dX5_item_29 : decode cX5_item 29 = .ok (.aload_n 1, 1) := by decide +kernel
theorem dX5_item_30 : decode cX5_item 30 = .ok (.invokevirtual 52, 3) := by decide +kernel
theorem dX5_item_33 : decode cX5_item 33 = .ok (.ireturn, 1) := by decide +kernel
theorem dX5_item_34 : decode cX5_item 34 = .ok (.aload_n 0, 1) := by decide +kernel
theorem dX5_item_35 : decode cX5_item 35 = .ok (.ldc 55, 2) := by decide +kernel
theorem dX5_item_37 : decode cX5_item 37 = .ok (.invokevirtual 57, 3) := by decide +kernel
theorem dX5_item_40 : decode cX5_item 40 = .ok (.ifCond .eq 12, 3) := by decide +kernel
theorem dX5_item_43 : decode cX5_item 43 = .ok (.aload_n 0, 1) := by decide +kernel
theorem dX5_item_44 : decode cX5_item 44 = .ok (.aload_n 1, 1) := by decide +kernel
theorem dX5_item_45 : decode cX5_item 45 = .ok (.getfield 60, 3) := by decide +kernel
theorem dX5_item_48 : decode cX5_item 48 = .ok (.invokevirtual 66, 3) := by decide +kernel
theorem dX5_item_51 : decode cX5_item 51 = .ok (.ireturn, 1) := by decide +kernel
theorem dX5_item_52 : decode cX5_item 52 = .ok (.aload_n 0, 1) := by decide +kernel
theorem dX5_item_53 : decode cX5_item 53 = .ok (.ldc 70, 2) := by decide +kernel
theorem dX5_item_55 : decode cX5_item 55 = .ok (.invokevirtual 57, 3) := by decide +kernel
theorem dX5_item_58 : decode cX5_item 58 = .ok (.ifCond .eq 13, 3) := by decide +kernel
theorem dX5_item_61 : decode cX5_item 61 = .ok (.aload_n 0, 1) := by decide +kernel
theorem dX5_item_62 : decode cX5_item 62 = .ok (.aload_n 1, 1) := by decide +kernel
theorem dX5_item_63 : decode cX5_item 63 = .ok (.getfield 60, 3) := by decide +kernel
theorem dX5_item_66 : decode cX5_item 66 = .ok (.iconst 0, 1) := by decide +kernel
theorem dX5_item_67 : decode cX5_item 67 = .ok (.invokevirtual 74, 3) := by decide +kernel
theorem dX5_item_70 : decode cX5_item 70 = .ok (.ireturn, 1) := by decide +kernel
theorem dX5_item_71 : decode cX5_item 71 = .ok (.aload_n 0, 1) := by decide +kernel
theorem dX5_item_72 : decode cX5_item 72 = .ok (.ldc 78, 2) := by decide +kernel
theorem dX5_item_74 : decode cX5_item 74 = .ok (.invokevirtual 57, 3) := by decide +kernel
theorem dX5_item_77 : decode cX5_item 77 = .ok (.ifCond .eq 13, 3) := by decide +kernel
theorem dX5_item_80 : decode cX5_item 80 = .ok (.aload_n 0, 1) := by decide +kernel
theorem dX5_item_81 : decode cX5_item 81 = .ok (.aload_n 1, 1) := by decide +kernel
theorem dX5_item_82 : decode cX5_item 82 = .ok (.getfield 60, 3) := by decide +kernel
theorem dX5_item_85 : decode cX5_item 85 = .ok (.iconst 1, 1) := by decide +kernel
theorem dX5_item_86 : decode cX5_item 86 = .ok (.invokevirtual 74, 3) := by decide +kernel
theorem dX5_item_89 : decode cX5_item 89 = .ok (.ireturn, 1) := by decide +kernel
theorem dX5_item_90 : decode cX5_item 90 = .ok (.aload_n 0, 1) := by decide +kernel
theorem dX5_item_91 : decode cX5_item 91 = .ok (.ldc 80, 2) := by decide +kernel
theorem dX5_item_93 : decode cX5_item 93 = .ok (.invokevirtual 57, 3) := by decide +kernel
theorem dX5_item_96 : decode cX5_item 96 = .ok (.ifCond .eq 13, 3) := by decide +kernel
theorem dX5_item_99 : decode cX5_item 99 = .ok (.aload_n 0, 1) := by decide +kernel
theorem dX5_item_100 : decode cX5_item 100 = .ok (.aload_n 1, 1) := by decide +kernel
theorem dX5_item_101 : decode cX5_item 101 = .ok (.getfield 60, 3) := by decide +kernel
theorem dX5_item_104 : decode cX5_item 104 = .ok (.iconst 2, 1) := by decide +kernel
theorem dX5_item_105 : decode cX5_item 105 = .ok (.invokevirtual 74, 3) := by decide +kernel
theorem dX5_item_108 : decode cX5_item 108 = .ok (.ireturn, 1) := by decide +kernel
theorem dX5_item_109 : decode cX5_item 109 = .ok (.aload_n 0, 1) := by decide +kernel
theorem dX5_item_110 : decode cX5_item 110 = .ok (.ldc 82, 2) := by decide +kernel
theorem dX5_item_112 : decode cX5_item 112 = .ok (.invokevirtual 57, 3) := by decide +kernel
theorem dX5_item_115 : decode cX5_item 115 = .ok (.ifCond .eq 15, 3) := by decide +kernel
theorem dX5_item_118 : decode cX5_item 118 = .ok (.aload_n 0, 1) := by decide +kernel
theorem dX5_item_119 : decode cX5_item 119 = .ok (.aload_n 1, 1) := by decide +kernel
theorem dX5_item_120 : decode cX5_item 120 = .ok (.invokevirtual 84, 3) := by decide +kernel
theorem dX5_item_123 : decode cX5_item 123 = .ok (.ifCond .eq 7, 3) := by decide +kernel
theorem dX5_item_126 : decode cX5_item 126 = .ok (.iconst 1, 1) := by decide +kernel
theorem dX5_item_127 : decode cX5_item 127 = .ok (.goto 4, 3) := by decide +kernel
theorem dX5_item_130 : decode cX5_item 130 = .ok (.iconst 0, 1) := by decide +kernel
theorem dX5_item_131 : decode cX5_item 131 = .ok (.ireturn, 1) := by decide +kernel
theorem dX5_namedKind_0 : decode cX5_namedKind 0 = .ok (.iconst 0, 1) := by decide +kernel
theorem dX5_namedKind_1 : decode cX5_namedKind 1 = .ok (.istore_n 1, 1) := by decide +kernel
theorem dX5_namedKind_2 : decode cX5_namedKind 2 = .ok (.iload_n 1, 1) := by decide +kernel
theorem dX5_namedKind_3 : decode cX5_namedKind 3 = .ok (.bipush 6, 2) := by decide +kernel
theorem dX5_namedKind_5 : decode cX5_namedKind 5 = .ok (.if_icmp .ge 25, 3) := by decide +kernel
theorem dX5_namedKind_8 : decode cX5_namedKind 8 = .ok (.aload_n 0, 1) := by decide +kernel
theorem dX5_namedKind_9 : decode cX5_namedKind 9 = .ok (.getfield 12, 3) := by decide +kernel
theorem dX5_namedKind_12 : decode cX5_namedKind 12 = .ok (.iload_n 1, 1) := by decide +kernel
theorem dX5_namedKind_13 : decode cX5_namedKind 13 = .ok (.invokestatic 87, 3) := by decide +kernel
theorem dX5_namedKind_16 : decode cX5_namedKind 16 = .ok (.invokevirtual 48, 3) := by decide +kernel
theorem dX5_namedKind_19 : decode cX5_namedKind 19 = .ok (.ifCond .eq 5, 3) := by decide +kernel
theorem dX5_namedKind_22 : decode cX5_namedKind 22 = .ok (.iload_n 1, 1) := by decide +kernel
theorem dX5_namedKind_23 : decode cX5_namedKind 23 = .ok (.ireturn, 1) := by decide +kernel
theorem dX5_namedKind_24 : decode cX5_namedKind 24 = .ok (.iinc 1 1, 3) := by decide +kernel
theorem dX5_namedKind_27 : decode cX5_namedKind 27 = .ok (.goto (-25), 3) := by decide +kernel
theorem dX5_namedKind_30 : decode cX5_namedKind 30 = .ok (.iconst (-1), 1) := by decide +kernel
theorem dX5_namedKind_31 : decode cX5_namedKind 31 = .ok (.ireturn, 1) := by decide +kernel
theorem dX5_nameOf_0 : decode cX5_nameOf 0 = .ok (.iload_n 0, 1) := by decide +kernel
theorem dX5_nameOf_1 : decode cX5_nameOf 1 = .ok (.tableswitch 50 0 4 #[35, 38, 41, 44, 47], 35) := by decide +kernel
theorem dX5_nameOf_36 : decode cX5_nameOf 36 = .ok (.ldc 91, 2) := by decide +kernel
theorem dX5_nameOf_38 : decode cX5_nameOf 38 = .ok (.areturn, 1) := by decide +kernel
theorem dX5_nameOf_39 : decode cX5_nameOf 39 = .ok (.ldc 93, 2) := by decide +kernel
theorem dX5_nameOf_41 : decode cX5_nameOf 41 = .ok (.areturn, 1) := by decide +kernel
theorem dX5_nameOf_42 : decode cX5_nameOf 42 = .ok (.ldc 95, 2) := by decide +kernel
theorem dX5_nameOf_44 : decode cX5_nameOf 44 = .ok (.areturn, 1) := by decide +kernel
theorem dX5_nameOf_45 : decode cX5_nameOf 45 = .ok (.ldc 97, 2) := by decide +kernel
theorem dX5_nameOf_47 : decode cX5_nameOf 47 = .ok (.areturn, 1) := by decide +kernel
theorem dX5_nameOf_48 : decode cX5_nameOf 48 = .ok (.ldc 99, 2) := by decide +kernel
theorem dX5_nameOf_50 : decode cX5_nameOf 50 = .ok (.areturn, 1) := by decide +kernel
theorem dX5_nameOf_51 : decode cX5_nameOf 51 = .ok (.ldc 101, 2) := by decide +kernel
theorem dX5_nameOf_53 : decode cX5_nameOf 53 = .ok (.areturn, 1) := by decide +kernel
theorem dX5_word_0 : decode cX5_word 0 = .ok (.aload_n 0, 1) := by decide +kernel
theorem dX5_word_1 : decode cX5_word 1 = .ok (.getfield 12, 3) := by decide +kernel
theorem dX5_word_4 : decode cX5_word 4 = .ok (.aload_n 1, 1) := by decide +kernel
theorem dX5_word_5 : decode cX5_word 5 = .ok (.invokevirtual 48, 3) := by decide +kernel
theorem dX5_word_8 : decode cX5_word 8 = .ok (.ifCond .ne 5, 3) := by decide +kernel
theorem dX5_word_11 : decode cX5_word 11 = .ok (.iconst 0, 1) := by decide +kernel
theorem dX5_word_12 : decode cX5_word 12 = .ok (.ireturn, 1) := by decide +kernel
theorem dX5_word_13 : decode cX5_word 13 = .ok (.aload_n 0, 1) := by decide +kernel
theorem dX5_word_14 : decode cX5_word 14 = .ok (.getfield 12, 3) := by decide +kernel
theorem dX5_word_17 : decode cX5_word 17 = .ok (.invokevirtual 32, 3) := by decide +kernel
theorem dX5_word_20 : decode cX5_word 20 = .ok (.iconst 1, 1) := by decide +kernel
theorem dX5_word_21 : decode cX5_word 21 = .ok (.ireturn, 1) := by decide +kernel
theorem dX5_number_0 : decode cX5_number 0 = .ok (.aload_n 0, 1) := by decide +kernel
theorem dX5_number_1 : decode cX5_number 1 = .ok (.getfield 12, 3) := by decide +kernel
theorem dX5_number_4 : decode cX5_number 4 = .ok (.getfield 29, 3) := by decide +kernel
theorem dX5_number_7 : decode cX5_number 7 = .ok (.iconst 2, 1) := by decide +kernel
theorem dX5_number_8 : decode cX5_number 8 = .ok (.if_icmp .eq 5, 3) := by decide +kernel
theorem dX5_number_11 : decode cX5_number 11 = .ok (.iconst 0, 1) := by decide +kernel
theorem dX5_number_12 : decode cX5_number 12 = .ok (.ireturn, 1) := by decide +kernel
theorem dX5_number_13 : decode cX5_number 13 = .ok (.aload_n 0, 1) := by decide +kernel
theorem dX5_number_14 : decode cX5_number 14 = .ok (.aload_n 0, 1) := by decide +kernel
theorem dX5_number_15 : decode cX5_number 15 = .ok (.getfield 12, 3) := by decide +kernel
theorem dX5_number_18 : decode cX5_number 18 = .ok (.invokevirtual 103, 3) := by decide +kernel
theorem dX5_number_21 : decode cX5_number 21 = .ok (.putfield 18, 3) := by decide +kernel
theorem dX5_number_24 : decode cX5_number 24 = .ok (.aload_n 0, 1) := by decide +kernel
theorem dX5_number_25 : decode cX5_number 25 = .ok (.getfield 18, 3) := by decide +kernel
theorem dX5_number_28 : decode cX5_number 28 = .ok (.iload_n 1, 1) := by decide +kernel
theorem dX5_number_29 : decode cX5_number 29 = .ok (.if_icmp .lt 11, 3) := by decide +kernel
theorem dX5_number_32 : decode cX5_number 32 = .ok (.aload_n 0, 1) := by decide +kernel
theorem dX5_number_33 : decode cX5_number 33 = .ok (.getfield 18, 3) := by decide +kernel
theorem dX5_number_36 : decode cX5_number 36 = .ok (.iload_n 2, 1) := by decide +kernel
theorem dX5_number_37 : decode cX5_number 37 = .ok (.if_icmp .le 5, 3) := by decide +kernel
theorem dX5_number_40 : decode cX5_number 40 = .ok (.iconst 0, 1) := by decide +kernel
theorem dX5_number_41 : decode cX5_number 41 = .ok (.ireturn, 1) := by decide +kernel
theorem dX5_number_42 : decode cX5_number 42 = .ok (.aload_n 0, 1) := by decide +kernel
theorem dX5_number_43 : decode cX5_number 43 = .ok (.getfield 12, 3) := by decide +kernel
theorem dX5_number_46 : decode cX5_number 46 = .ok (.invokevirtual 32, 3) := by decide +kernel
theorem dX5_number_49 : decode cX5_number 49 = .ok (.iconst 1, 1) := by decide +kernel
theorem dX5_number_50 : decode cX5_number 50 = .ok (.ireturn, 1) := by decide +kernel
theorem dX5_floodItem_0 : decode cX5_floodItem 0 = .ok (.aload_n 0, 1) := by decide +kernel
theorem dX5_floodItem_1 : decode cX5_floodItem 1 = .ok (.getstatic 106, 3) := by decide +kernel
theorem dX5_floodItem_4 : decode cX5_floodItem 4 = .ok (.iconst 0, 1) := by decide +kernel
theorem dX5_floodItem_5 : decode cX5_floodItem 5 = .ok (.iaload, 1) := by decide +kernel
theorem dX5_floodItem_6 : decode cX5_floodItem 6 = .ok (.getstatic 110, 3) := by decide +kernel
theorem dX5_floodItem_9 : decode cX5_floodItem 9 = .ok (.iconst 0, 1) := by decide +kernel
theorem dX5_floodItem_10 : decode cX5_floodItem 10 = .ok (.iaload, 1) := by decide +kernel
theorem dX5_floodItem_11 : decode cX5_floodItem 11 = .ok (.invokevirtual 113, 3) := by decide +kernel
theorem dX5_floodItem_14 : decode cX5_floodItem 14 = .ok (.ifCond .ne 5, 3) := by decide +kernel
theorem dX5_floodItem_17 : decode cX5_floodItem 17 = .ok (.iconst 0, 1) := by decide +kernel
theorem dX5_floodItem_18 : decode cX5_floodItem 18 = .ok (.ireturn, 1) := by decide +kernel
theorem dX5_floodItem_19 : decode cX5_floodItem 19 = .ok (.aload_n 1, 1) := by decide +kernel
theorem dX5_floodItem_20 : decode cX5_floodItem 20 = .ok (.getfield 117, 3) := by decide +kernel
theorem dX5_floodItem_23 : decode cX5_floodItem 23 = .ok (.iconst 0, 1) := by decide +kernel
theorem dX5_floodItem_24 : decode cX5_floodItem 24 = .ok (.aload_n 0, 1) := by decide +kernel
theorem dX5_floodItem_25 : decode cX5_floodItem 25 = .ok (.getfield 18, 3) := by decide +kernel
theorem dX5_floodItem_28 : decode cX5_floodItem 28 = .ok (.iastore, 1) := by decide +kernel
theorem dX5_floodItem_29 : decode cX5_floodItem 29 = .ok (.aload_n 0, 1) := by decide +kernel
theorem dX5_floodItem_30 : decode cX5_floodItem 30 = .ok (.ldc 120, 2) := by decide +kernel
theorem dX5_floodItem_32 : decode cX5_floodItem 32 = .ok (.invokevirtual 57, 3) := by decide +kernel
theorem dX5_floodItem_35 : decode cX5_floodItem 35 = .ok (.ifCond .eq 32, 3) := by decide +kernel
theorem dX5_floodItem_38 : decode cX5_floodItem 38 = .ok (.aload_n 0, 1) := by decide +kernel
theorem dX5_floodItem_39 : decode cX5_floodItem 39 = .ok (.getstatic 106, 3) := by decide +kernel
theorem dX5_floodItem_42 : decode cX5_floodItem 42 = .ok (.iconst 1, 1) := by decide +kernel
theorem dX5_floodItem_43 : decode cX5_floodItem 43 = .ok (.iaload, 1) := by decide +kernel
theorem dX5_floodItem_44 : decode cX5_floodItem 44 = .ok (.getstatic 110, 3) := by decide +kernel
theorem dX5_floodItem_47 : decode cX5_floodItem 47 = .ok (.iconst 1, 1) := by decide +kernel
theorem dX5_floodItem_48 : decode cX5_floodItem 48 = .ok (.iaload, 1) := by decide +kernel
theorem dX5_floodItem_49 : decode cX5_floodItem 49 = .ok (.invokevirtual 113, 3) := by decide +kernel
theorem dX5_floodItem_52 : decode cX5_floodItem 52 = .ok (.ifCond .ne 5, 3) := by decide +kernel
theorem dX5_floodItem_55 : decode cX5_floodItem 55 = .ok (.iconst 0, 1) := by decide +kernel
theorem dX5_floodItem_56 : decode cX5_floodItem 56 = .ok (.ireturn, 1) := by decide +kernel
theorem dX5_floodItem_57 : decode cX5_floodItem 57 = .ok (.aload_n 1, 1) := by decide +kernel
theorem dX5_floodItem_58 : decode cX5_floodItem 58 = .ok (.getfield 117, 3) := by decide +kernel
theorem dX5_floodItem_61 : decode cX5_floodItem 61 = .ok (.iconst 1, 1) := by decide +kernel
theorem dX5_floodItem_62 : decode cX5_floodItem 62 = .ok (.aload_n 0, 1) := by decide +kernel
theorem dX5_floodItem_63 : decode cX5_floodItem 63 = .ok (.getfield 18, 3) := by decide +kernel
theorem dX5_floodItem_66 : decode cX5_floodItem 66 = .ok (.iastore, 1) := by decide +kernel
theorem dX5_floodItem_67 : decode cX5_floodItem 67 = .ok (.aload_n 0, 1) := by decide +kernel
theorem dX5_floodItem_68 : decode cX5_floodItem 68 = .ok (.ldc 122, 2) := by decide +kernel
theorem dX5_floodItem_70 : decode cX5_floodItem 70 = .ok (.invokevirtual 57, 3) := by decide +kernel
theorem dX5_floodItem_73 : decode cX5_floodItem 73 = .ok (.ifCond .eq 32, 3) := by decide +kernel
theorem dX5_floodItem_76 : decode cX5_floodItem 76 = .ok (.aload_n 0, 1) := by decide +kernel
theorem dX5_floodItem_77 : decode cX5_floodItem 77 = .ok (.getstatic 106, 3) := by decide +kernel
theorem dX5_floodItem_80 : decode cX5_floodItem 80 = .ok (.iconst 2, 1) := by decide +kernel
theorem dX5_floodItem_81 : decode cX5_floodItem 81 = .ok (.iaload, 1) := by decide +kernel
theorem dX5_floodItem_82 : decode cX5_floodItem 82 = .ok (.getstatic 110, 3) := by decide +kernel
theorem dX5_floodItem_85 : decode cX5_floodItem 85 = .ok (.iconst 2, 1) := by decide +kernel
theorem dX5_floodItem_86 : decode cX5_floodItem 86 = .ok (.iaload, 1) := by decide +kernel
theorem dX5_floodItem_87 : decode cX5_floodItem 87 = .ok (.invokevirtual 113, 3) := by decide +kernel
theorem dX5_floodItem_90 : decode cX5_floodItem 90 = .ok (.ifCond .ne 5, 3) := by decide +kernel
theorem dX5_floodItem_93 : decode cX5_floodItem 93 = .ok (.iconst 0, 1) := by decide +kernel
theorem dX5_floodItem_94 : decode cX5_floodItem 94 = .ok (.ireturn, 1) := by decide +kernel
theorem dX5_floodItem_95 : decode cX5_floodItem 95 = .ok (.aload_n 1, 1) := by decide +kernel
theorem dX5_floodItem_96 : decode cX5_floodItem 96 = .ok (.getfield 117, 3) := by decide +kernel
theorem dX5_floodItem_99 : decode cX5_floodItem 99 = .ok (.iconst 2, 1) := by decide +kernel
theorem dX5_floodItem_100 : decode cX5_floodItem 100 = .ok (.aload_n 0, 1) := by decide +kernel
theorem dX5_floodItem_101 : decode cX5_floodItem 101 = .ok (.getfield 18, 3) := by decide +kernel
theorem dX5_floodItem_104 : decode cX5_floodItem 104 = .ok (.iastore, 1) := by decide +kernel
theorem dX5_floodItem_105 : decode cX5_floodItem 105 = .ok (.iconst 1, 1) := by decide +kernel
theorem dX5_floodItem_106 : decode cX5_floodItem 106 = .ok (.ireturn, 1) := by decide +kernel
theorem dX5_setItem_0 : decode cX5_setItem 0 = .ok (.iconst 0, 1) := by decide +kernel
theorem dX5_setItem_1 : decode cX5_setItem 1 = .ok (.istore_n 3, 1) := by decide +kernel
theorem dX5_setItem_2 : decode cX5_setItem 2 = .ok (.iconst 0, 1) := by decide +kernel
theorem dX5_setItem_3 : decode cX5_setItem 3 = .ok (.istore 4, 2) := by decide +kernel
theorem dX5_setItem_5 : decode cX5_setItem 5 = .ok (.aload_n 0, 1) := by decide +kernel
theorem dX5_setItem_6 : decode cX5_setItem 6 = .ok (.iload 4, 2) := by decide +kernel
theorem dX5_setItem_8 : decode cX5_setItem 8 = .ok (.bipush 29, 2) := by decide +kernel
theorem dX5_setItem_10 : decode cX5_setItem 10 = .ok (.invokevirtual 113, 3) := by decide +kernel
theorem dX5_setItem_13 : decode cX5_setItem 13 = .ok (.ifCond .ne 5, 3) := by decide +kernel
theorem dX5_setItem_16 : decode cX5_setItem 16 = .ok (.iconst 0, 1) := by decide +kernel
theorem dX5_setItem_17 : decode cX5_setItem 17 = .ok (.ireturn, 1) := by decide +kernel
theorem dX5_setItem_18 : decode cX5_setItem 18 = .ok (.iload_n 3, 1) := by decide +kernel
theorem dX5_setItem_19 : decode cX5_setItem 19 = .ok (.iconst 1, 1) := by decide +kernel
theorem dX5_setItem_20 : decode cX5_setItem 20 = .ok (.aload_n 0, 1) := by decide +kernel
theorem dX5_setItem_21 : decode cX5_setItem 21 = .ok (.getfield 18, 3) := by decide +kernel
theorem dX5_setItem_24 : decode cX5_setItem 24 = .ok (.ishl, 1) := by decide +kernel
theorem dX5_setItem_25 : decode cX5_setItem 25 = .ok (.ior, 1) := by decide +kernel
theorem dX5_setItem_26 : decode cX5_setItem 26 = .ok (.istore_n 3, 1) := by decide +kernel
theorem dX5_setItem_27 : decode cX5_setItem 27 = .ok (.aload_n 0, 1) := by decide +kernel
theorem dX5_setItem_28 : decode cX5_setItem 28 = .ok (.getfield 18, 3) := by decide +kernel
theorem dX5_setItem_31 : decode cX5_setItem 31 = .ok (.iconst 1, 1) := by decide +kernel
theorem dX5_setItem_32 : decode cX5_setItem 32 = .ok (.iadd, 1) := by decide +kernel
theorem dX5_setItem_33 : decode cX5_setItem 33 = .ok (.istore 4, 2) := by decide +kernel
theorem dX5_setItem_35 : decode cX5_setItem 35 = .ok (.aload_n 0, 1) := by decide +kernel
theorem dX5_setItem_36 : decode cX5_setItem 36 = .ok (.getfield 12, 3) := by decide +kernel
theorem dX5_setItem_39 : decode cX5_setItem 39 = .ok (.getfield 29, 3) := by decide +kernel
theorem dX5_setItem_42 : decode cX5_setItem 42 = .ok (.iconst 2, 1) := by decide +kernel
theorem dX5_setItem_43 : decode cX5_setItem 43 = .ok (.if_icmp .ne 10, 3) := by decide +kernel
theorem dX5_setItem_46 : decode cX5_setItem 46 = .ok (.iload 4, 2) := by decide +kernel
theorem dX5_setItem_48 : decode cX5_setItem 48 = .ok (.bipush 30, 2) := by decide +kernel
theorem dX5_setItem_50 : decode cX5_setItem 50 = .ok (.if_icmp .le (-45), 3) := by decide +kernel
theorem dX5_setItem_53 : decode cX5_setItem 53 = .ok (.aload_n 1, 1) := by decide +kernel
theorem dX5_setItem_54 : decode cX5_setItem 54 = .ok (.getfield 124, 3) := by decide +kernel
theorem dX5_setItem_57 : decode cX5_setItem 57 = .ok (.iload_n 2, 1) := by decide +kernel
theorem dX5_setItem_58 : decode cX5_setItem 58 = .ok (.iload_n 3, 1) := by decide +kernel
theorem dX5_setItem_59 : decode cX5_setItem 59 = .ok (.iastore, 1) := by decide +kernel
theorem dX5_setItem_60 : decode cX5_setItem 60 = .ok (.iconst 1, 1) := by decide +kernel
theorem dX5_setItem_61 : decode cX5_setItem 61 = .ok (.ireturn, 1) := by decide +kernel
theorem dX5_houseItem_0 : decode cX5_houseItem 0 = .ok (.aload_n 1, 1) := by decide +kernel
theorem dX5_houseItem_1 : decode cX5_houseItem 1 = .ok (.getfield 127, 3) := by decide +kernel
theorem dX5_houseItem_4 : decode cX5_houseItem 4 = .ok (.bipush 8, 2) := by decide +kernel
theorem dX5_houseItem_6 : decode cX5_houseItem 6 = .ok (.if_icmp .lt 5, 3) := by decide +kernel
theorem dX5_houseItem_9 : decode cX5_houseItem 9 = .ok (.iconst 0, 1) := by decide +kernel
theorem dX5_houseItem_10 : decode cX5_houseItem 10 = .ok (.ireturn, 1) := by decide +kernel
theorem dX5_houseItem_11 : decode cX5_houseItem 11 = .ok (.aload_n 0, 1) := by decide +kernel
theorem dX5_houseItem_12 : decode cX5_houseItem 12 = .ok (.getfield 12, 3) := by decide +kernel
theorem dX5_houseItem_15 : decode cX5_houseItem 15 = .ok (.invokevirtual 32, 3) := by decide +kernel
theorem dX5_houseItem_18 : decode cX5_houseItem 18 = .ok (.aload_n 0, 1) := by decide +kernel
theorem dX5_houseItem_19 : decode cX5_houseItem 19 = .ok (.iconst 0, 1) := by decide +kernel
theorem dX5_houseItem_20 : decode cX5_houseItem 20 = .ok (.iconst 3, 1) := by decide +kernel
theorem dX5_houseItem_21 : decode cX5_houseItem 21 = .ok (.invokevirtual 113, 3) := by decide +kernel
theorem dX5_houseItem_24 : decode cX5_houseItem 24 = .ok (.ifCond .ne 5, 3) := by decide +kernel
theorem dX5_houseItem_27 : decode cX5_houseItem 27 = .ok (.iconst 0, 1) := by decide +kernel
theorem dX5_houseItem_28 : decode cX5_houseItem 28 = .ok (.ireturn, 1) := by decide +kernel
theorem dX5_houseItem_29 : decode cX5_houseItem 29 = .ok (.aload_n 1, 1) := by decide +kernel
theorem dX5_houseItem_30 : decode cX5_houseItem 30 = .ok (.iload_n 2, 1) := by decide +kernel
theorem dX5_houseItem_31 : decode cX5_houseItem 31 = .ok (.aload_n 0, 1) := by decide +kernel
theorem dX5_houseItem_32 : decode cX5_houseItem 32 = .ok (.getfield 18, 3) := by decide +kernel
theorem dX5_houseItem_35 : decode cX5_houseItem 35 = .ok (.invokevirtual 130, 3) := by decide +kernel
theorem dX5_houseItem_38 : decode cX5_houseItem 38 = .ok (.pop, 1) := by decide +kernel
theorem dX5_houseItem_39 : decode cX5_houseItem 39 = .ok (.iconst 1, 1) := by decide +kernel
theorem dX5_houseItem_40 : decode cX5_houseItem 40 = .ok (.ireturn, 1) := by decide +kernel
theorem dX5_shipItem_0 : decode cX5_shipItem 0 = .ok (.aload_n 1, 1) := by decide +kernel
theorem dX5_shipItem_1 : decode cX5_shipItem 1 = .ok (.getfield 134, 3) := by decide +kernel
theorem dX5_shipItem_4 : decode cX5_shipItem 4 = .ok (.bipush 6, 2) := by decide +kernel
theorem dX5_shipItem_6 : decode cX5_shipItem 6 = .ok (.if_icmp .lt 5, 3) := by decide +kernel
theorem dX5_shipItem_9 : decode cX5_shipItem 9 = .ok (.iconst 0, 1) := by decide +kernel
theorem dX5_shipItem_10 : decode cX5_shipItem 10 = .ok (.ireturn, 1) := by decide +kernel
theorem dX5_shipItem_11 : decode cX5_shipItem 11 = .ok (.aload_n 0, 1) := by decide +kernel
theorem dX5_shipItem_12 : decode cX5_shipItem 12 = .ok (.getfield 12, 3) := by decide +kernel
theorem dX5_shipItem_15 : decode cX5_shipItem 15 = .ok (.invokevirtual 32, 3) := by decide +kernel
theorem dX5_shipItem_18 : decode cX5_shipItem 18 = .ok (.aload_n 0, 1) := by decide +kernel
theorem dX5_shipItem_19 : decode cX5_shipItem 19 = .ok (.iconst 0, 1) := by decide +kernel
theorem dX5_shipItem_20 : decode cX5_shipItem 20 = .ok (.iconst 3, 1) := by decide +kernel
theorem dX5_shipItem_21 : decode cX5_shipItem 21 = .ok (.invokevirtual 113, 3) := by decide +kernel
theorem dX5_shipItem_24 : decode cX5_shipItem 24 = .ok (.ifCond .ne 5, 3) := by decide +kernel
theorem dX5_shipItem_27 : decode cX5_shipItem 27 = .ok (.iconst 0, 1) := by decide +kernel
theorem dX5_shipItem_28 : decode cX5_shipItem 28 = .ok (.ireturn, 1) := by decide +kernel
theorem dX5_shipItem_29 : decode cX5_shipItem 29 = .ok (.aload_n 0, 1) := by decide +kernel
theorem dX5_shipItem_30 : decode cX5_shipItem 30 = .ok (.getfield 18, 3) := by decide +kernel
theorem dX5_shipItem_33 : decode cX5_shipItem 33 = .ok (.istore_n 2, 1) := by decide +kernel
theorem dX5_shipItem_34 : decode cX5_shipItem 34 = .ok (.aload_n 0, 1) := by decide +kernel
theorem dX5_shipItem_35 : decode cX5_shipItem 35 = .ok (.ldc 137, 2) := by decide +kernel
theorem dX5_shipItem_37 : decode cX5_shipItem 37 = .ok (.invokevirtual 57, 3) := by decide +kernel
theorem dX5_shipItem_40 : decode cX5_shipItem 40 = .ok (.ifCond .eq 14, 3) := by decide +kernel
theorem dX5_shipItem_43 : decode cX5_shipItem 43 = .ok (.aload_n 0, 1) := by decide +kernel
theorem dX5_shipItem_44 : decode cX5_shipItem 44 = .ok (.iconst 0, 1) := by decide +kernel
theorem dX5_shipItem_45 : decode cX5_shipItem 45 = .ok (.sipush 9999, 3) := by decide +kernel
theorem dX5_shipItem_48 : decode cX5_shipItem 48 = .ok (.invokevirtual 113, 3) := by decide +kernel
theorem dX5_shipItem_51 : decode cX5_shipItem 51 = .ok (.ifCond .ne 5, 3) := by decide +kernel
theorem dX5_shipItem_54 : decode cX5_shipItem 54 = .ok (.iconst 0, 1) := by decide +kernel
theorem dX5_shipItem_55 : decode cX5_shipItem 55 = .ok (.ireturn, 1) := by decide +kernel
theorem dX5_shipItem_56 : decode cX5_shipItem 56 = .ok (.aload_n 0, 1) := by decide +kernel
theorem dX5_shipItem_57 : decode cX5_shipItem 57 = .ok (.getfield 18, 3) := by decide +kernel
theorem dX5_shipItem_60 : decode cX5_shipItem 60 = .ok (.istore_n 3, 1) := by decide +kernel
theorem dX5_shipItem_61 : decode cX5_shipItem 61 = .ok (.aload_n 0, 1) := by decide +kernel
theorem dX5_shipItem_62 : decode cX5_shipItem 62 = .ok (.ldc 139, 2) := by decide +kernel
theorem dX5_shipItem_64 : decode cX5_shipItem 64 = .ok (.invokevirtual 57, 3) := by decide +kernel
theorem dX5_shipItem_67 : decode cX5_shipItem 67 = .ok (.ifCond .eq 13, 3) := by decide +kernel
theorem dX5_shipItem_70 : decode cX5_shipItem 70 = .ok (.aload_n 0, 1) := by decide +kernel
theorem dX5_shipItem_71 : decode cX5_shipItem 71 = .ok (.iconst 1, 1) := by decide +kernel
theorem dX5_shipItem_72 : decode cX5_shipItem 72 = .ok (.bipush 40, 2) := by decide +kernel
theorem dX5_shipItem_74 : decode cX5_shipItem 74 = .ok (.invokevirtual 113, 3) := by decide +kernel
theorem dX5_shipItem_77 : decode cX5_shipItem 77 = .ok (.ifCond .ne 5, 3) := by decide +kernel
theorem dX5_shipItem_80 : decode cX5_shipItem 80 = .ok (.iconst 0, 1) := by decide +kernel
theorem dX5_shipItem_81 : decode cX5_shipItem 81 = .ok (.ireturn, 1) := by decide +kernel
theorem dX5_shipItem_82 : decode cX5_shipItem 82 = .ok (.aload_n 0, 1) := by decide +kernel
theorem dX5_shipItem_83 : decode cX5_shipItem 83 = .ok (.getfield 18, 3) := by decide +kernel
theorem dX5_shipItem_86 : decode cX5_shipItem 86 = .ok (.istore 4, 2) := by decide +kernel
theorem dX5_shipItem_88 : decode cX5_shipItem 88 = .ok (.iconst (-1), 1) := by decide +kernel
theorem dX5_shipItem_89 : decode cX5_shipItem 89 = .ok (.istore 5, 2) := by decide +kernel
theorem dX5_shipItem_91 : decode cX5_shipItem 91 = .ok (.aload_n 0, 1) := by decide +kernel
theorem dX5_shipItem_92 : decode cX5_shipItem 92 = .ok (.ldc 141, 2) := by decide +kernel
theorem dX5_shipItem_94 : decode cX5_shipItem 94 = .ok (.invokevirtual 57, 3) := by decide +kernel
theorem dX5_shipItem_97 : decode cX5_shipItem 97 = .ok (.ifCond .eq 20, 3) := by decide +kernel
theorem dX5_shipItem_100 : decode cX5_shipItem 100 = .ok (.aload_n 0, 1) := by decide +kernel
theorem dX5_shipItem_101 : decode cX5_shipItem 101 = .ok (.iconst 0, 1) := by decide +kernel
theorem dX5_shipItem_102 : decode cX5_shipItem 102 = .ok (.iconst 3, 1) := by decide +kernel
theorem dX5_shipItem_103 : decode cX5_shipItem 103 = .ok (.invokevirtual 113, 3) := by decide +kernel
theorem dX5_shipItem_106 : decode cX5_shipItem 106 = .ok (.ifCond .ne 5, 3) := by decide +kernel
theorem dX5_shipItem_109 : decode cX5_shipItem 109 = .ok (.iconst 0, 1) := by decide +kernel
theorem dX5_shipItem_110 : decode cX5_shipItem 110 = .ok (.ireturn, 1) := by decide +kernel
theorem dX5_shipItem_111 : decode cX5_shipItem 111 = .ok (.aload_n 0, 1) := by decide +kernel
theorem dX5_shipItem_112 : decode cX5_shipItem 112 = .ok (.getfield 18, 3) := by decide +kernel
theorem dX5_shipItem_115 : decode cX5_shipItem 115 = .ok (.istore 5, 2) := by decide +kernel
theorem dX5_shipItem_117 : decode cX5_shipItem 117 = .ok (.aload_n 1, 1) := by decide +kernel
theorem dX5_shipItem_118 : decode cX5_shipItem 118 = .ok (.iload_n 2, 1) := by decide +kernel
theorem dX5_shipItem_119 : decode cX5_shipItem 119 = .ok (.iload_n 3, 1) := by decide +kernel
theorem dX5_shipItem_120 : decode cX5_shipItem 120 = .ok (.iload 4, 2) := by decide +kernel
theorem dX5_shipItem_122 : decode cX5_shipItem 122 = .ok (.iload 5, 2) := by decide +kernel
theorem dX5_shipItem_124 : decode cX5_shipItem 124 = .ok (.invokevirtual 143, 3) := by decide +kernel
theorem dX5_shipItem_127 : decode cX5_shipItem 127 = .ok (.pop, 1) := by decide +kernel
theorem dX5_shipItem_128 : decode cX5_shipItem 128 = .ok (.iconst 1, 1) := by decide +kernel
theorem dX5_shipItem_129 : decode cX5_shipItem 129 = .ok (.ireturn, 1) := by decide +kernel
theorem dX5_windItem_0 : decode cX5_windItem 0 = .ok (.aload_n 0, 1) := by decide +kernel
theorem dX5_windItem_1 : decode cX5_windItem 1 = .ok (.iconst 0, 1) := by decide +kernel
theorem dX5_windItem_2 : decode cX5_windItem 2 = .ok (.iconst 3, 1) := by decide +kernel
theorem dX5_windItem_3 : decode cX5_windItem 3 = .ok (.invokevirtual 113, 3) := by decide +kernel
theorem dX5_windItem_6 : decode cX5_windItem 6 = .ok (.ifCond .ne 5, 3) := by decide +kernel
theorem dX5_windItem_9 : decode cX5_windItem 9 = .ok (.iconst 0, 1) := by decide +kernel
theorem dX5_windItem_10 : decode cX5_windItem 10 = .ok (.ireturn, 1) := by decide +kernel
theorem dX5_windItem_11 : decode cX5_windItem 11 = .ok (.aload_n 1, 1) := by decide +kernel
theorem dX5_windItem_12 : decode cX5_windItem 12 = .ok (.aload_n 0, 1) := by decide +kernel
theorem dX5_windItem_13 : decode cX5_windItem 13 = .ok (.getfield 18, 3) := by decide +kernel
theorem dX5_windItem_16 : decode cX5_windItem 16 = .ok (.putfield 147, 3) := by decide +kernel
theorem dX5_windItem_19 : decode cX5_windItem 19 = .ok (.aload_n 0, 1) := by decide +kernel
theorem dX5_windItem_20 : decode cX5_windItem 20 = .ok (.iconst 0, 1) := by decide +kernel
theorem dX5_windItem_21 : decode cX5_windItem 21 = .ok (.bipush 9, 2) := by decide +kernel
theorem dX5_windItem_23 : decode cX5_windItem 23 = .ok (.invokevirtual 113, 3) := by decide +kernel
theorem dX5_windItem_26 : decode cX5_windItem 26 = .ok (.ifCond .ne 5, 3) := by decide +kernel
theorem dX5_windItem_29 : decode cX5_windItem 29 = .ok (.iconst 0, 1) := by decide +kernel
theorem dX5_windItem_30 : decode cX5_windItem 30 = .ok (.ireturn, 1) := by decide +kernel
theorem dX5_windItem_31 : decode cX5_windItem 31 = .ok (.aload_n 1, 1) := by decide +kernel
theorem dX5_windItem_32 : decode cX5_windItem 32 = .ok (.aload_n 0, 1) := by decide +kernel
theorem dX5_windItem_33 : decode cX5_windItem 33 = .ok (.getfield 18, 3) := by decide +kernel
theorem dX5_windItem_36 : decode cX5_windItem 36 = .ok (.putfield 150, 3) := by decide +kernel
theorem dX5_windItem_39 : decode cX5_windItem 39 = .ok (.iconst 1, 1) := by decide +kernel
theorem dX5_windItem_40 : decode cX5_windItem 40 = .ok (.ireturn, 1) := by decide +kernel
theorem dX6_init_0 : decode cX6_init 0 = .ok (.aload_n 0, 1) := by decide +kernel
theorem dX6_init_1 : decode cX6_init 1 = .ok (.invokespecial 3, 3) := by decide +kernel
theorem dX6_init_4 : decode cX6_init 4 = .ok (.aload_n 0, 1) := by decide +kernel
theorem dX6_init_5 : decode cX6_init 5 = .ok (.iconst 4, 1) := by decide +kernel
theorem dX6_init_6 : decode cX6_init 6 = .ok (.newarray .int, 2) := by decide +kernel
theorem dX6_init_8 : decode cX6_init 8 = .ok (.dup, 1) := by decide +kernel
theorem dX6_init_9 : decode cX6_init 9 = .ok (.iconst 0, 1) := by decide +kernel
theorem dX6_init_10 : decode cX6_init 10 = .ok (.bipush 20, 2) := by decide +kernel
theorem dX6_init_12 : decode cX6_init 12 = .ok (.iastore, 1) := by decide +kernel
theorem dX6_init_13 : decode cX6_init 13 = .ok (.dup, 1) := by decide +kernel
theorem dX6_init_14 : decode cX6_init 14 = .ok (.iconst 1, 1) := by decide +kernel
theorem dX6_init_15 : decode cX6_init 15 = .ok (.bipush 50, 2) := by decide +kernel
theorem dX6_init_17 : decode cX6_init 17 = .ok (.iastore, 1) := by decide +kernel
theorem dX6_init_18 : decode cX6_init 18 = .ok (.dup, 1) := by decide +kernel
theorem dX6_init_19 : decode cX6_init 19 = .ok (.iconst 2, 1) := by decide +kernel
theorem dX6_init_20 : decode cX6_init 20 = .ok (.iconst 3, 1) := by decide +kernel
theorem dX6_init_21 : decode cX6_init 21 = .ok (.iastore, 1) := by decide +kernel
theorem dX6_init_22 : decode cX6_init 22 = .ok (.dup, 1) := by decide +kernel
theorem dX6_init_23 : decode cX6_init 23 = .ok (.iconst 3, 1) := by decide +kernel
theorem dX6_init_24 : decode cX6_init 24 = .ok (.iconst 0, 1) := by decide +kernel
theorem dX6_init_25 : decode cX6_init 25 = .ok (.iastore, 1) := by decide +kernel
theorem dX6_init_26 : decode cX6_init 26 = .ok (.putfield 9, 3) := by decide +kernel
theorem dX6_init_29 : decode cX6_init 29 = .ok (.aload_n 0, 1) := by decide +kernel
theorem dX6_init_30 : decode cX6_init 30 = .ok (.iconst 3, 1) := by decide +kernel
theorem dX6_init_31 : decode cX6_init 31 = .ok (.newarray .int, 2) := by decide +kernel
theorem dX6_init_33 : decode cX6_init 33 = .ok (.putfield 15, 3) := by decide +kernel
theorem dX6_init_36 : decode cX6_init 36 = .ok (.return_, 1) := by decide +kernel
theorem dX6_mayBe_0 : decode cX6_mayBe 0 = .ok (.iload_n 0, 1) := by decide +kernel
theorem dX6_mayBe_1 : decode cX6_mayBe 1 = .ok (.ifCond .lt 33, 3) := by decide +kernel
theorem dX6_mayBe_4 : decode cX6_mayBe 4 = .ok (.iload_n 0, 1) := by decide +kernel
theorem dX6_mayBe_5 : decode cX6_mayBe 5 = .ok (.getstatic 18, 3) := by decide +kernel
theorem dX6_mayBe_8 : decode cX6_mayBe 8 = .ok (.arraylength, 1) := by decide +kernel
theorem dX6_mayBe_9 : decode cX6_mayBe 9 = .ok (.if_icmp .ge 25, 3) := by decide +kernel
theorem dX6_mayBe_12 : decode cX6_mayBe 12 = .ok (.iload_n 1, 1) := by decide +kernel
theorem dX6_mayBe_13 : decode cX6_mayBe 13 = .ok (.getstatic 18, 3) := by decide +kernel
theorem dX6_mayBe_16 : decode cX6_mayBe 16 = .ok (.iload_n 0, 1) := by decide +kernel
theorem dX6_mayBe_17 : decode cX6_mayBe 17 = .ok (.iaload, 1) := by decide +kernel
theorem dX6_mayBe_18 : decode cX6_mayBe 18 = .ok (.if_icmp .lt 16, 3) := by decide +kernel
theorem dX6_mayBe_21 : decode cX6_mayBe 21 = .ok (.iload_n 1, 1) := by decide +kernel
theorem dX6_mayBe_22 : decode cX6_mayBe 22 = .ok (.getstatic 21, 3) := by decide +kernel
theorem dX6_mayBe_25 : decode cX6_mayBe 25 = .ok (.iload_n 0, 1) := by decide +kernel
theorem dX6_mayBe_26 : decode cX6_mayBe 26 = .ok (.iaload, 1) := by decide +kernel
theorem dX6_mayBe_27 : decode cX6_mayBe 27 = .ok (.if_icmp .gt 7, 3) := by decide +kernel
theorem dX6_mayBe_30 : decode cX6_mayBe 30 = .ok (.iconst 1, 1) := by decide +kernel
theorem dX6_mayBe_31 : decode cX6_mayBe 31 = .ok (.goto 4, 3) := by decide +kernel
theorem dX6_mayBe_34 : decode cX6_mayBe 34 = .ok (.iconst 0, 1) := by decide +kernel
theorem dX6_mayBe_35 : decode cX6_mayBe 35 = .ok (.ireturn, 1) := by decide +kernel
theorem dX6_become_0 : decode cX6_become 0 = .ok (.aload_n 1, 1) := by decide +kernel
theorem dX6_become_1 : decode cX6_become 1 = .ok (.getfield 9, 3) := by decide +kernel
theorem dX6_become_4 : decode cX6_become 4 = .ok (.iconst 0, 1) := by decide +kernel
theorem dX6_become_5 : decode cX6_become 5 = .ok (.aload_n 0, 1) := by decide +kernel
theorem dX6_become_6 : decode cX6_become 6 = .ok (.getfield 9, 3) := by decide +kernel
theorem dX6_become_9 : decode cX6_become 9 = .ok (.iconst 0, 1) := by decide +kernel
theorem dX6_become_10 : decode cX6_become 10 = .ok (.aload_n 0, 1) := by decide +kernel
theorem dX6_become_11 : decode cX6_become 11 = .ok (.getfield 9, 3) := by decide +kernel
theorem dX6_become_14 : decode cX6_become 14 = .ok (.arraylength, 1) := by decide +kernel
theorem dX6_become_15 : decode cX6_become 15 = .ok (.invokestatic 24, 3) := by decide +kernel
theorem dX6_become_18 : decode cX6_become 18 = .ok (.aload_n 1, 1) := by decide +kernel
theorem dX6_become_19 : decode cX6_become 19 = .ok (.getfield 15, 3) := by decide +kernel
theorem dX6_become_22 : decode cX6_become 22 = .ok (.iconst 0, 1) := by decide +kernel
theorem dX6_become_23 : decode cX6_become 23 = .ok (.aload_n 0, 1) := by decide +kernel
theorem dX6_become_24 : decode cX6_become 24 = .ok (.getfield 15, 3) := by decide +kernel
theorem dX6_become_27 : decode cX6_become 27 = .ok (.iconst 0, 1) := by decide +kernel
theorem dX6_become_28 : decode cX6_become 28 = .ok (.iconst 3, 1) := by decide +kernel
theorem dX6_become_29 : decode cX6_become 29 = .ok (.invokestatic 24, 3) := by decide +kernel
theorem dX6_become_32 : decode cX6_become 32 = .ok (.return_, 1) := by decide +kernel
theorem dX6_isIn_0 : decode cX6_isIn 0 = .ok (.iload_n 2, 1) := by decide +kernel
theorem dX6_isIn_1 : decode cX6_isIn 1 = .ok (.ifCond .lt 26, 3) := by decide +kernel
theorem dX6_isIn_4 : decode cX6_isIn 4 = .ok (.iload_n 2, 1) := by decide +kernel
theorem dX6_isIn_5 : decode cX6_isIn 5 = .ok (.bipush 30, 2) := by decide +kernel
theorem dX6_isIn_7 : decode cX6_isIn 7 = .ok (.if_icmp .ge 20, 3) := by decide +kernel
theorem dX6_isIn_10 : decode cX6_isIn 10 = .ok (.aload_n 0, 1) := by decide +kernel
theorem dX6_isIn_11 : decode cX6_isIn 11 = .ok (.getfield 15, 3) := by decide +kernel
theorem dX6_isIn_14 : decode cX6_isIn 14 = .ok (.iload_n 1, 1) := by decide +kernel
theorem dX6_isIn_15 : decode cX6_isIn 15 = .ok (.iaload, 1) := by decide +kernel
theorem dX6_isIn_16 : decode cX6_isIn 16 = .ok (.iload_n 2, 1) := by decide +kernel
theorem dX6_isIn_17 : decode cX6_isIn 17 = .ok (.ishr, 1) := by decide +kernel
theorem dX6_isIn_18 : decode cX6_isIn 18 = .ok (.iconst 1, 1) := by decide +kernel
theorem dX6_isIn_19 : decode cX6_isIn 19 = .ok (.iand, 1) := by decide +kernel
theorem dX6_isIn_20 : decode cX6_isIn 20 = .ok (.ifCond .eq 7, 3) := by decide +kernel
theorem dX6_isIn_23 : decode cX6_isIn 23 = .ok (.iconst 1, 1) := by decide +kernel
theorem dX6_isIn_24 : decode cX6_isIn 24 = .ok (.goto 4, 3) := by decide +kernel
theorem dX6_isIn_27 : decode cX6_isIn 27 = .ok (.iconst 0, 1) := by decide +kernel
theorem dX6_isIn_28 : decode cX6_isIn 28 = .ok (.ireturn, 1) := by decide +kernel
theorem dX6_begins_0 : decode cX6_begins 0 = .ok (.iload_n 1, 1) := by decide +kernel
theorem dX6_begins_1 : decode cX6_begins 1 = .ok (.ifCond .lt 26, 3) := by decide +kernel
theorem dX6_begins_4 : decode cX6_begins 4 = .ok (.iload_n 1, 1) := by decide +kernel
theorem dX6_begins_5 : decode cX6_begins 5 = .ok (.bipush 30, 2) := by decide +kernel
theorem dX6_begins_7 : decode cX6_begins 7 = .ok (.if_icmp .ge 20, 3) := by decide +kernel
theorem dX6_begins_10 : decode cX6_begins 10 = .ok (.aload_n 0, 1) := by decide +kernel
theorem dX6_begins_11 : decode cX6_begins 11 = .ok (.getfield 15, 3) := by decide +kernel
theorem dX6_begins_14 : decode cX6_begins 14 = .ok (.iconst 0, 1) := by decide +kernel
theorem dX6_begins_15 : decode cX6_begins 15 = .ok (.iaload, 1) := by decide +kernel
theorem dX6_begins_16 : decode cX6_begins 16 = .ok (.iload_n 1, 1) := by decide +kernel
theorem dX6_begins_17 : decode cX6_begins 17 = .ok (.ishr, 1) := by decide +kernel
theorem dX6_begins_18 : decode cX6_begins 18 = .ok (.iconst 1, 1) := by decide +kernel
theorem dX6_begins_19 : decode cX6_begins 19 = .ok (.iand, 1) := by decide +kernel
theorem dX6_begins_20 : decode cX6_begins 20 = .ok (.ifCond .eq 7, 3) := by decide +kernel
theorem dX6_begins_23 : decode cX6_begins 23 = .ok (.iconst 1, 1) := by decide +kernel
theorem dX6_begins_24 : decode cX6_begins 24 = .ok (.goto 4, 3) := by decide +kernel
theorem dX6_begins_27 : decode cX6_begins 27 = .ok (.iconst 0, 1) := by decide +kernel
theorem dX6_begins_28 : decode cX6_begins 28 = .ok (.istore_n 2, 1) := by decide +kernel
theorem dX6_begins_29 : decode cX6_begins 29 = .ok (.aload_n 0, 1) := by decide +kernel
theorem dX6_begins_30 : decode cX6_begins 30 = .ok (.getfield 9, 3) := by decide +kernel
theorem dX6_begins_33 : decode cX6_begins 33 = .ok (.iconst 0, 1) := by decide +kernel
theorem dX6_begins_34 : decode cX6_begins 34 = .ok (.iaload, 1) := by decide +kernel
theorem dX6_begins_35 : decode cX6_begins 35 = .ok (.iload_n 1, 1) := by decide +kernel
theorem dX6_begins_36 : decode cX6_begins 36 = .ok (.aload_n 0, 1) := by decide +kernel
theorem dX6_begins_37 : decode cX6_begins 37 = .ok (.getfield 9, 3) := by decide +kernel
theorem dX6_begins_40 : decode cX6_begins 40 = .ok (.iconst 1, 1) := by decide +kernel
theorem dX6_begins_41 : decode cX6_begins 41 = .ok (.iaload, 1) := by decide +kernel
theorem dX6_begins_42 : decode cX6_begins 42 = .ok (.imul, 1) := by decide +kernel
theorem dX6_begins_43 : decode cX6_begins 43 = .ok (.iadd, 1) := by decide +kernel
theorem dX6_begins_44 : decode cX6_begins 44 = .ok (.iload_n 2, 1) := by decide +kernel
theorem dX6_begins_45 : decode cX6_begins 45 = .ok (.ifCond .eq 12, 3) := by decide +kernel
theorem dX6_begins_48 : decode cX6_begins 48 = .ok (.aload_n 0, 1) := by decide +kernel
theorem dX6_begins_49 : decode cX6_begins 49 = .ok (.getfield 9, 3) := by decide +kernel
theorem dX6_begins_52 : decode cX6_begins 52 = .ok (.iconst 3, 1) := by decide +kernel
theorem dX6_begins_53 : decode cX6_begins 53 = .ok (.iaload, 1) := by decide +kernel
theorem dX6_begins_54 : decode cX6_begins 54 = .ok (.goto 4, 3) := by decide +kernel
theorem dX6_begins_57 : decode cX6_begins 57 = .ok (.iconst 0, 1) := by decide +kernel
theorem dX6_begins_58 : decode cX6_begins 58 = .ok (.iadd, 1) := by decide +kernel
theorem dX6_begins_59 : decode cX6_begins 59 = .ok (.ireturn, 1) := by decide +kernel
theorem dX6_ends_0 : decode cX6_ends 0 = .ok (.aload_n 0, 1) := by decide +kernel
theorem dX6_ends_1 : decode cX6_ends 1 = .ok (.iload_n 1, 1) := by decide +kernel
theorem dX6_ends_2 : decode cX6_ends 2 = .ok (.invokevirtual 30, 3) := by decide +kernel
theorem dX6_ends_5 : decode cX6_ends 5 = .ok (.aload_n 0, 1) := by decide +kernel
theorem dX6_ends_6 : decode cX6_ends 6 = .ok (.getfield 9, 3) := by decide +kernel
theorem dX6_ends_9 : decode cX6_ends 9 = .ok (.iconst 2, 1) := by decide +kernel
theorem dX6_ends_10 : decode cX6_ends 10 = .ok (.iaload, 1) := by decide +kernel
theorem dX6_ends_11 : decode cX6_ends 11 = .ok (.iadd, 1) := by decide +kernel
theorem dX6_ends_12 : decode cX6_ends 12 = .ok (.ireturn, 1) := by decide +kernel
theorem dX6_at_0 : decode cX6_at 0 = .ok (.aload_n 0, 1) := by decide +kernel
theorem dX6_at_1 : decode cX6_at 1 = .ok (.iconst 0, 1) := by decide +kernel
theorem dX6_at_2 : decode cX6_at 2 = .ok (.putfield 34, 3) := by decide +kernel
theorem dX6_at_5 : decode cX6_at 5 = .ok (.iload_n 1, 1) := by decide +kernel
theorem dX6_at_6 : decode cX6_at 6 = .ok (.aload_n 0, 1) := by decide +kernel
theorem dX6_at_7 : decode cX6_at 7 = .ok (.getfield 9, 3) := by decide +kernel
theorem dX6_at_10 : decode cX6_at 10 = .ok (.iconst 0, 1) := by decide +kernel
theorem dX6_at_11 : decode cX6_at 11 = .ok (.iaload, 1) := by decide +kernel
theorem dX6_at_12 : decode cX6_at 12 = .ok (.if_icmp .lt 55, 3) := by decide +kernel
theorem dX6_at_15 : decode cX6_at 15 = .ok (.aload_n 0, 1) := by decide +kernel
theorem dX6_at_16 : decode cX6_at 16 = .ok (.getfield 9, 3) := by decide +kernel
theorem dX6_at_19 : decode cX6_at 19 = .ok (.iconst 1, 1) := by decide +kernel
theorem dX6_at_20 : decode cX6_at 20 = .ok (.iaload, 1) := by decide +kernel
theorem dX6_at_21 : decode cX6_at 21 = .ok (.ifCond .le 46, 3) := by decide +kernel
theorem dX6_at_24 : decode cX6_at 24 = .ok (.iload_n 1, 1) := by decide +kernel
theorem dX6_at_25 : decode cX6_at 25 = .ok (.aload_n 0, 1) := by decide +kernel
theorem dX6_at_26 : decode cX6_at 26 = .ok (.getfield 9, 3) := by decide +kernel
theorem dX6_at_29 : decode cX6_at 29 = .ok (.iconst 0, 1) := by decide +kernel
theorem dX6_at_30 : decode cX6_at 30 = .ok (.iaload, 1) := by decide +kernel
theorem dX6_at_31 : decode cX6_at 31 = .ok (.isub, 1) := by decide +kernel
theorem dX6_at_32 : decode cX6_at 32 = .ok (.aload_n 0, 1) := by decide +kernel
theorem dX6_at_33 : decode cX6_at 33 = .ok (.getfield 9, 3) := by decide +kernel
theorem dX6_at_36 : decode cX6_at 36 = .ok (.iconst 1, 1) := by decide +kernel
theorem dX6_at_37 : decode cX6_at 37 = .ok (.iaload, 1) := by decide +kernel
theorem dX6_at_38 : decode cX6_at 38 = .ok (.idiv, 1) := by decide +kernel
theorem dX6_at_39 : decode cX6_at 39 = .ok (.istore_n 2, 1) := by decide +kernel
theorem dX6_at_40 : decode cX6_at 40 = .ok (.aload_n 0, 1) := by decide +kernel
theorem dX6_at_41 : decode cX6_at 41 = .ok (.aload_n 0, 1) := by decide +kernel
theorem dX6_at_42 : decode cX6_at 42 = .ok (.iload_n 2, 1) := by decide +kernel
theorem dX6_at_43 : decode cX6_at 43 = .ok (.invokevirtual 30, 3) := by decide +kernel
theorem dX6_at_46 : decode cX6_at 46 = .ok (.aload_n 0, 1) := by decide +kernel
theorem dX6_at_47 : decode cX6_at 47 = .ok (.getfield 9, 3) := by decide +kernel
theorem dX6_at_50 : decode cX6_at 50 = .ok (.iconst 2, 1) := by decide +kernel
theorem dX6_at_51 : decode cX6_at 51 = .ok (.iaload, 1) := by decide +kernel
theorem dX6_at_52 : decode cX6_at 52 = .ok (.iadd, 1) := by decide +kernel
theorem dX6_at_53 : decode cX6_at 53 = .ok (.iload_n 1, 1) := by decide +kernel
theorem dX6_at_54 : decode cX6_at 54 = .ok (.if_icmp .gt 9, 3) := by decide +kernel
theorem dX6_at_57 : decode cX6_at 57 = .ok (.iload_n 2, 1) := by decide +kernel
theorem dX6_at_58 : decode cX6_at 58 = .ok (.iconst 1, 1) := by decide +kernel
theorem dX6_at_59 : decode cX6_at 59 = .ok (.iadd, 1) := by decide +kernel
theorem dX6_at_60 : decode cX6_at 60 = .ok (.goto 4, 3) := by decide +kernel
theorem dX6_at_63 : decode cX6_at 63 = .ok (.iload_n 2, 1) := by decide +kernel
theorem dX6_at_64 : decode cX6_at 64 = .ok (.putfield 34, 3) := by decide +kernel
theorem dX6_at_67 : decode cX6_at 67 = .ok (.aload_n 0, 1) := by decide +kernel
theorem dX6_at_68 : decode cX6_at 68 = .ok (.getfield 34, 3) := by decide +kernel
theorem dX6_at_71 : decode cX6_at 71 = .ok (.istore_n 2, 1) := by decide +kernel
theorem dX6_at_72 : decode cX6_at 72 = .ok (.iconst 0, 1) := by decide +kernel
theorem dX6_at_73 : decode cX6_at 73 = .ok (.istore_n 3, 1) := by decide +kernel
theorem dX6_at_74 : decode cX6_at 74 = .ok (.iload_n 2, 1) := by decide +kernel
theorem dX6_at_75 : decode cX6_at 75 = .ok (.ifCond .le 44, 3) := by decide +kernel
theorem dX6_at_78 : decode cX6_at 78 = .ok (.iload_n 2, 1) := by decide +kernel
theorem dX6_at_79 : decode cX6_at 79 = .ok (.bipush 30, 2) := by decide +kernel
theorem dX6_at_81 : decode cX6_at 81 = .ok (.if_icmp .gt 38, 3) := by decide +kernel
theorem dX6_at_84 : decode cX6_at 84 = .ok (.aload_n 0, 1) := by decide +kernel
theorem dX6_at_85 : decode cX6_at 85 = .ok (.iload_n 2, 1) := by decide +kernel
theorem dX6_at_86 : decode cX6_at 86 = .ok (.iconst 1, 1) := by decide +kernel
theorem dX6_at_87 : decode cX6_at 87 = .ok (.isub, 1) := by decide +kernel
theorem dX6_at_88 : decode cX6_at 88 = .ok (.invokevirtual 38, 3) := by decide +kernel
theorem dX6_at_91 : decode cX6_at 91 = .ok (.ifCond .ne 28, 3) := by decide +kernel
theorem dX6_at_94 : decode cX6_at 94 = .ok (.iinc 2 (-1), 3) := by decide +kernel
theorem dX6_at_97 : decode cX6_at 97 = .ok (.iload_n 3, 1) := by decide +kernel
theorem dX6_at_98 : decode cX6_at 98 = .ok (.ifCond .ne 12, 3) := by decide +kernel
theorem dX6_at_101 : decode cX6_at 101 = .ok (.aload_n 0, 1) := by decide +kernel
theorem dX6_at_102 : decode cX6_at 102 = .ok (.iconst 1, 1) := by decide +kernel
theorem dX6_at_103 : decode cX6_at 103 = .ok (.iload_n 2, 1) := by decide +kernel
theorem dX6_at_104 : decode cX6_at 104 = .ok (.invokevirtual 42, 3) := by decide +kernel
theorem dX6_at_107 : decode cX6_at 107 = .ok (.ifCond .ne 7, 3) := by decide +kernel
theorem dX6_at_110 : decode cX6_at 110 = .ok (.iconst 1, 1) := by decide +kernel
theorem dX6_at_111 : decode cX6_at 111 = .ok (.goto 4, 3) := by decide +kernel
theorem dX6_at_114 : decode cX6_at 114 = .ok (.iconst 0, 1) := by decide +kernel
theorem dX6_at_115 : decode cX6_at 115 = .ok (.istore_n 3, 1) := by decide +kernel
theorem dX6_at_116 : decode cX6_at 116 = .ok (.goto (-42), 3) := by decide +kernel
theorem dX6_at_119 : decode cX6_at 119 = .ok (.aload_n 0, 1) := by decide +kernel
theorem dX6_at_120 : decode cX6_at 120 = .ok (.iload_n 2, 1) := by decide +kernel
theorem dX6_at_121 : decode cX6_at 121 = .ok (.aload_n 0, 1) := by decide +kernel
theorem dX6_at_122 : decode cX6_at 122 = .ok (.getfield 15, 3) := by decide +kernel
theorem dX6_at_125 : decode cX6_at 125 = .ok (.iconst 1, 1) := by decide +kernel
theorem dX6_at_126 : decode cX6_at 126 = .ok (.iaload, 1) := by decide +kernel
theorem dX6_at_127 : decode cX6_at 127 = .ok (.iload_n 2, 1) := by decide +kernel
theorem dX6_at_128 : decode cX6_at 128 = .ok (.invokestatic 46, 3) := by decide +kernel
theorem dX6_at_131 : decode cX6_at 131 = .ok (.iand, 1) := by decide +kernel
theorem dX6_at_132 : decode cX6_at 132 = .ok (.invokestatic 49, 3) := by decide +kernel
theorem dX6_at_135 : decode cX6_at 135 = .ok (.isub, 1) := by decide +kernel
theorem dX6_at_136 : decode cX6_at 136 = .ok (.putfield 54, 3) := by decide +kernel
theorem dX6_at_139 : decode cX6_at 139 = .ok (.aload_n 0, 1) := by decide +kernel
theorem dX6_at_140 : decode cX6_at 140 = .ok (.iload_n 3, 1) := by decide +kernel
theorem dX6_at_141 : decode cX6_at 141 = .ok (.ifCond .ne 27, 3) := by decide +kernel
theorem dX6_at_144 : decode cX6_at 144 = .ok (.aload_n 0, 1) := by decide +kernel
theorem dX6_at_145 : decode cX6_at 145 = .ok (.aload_n 0, 1) := by decide +kernel
theorem dX6_at_146 : decode cX6_at 146 = .ok (.getfield 34, 3) := by decide +kernel
theorem dX6_at_149 : decode cX6_at 149 = .ok (.invokevirtual 30, 3) := by decide +kernel
theorem dX6_at_152 : decode cX6_at 152 = .ok (.iload_n 1, 1) := by decide +kernel
theorem dX6_at_153 : decode cX6_at 153 = .ok (.if_icmp .gt 19, 3) := by decide +kernel
theorem dX6_at_156 : decode cX6_at 156 = .ok (.aload_n 0, 1) := by decide +kernel
theorem dX6_at_157 : decode cX6_at 157 = .ok (.iconst 1, 1) := by decide +kernel
theorem dX6_at_158 : decode cX6_at 158 = .ok (.aload_n 0, 1) := by decide +kernel
theorem dX6_at_159 : decode cX6_at 159 = .ok (.getfield 34, 3) := by decide +kernel
theorem dX6_at_162 : decode cX6_at 162 = .ok (.invokevirtual 42, 3) := by decide +kernel
theorem dX6_at_165 : decode cX6_at 165 = .ok (.ifCond .ne 7, 3) := by decide +kernel
theorem dX6_at_168 : decode cX6_at 168 = .ok (.iconst 1, 1) := by decide +kernel
theorem dX6_at_169 : decode cX6_at 169 = .ok (.goto 4, 3) := by decide +kernel
theorem dX6_at_172 : decode cX6_at 172 = .ok (.iconst 0, 1) := by decide +kernel
theorem dX6_at_173 : decode cX6_at 173 = .ok (.putfield 57, 3) := by decide +kernel
theorem dX6_at_176 : decode cX6_at 176 = .ok (.return_, 1) := by decide +kernel
theorem dX6_turnsWhole_0 : decode cX6_turnsWhole 0 = .ok (.iload_n 1, 1) := by decide +kernel
theorem dX6_turnsWhole_1 : decode cX6_turnsWhole 1 = .ok (.ifCond .lt 29, 3) := by decide +kernel
theorem dX6_turnsWhole_4 : decode cX6_turnsWhole 4 = .ok (.iload_n 1, 1) := by decide +kernel
theorem dX6_turnsWhole_5 : decode cX6_turnsWhole 5 = .ok (.bipush 30, 2) := by decide +kernel
theorem dX6_turnsWhole_7 : decode cX6_turnsWhole 7 = .ok (.if_icmp .ge 23, 3) := by decide +kernel
theorem dX6_turnsWhole_10 : decode cX6_turnsWhole 10 = .ok (.aload_n 0, 1) := by decide +kernel
theorem dX6_turnsWhole_11 : decode cX6_turnsWhole 11 = .ok (.getfield 15, 3) := by decide +kernel
theorem dX6_turnsWhole_14 : decode cX6_turnsWhole 14 = .ok (.iconst 1, 1) := by decide +kernel
theorem dX6_turnsWhole_15 : decode cX6_turnsWhole 15 = .ok (.iaload, 1) := by decide +kernel
theorem dX6_turnsWhole_16 : decode cX6_turnsWhole 16 = .ok (.aload_n 0, 1) := by decide +kernel
theorem dX6_turnsWhole_17 : decode cX6_turnsWhole 17 = .ok (.getfield 15, 3) := by decide +kernel
theorem dX6_turnsWhole_20 : decode cX6_turnsWhole 20 = .ok (.iconst 2, 1) := by decide +kernel
theorem dX6_turnsWhole_21 : decode cX6_turnsWhole 21 = .ok (.iaload, 1) := by decide +kernel
theorem dX6_turnsWhole_22 : decode cX6_turnsWhole 22 = .ok (.ior, 1) := by decide +kernel
theorem dX6_turnsWhole_23 : decode cX6_turnsWhole 23 = .ok (.iload_n 1, 1) := by decide +kernel
theorem dX6_turnsWhole_24 : decode cX6_turnsWhole 24 = .ok (.ishr, 1) := by decide +kernel
theorem dX6_turnsWhole_25 : decode cX6_turnsWhole 25 = .ok (.iconst 1, 1) := by decide +kernel
theorem dX6_turnsWhole_26 : decode cX6_turnsWhole 26 = .ok (.iand, 1) := by decide +kernel
theorem dX6_turnsWhole_27 : decode cX6_turnsWhole 27 = .ok (.ifCond .ne 7, 3) := by decide +kernel
theorem dX6_turnsWhole_30 : decode cX6_turnsWhole 30 = .ok (.iconst 1, 1) := by decide +kernel
theorem dX6_turnsWhole_31 : decode cX6_turnsWhole 31 = .ok (.goto 4, 3) := by decide +kernel
theorem dX6_turnsWhole_34 : decode cX6_turnsWhole 34 = .ok (.iconst 0, 1) := by decide +kernel
theorem dX6_turnsWhole_35 : decode cX6_turnsWhole 35 = .ok (.ireturn, 1) := by decide +kernel
theorem dX6_below_0 : decode cX6_below 0 = .ok (.iload_n 0, 1) := by decide +kernel
theorem dX6_below_1 : decode cX6_below 1 = .ok (.bipush 30, 2) := by decide +kernel
theorem dX6_below_3 : decode cX6_below 3 = .ok (.if_icmp .lt 7, 3) := by decide +kernel
theorem dX6_below_6 : decode cX6_below 6 = .ok (.iconst (-1), 1) := by decide +kernel
theorem dX6_below_7 : decode cX6_below 7 = .ok (.goto 8, 3) := by decide +kernel
theorem dX6_below_10 : decode cX6_below 10 = .ok (.iconst 1, 1) := by decide +kernel
theorem dX6_below_11 : decode cX6_below 11 = .ok (.iload_n 0, 1) := by decide +kernel
theorem dX6_below_12 : decode cX6_below 12 = .ok (.ishl, 1) := by decide +kernel
theorem dX6_below_13 : decode cX6_below 13 = .ok (.iconst 1, 1) := by decide +kernel
theorem dX6_below_14 : decode cX6_below 14 = .ok (.isub, 1) := by decide +kernel
theorem dX6_below_15 : decode cX6_below 15 = .ok (.ireturn, 1) := by decide +kernel
theorem dX6_sideOf_0 : decode cX6_sideOf 0 = .ok (.aload_n 0, 1) := by decide +kernel
theorem dX6_sideOf_1 : decode cX6_sideOf 1 = .ok (.getfield 57, 3) := by decide +kernel
theorem dX6_sideOf_4 : decode cX6_sideOf 4 = .ok (.ifCond .eq 7, 3) := by decide +kernel
theorem dX6_sideOf_7 : decode cX6_sideOf 7 = .ok (.iconst (-1), 1) := by decide +kernel
theorem dX6_sideOf_8 : decode cX6_sideOf 8 = .ok (.goto 11, 3) := by decide +kernel
theorem dX6_sideOf_11 : decode cX6_sideOf 11 = .ok (.iload_n 1, 1) := by decide +kernel
theorem dX6_sideOf_12 : decode cX6_sideOf 12 = .ok (.aload_n 0, 1) := by decide +kernel
theorem dX6_sideOf_13 : decode cX6_sideOf 13 = .ok (.getfield 54, 3) := by decide +kernel
theorem dX6_sideOf_16 : decode cX6_sideOf 16 = .ok (.iadd, 1) := by decide +kernel
theorem dX6_sideOf_17 : decode cX6_sideOf 17 = .ok (.iconst 3, 1) := by decide +kernel
theorem dX6_sideOf_18 : decode cX6_sideOf 18 = .ok (.iand, 1) := by decide +kernel
theorem dX6_sideOf_19 : decode cX6_sideOf 19 = .ok (.ireturn, 1) := by decide +kernel
theorem dX6_frontTo_0 : decode cX6_frontTo 0 = .ok (.iload_n 1, 1) := by decide +kernel
theorem dX6_frontTo_1 : decode cX6_frontTo 1 = .ok (.aload_n 0, 1) := by decide +kernel
theorem dX6_frontTo_2 : decode cX6_frontTo 2 = .ok (.getfield 54, 3) := by decide +kernel
theorem dX6_frontTo_5 : decode cX6_frontTo 5 = .ok (.isub, 1) := by decide +kernel
theorem dX6_frontTo_6 : decode cX6_frontTo 6 = .ok (.iconst 3, 1) := by decide +kernel
theorem dX6_frontTo_7 : decode cX6_frontTo 7 = .ok (.iand, 1) := by decide +kernel
theorem dX6_frontTo_8 : decode cX6_frontTo 8 = .ok (.ireturn, 1) := by decide +kernel
theorem dX6_rightAt_0 : decode cX6_rightAt 0 = .ok (.aload_n 0, 1) := by decide +kernel
theorem dX6_rightAt_1 : decode cX6_rightAt 1 = .ok (.getfield 34, 3) := by decide +kernel
theorem dX6_rightAt_4 : decode cX6_rightAt 4 = .ok (.istore_n 1, 1) := by decide +kernel
theorem dX6_rightAt_5 : decode cX6_rightAt 5 = .ok (.iload_n 1, 1) := by decide +kernel
theorem dX6_rightAt_6 : decode cX6_rightAt 6 = .ok (.bipush 30, 2) := by decide +kernel
theorem dX6_rightAt_8 : decode cX6_rightAt 8 = .ok (.if_icmp .ge 17, 3) := by decide +kernel
theorem dX6_rightAt_11 : decode cX6_rightAt 11 = .ok (.aload_n 0, 1) := by decide +kernel
theorem dX6_rightAt_12 : decode cX6_rightAt 12 = .ok (.iload_n 1, 1) := by decide +kernel
theorem dX6_rightAt_13 : decode cX6_rightAt 13 = .ok (.invokevirtual 38, 3) := by decide +kernel
theorem dX6_rightAt_16 : decode cX6_rightAt 16 = .ok (.ifCond .ne 9, 3) := by decide +kernel
theorem dX6_rightAt_19 : decode cX6_rightAt 19 = .ok (.iinc 1 1, 3) := by decide +kernel
theorem dX6_rightAt_22 : decode cX6_rightAt 22 = .ok (.goto (-17), 3) := by decide +kernel
theorem dX6_rightAt_25 : decode cX6_rightAt 25 = .ok (.aload_n 0, 1) := by decide +kernel
theorem dX6_rightAt_26 : decode cX6_rightAt 26 = .ok (.iload_n 1, 1) := by decide +kernel
theorem dX6_rightAt_27 : decode cX6_rightAt 27 = .ok (.invokevirtual 30, 3) := by decide +kernel
theorem dX6_rightAt_30 : decode cX6_rightAt 30 = .ok (.aload_n 0, 1) := by decide +kernel
theorem dX6_rightAt_31 : decode cX6_rightAt 31 = .ok (.getfield 9, 3) := by decide +kernel
theorem dX6_rightAt_34 : decode cX6_rightAt 34 = .ok (.iconst 2, 1) := by decide +kernel
theorem dX6_rightAt_35 : decode cX6_rightAt 35 = .ok (.iaload, 1) := by decide +kernel
theorem dX6_rightAt_36 : decode cX6_rightAt 36 = .ok (.iadd, 1) := by decide +kernel
theorem dX6_rightAt_37 : decode cX6_rightAt 37 = .ok (.ireturn, 1) := by decide +kernel
theorem dX6_calmTill_0 : decode cX6_calmTill 0 = .ok (.aload_n 0, 1) := by decide +kernel
theorem dX6_calmTill_1 : decode cX6_calmTill 1 = .ok (.getfield 34, 3) := by decide +kernel
theorem dX6_calmTill_4 : decode cX6_calmTill 4 = .ok (.istore_n 1, 1) := by decide +kernel
theorem dX6_calmTill_5 : decode cX6_calmTill 5 = .ok (.iload_n 1, 1) := by decide +kernel
theorem dX6_calmTill_6 : decode cX6_calmTill 6 = .ok (.bipush 30, 2) := by decide +kernel
theorem dX6_calmTill_8 : decode cX6_calmTill 8 = .ok (.if_icmp .ge 18, 3) := by decide +kernel
theorem dX6_calmTill_11 : decode cX6_calmTill 11 = .ok (.aload_n 0, 1) := by decide +kernel
theorem dX6_calmTill_12 : decode cX6_calmTill 12 = .ok (.iconst 1, 1) := by decide +kernel
theorem dX6_calmTill_13 : decode cX6_calmTill 13 = .ok (.iload_n 1, 1) := by decide +kernel
theorem dX6_calmTill_14 : decode cX6_calmTill 14 = .ok (.invokevirtual 42, 3) := by decide +kernel
theorem dX6_calmTill_17 : decode cX6_calmTill 17 = .ok (.ifCond .eq 9, 3) := by decide +kernel
theorem dX6_calmTill_20 : decode cX6_calmTill 20 = .ok (.iinc 1 1, 3) := by decide +kernel
theorem dX6_calmTill_23 : decode cX6_calmTill 23 = .ok (.goto (-18), 3) := by decide +kernel
theorem dX6_calmTill_26 : decode cX6_calmTill 26 = .ok (.aload_n 0, 1) := by decide +kernel
theorem dX6_calmTill_27 : decode cX6_calmTill 27 = .ok (.iload_n 1, 1) := by decide +kernel
theorem dX6_calmTill_28 : decode cX6_calmTill 28 = .ok (.invokevirtual 30, 3) := by decide +kernel
theorem dX6_calmTill_31 : decode cX6_calmTill 31 = .ok (.ireturn, 1) := by decide +kernel
theorem dX7_init_0 : decode cX7_init 0 = .ok (.aload_n 0, 1) := by decide +kernel
theorem dX7_init_1 : decode cX7_init 1 = .ok (.invokespecial 1, 3) := by decide +kernel
theorem dX7_init_4 : decode cX7_init 4 = .ok (.aload_n 0, 1) := by decide +kernel
theorem dX7_init_5 : decode cX7_init 5 = .ok (.new 7, 3) := by decide +kernel
theorem dX7_init_8 : decode cX7_init 8 = .ok (.dup, 1) := by decide +kernel
theorem dX7_init_9 : decode cX7_init 9 = .ok (.invokespecial 9, 3) := by decide +kernel
theorem dX7_init_12 : decode cX7_init 12 = .ok (.putfield 10, 3) := by decide +kernel
theorem dX7_init_15 : decode cX7_init 15 = .ok (.aload_n 0, 1) := by decide +kernel
theorem dX7_init_16 : decode cX7_init 16 = .ok (.new 7, 3) := by decide +kernel
theorem dX7_init_19 : decode cX7_init 19 = .ok (.dup, 1) := by decide +kernel
theorem dX7_init_20 : decode cX7_init 20 = .ok (.invokespecial 9, 3) := by decide +kernel
theorem dX7_init_23 : decode cX7_init 23 = .ok (.putfield 16, 3) := by decide +kernel
theorem dX7_init_26 : decode cX7_init 26 = .ok (.aload_n 0, 1) := by decide +kernel
theorem dX7_init_27 : decode cX7_init 27 = .ok (.new 7, 3) := by decide +kernel
theorem dX7_init_30 : decode cX7_init 30 = .ok (.dup, 1) := by decide +kernel
theorem dX7_init_31 : decode cX7_init 31 = .ok (.invokespecial 9, 3) := by decide +kernel
theorem dX7_init_34 : decode cX7_init 34 = .ok (.putfield 19, 3) := by decide +kernel
theorem dX7_init_37 : decode cX7_init 37 = .ok (.aload_n 0, 1) := by decide +kernel
theorem dX7_init_38 : decode cX7_init 38 = .ok (.iconst 0, 1) := by decide +kernel
theorem dX7_init_39 : decode cX7_init 39 = .ok (.putfield 22, 3) := by decide +kernel
theorem dX7_init_42 : decode cX7_init 42 = .ok (.aload_n 0, 1) := by decide +kernel
theorem dX7_init_43 : decode cX7_init 43 = .ok (.new 26, 3) := by decide +kernel
theorem dX7_init_46 : decode cX7_init 46 = .ok (.dup, 1) := by decide +kernel
theorem dX7_init_47 : decode cX7_init 47 = .ok (.invokespecial 28, 3) := by decide +kernel
theorem dX7_init_50 : decode cX7_init 50 = .ok (.putfield 29, 3) := by decide +kernel
theorem dX7_init_53 : decode cX7_init 53 = .ok (.aload_n 0, 1) := by decide +kernel
theorem dX7_init_54 : decode cX7_init 54 = .ok (.new 33, 3) := by decide +kernel
theorem dX7_init_57 : decode cX7_init 57 = .ok (.dup, 1) := by decide +kernel
theorem dX7_init_58 : decode cX7_init 58 = .ok (.invokespecial 35, 3) := by decide +kernel
theorem dX7_init_61 : decode cX7_init 61 = .ok (.putfield 36, 3) := by decide +kernel
theorem dX7_init_64 : decode cX7_init 64 = .ok (.aload_n 0, 1) := by decide +kernel
theorem dX7_init_65 : decode cX7_init 65 = .ok (.new 40, 3) := by decide +kernel
theorem dX7_init_68 : decode cX7_init 68 = .ok (.dup, 1) := by decide +kernel
theorem dX7_init_69 : decode cX7_init 69 = .ok (.invokespecial 42, 3) := by decide +kernel
theorem dX7_init_72 : decode cX7_init 72 = .ok (.putfield 43, 3) := by decide +kernel
theorem dX7_init_75 : decode cX7_init 75 = .ok (.aload_n 0, 1) := by decide +kernel
theorem dX7_init_76 : decode cX7_init 76 = .ok (.aload_n 0, 1) := by decide +kernel
theorem dX7_init_77 : decode cX7_init 77 = .ok (.getfield 43, 3) := by decide +kernel
theorem dX7_init_80 : decode cX7_init 80 = .ok (.getfield 47, 3) := by decide +kernel
theorem dX7_init_83 : decode cX7_init 83 = .ok (.putfield 51, 3) := by decide +kernel
theorem dX7_init_86 : decode cX7_init 86 = .ok (.aload_n 0, 1) := by decide +kernel
theorem dX7_init_87 : decode cX7_init 87 = .ok (.iconst 4, 1) := by decide +kernel
theorem dX7_init_88 : decode cX7_init 88 = .ok (.anewarray 52, 3) := by decide +kernel
theorem dX7_init_91 : decode cX7_init 91 = .ok (.putfield 54, 3) := by decide +kernel
theorem dX7_init_94 : decode cX7_init 94 = .ok (.aload_n 0, 1) := by decide +kernel
theorem dX7_init_95 : decode cX7_init 95 = .ok (.bipush 7, 2) := by decide +kernel
theorem dX7_init_97 : decode cX7_init 97 = .ok (.newarray .int, 2) := by decide +kernel
theorem dX7_init_99 : decode cX7_init 99 = .ok (.putfield 58, 3) := by decide +kernel
theorem dX7_init_102 : decode cX7_init 102 = .ok (.iconst 0, 1) := by decide +kernel
theorem dX7_init_103 : decode cX7_init 103 = .ok (.istore_n 1, 1) := by decide +kernel
theorem dX7_init_104 : decode cX7_init 104 = .ok (.iload_n 1, 1) := by decide +kernel
theorem dX7_init_105 : decode cX7_init 105 = .ok (.iconst 4, 1) := by decide +kernel
theorem dX7_init_106 : decode cX7_init 106 = .ok (.if_icmp .ge 22, 3) := by decide +kernel
theorem dX7_init_109 : decode cX7_init 109 = .ok (.aload_n 0, 1) := by decide +kernel
theorem dX7_init_110 : decode cX7_init 110 = .ok (.getfield 54, 3) := by decide +kernel
theorem dX7_init_113 : decode cX7_init 113 = .ok (.iload_n 1, 1) := by decide +kernel
theorem dX7_init_114 : decode cX7_init 114 = .ok (.new 52, 3) := by decide +kernel
theorem dX7_init_117 : decode cX7_init 117 = .ok (.dup, 1) := by decide +kernel
theorem dX7_init_118 : decode cX7_init 118 = .ok (.invokespecial 62, 3) := by decide +kernel
theorem dX7_init_121 : decode cX7_init 121 = .ok (.aastore, 1) := by decide +kernel
theorem dX7_init_122 : decode cX7_init 122 = .ok (.iinc 1 1, 3) := by decide +kernel
theorem dX7_init_125 : decode cX7_init 125 = .ok (.goto (-21), 3) := by decide +kernel
theorem dX7_init_128 : decode cX7_init 128 = .ok (.return_, 1) := by decide +kernel
theorem dX7_tides_0 : decode cX7_tides 0 = .ok (.iload_n 1, 1) := by decide +kernel
theorem dX7_tides_1 : decode cX7_tides 1 = .ok (.iload_n 2, 1) := by decide +kernel
theorem dX7_tides_2 : decode cX7_tides 2 = .ok (.invokestatic 63, 3) := by decide +kernel
theorem dX7_tides_5 : decode cX7_tides 5 = .ok (.ifCond .ne 10, 3) := by decide +kernel
theorem dX7_tides_8 : decode cX7_tides 8 = .ok (.aload_n 0, 1) := by decide +kernel
theorem dX7_tides_9 : decode cX7_tides 9 = .ok (.ldc 69, 2) := by decide +kernel
theorem dX7_tides_11 : decode cX7_tides 11 = .ok (.invokevirtual 70, 3) := by decide +kernel
theorem dX7_tides_14 : decode cX7_tides 14 = .ok (.ireturn, 1) := by decide +kernel
theorem dX7_tides_15 : decode cX7_tides 15 = .ok (.aload_n 0, 1) := by decide +kernel
theorem dX7_tides_16 : decode cX7_tides 16 = .ok (.getfield 36, 3) := by decide +kernel
theorem dX7_tides_19 : decode cX7_tides 19 = .ok (.invokevirtual 74, 3) := by decide +kernel
theorem dX7_tides_22 : decode cX7_tides 22 = .ok (.aload_n 0, 1) := by decide +kernel
theorem dX7_tides_23 : decode cX7_tides 23 = .ok (.getfield 10, 3) := by decide +kernel
theorem dX7_tides_26 : decode cX7_tides 26 = .ok (.getfield 77, 3) := by decide +kernel
theorem dX7_tides_29 : decode cX7_tides 29 = .ok (.getfield 81, 3) := by decide +kernel
theorem dX7_tides_32 : decode cX7_tides 32 = .ok (.iload_n 1, 1) := by decide +kernel
theorem dX7_tides_33 : decode cX7_tides 33 = .ok (.iaload, 1) := by decide +kernel
theorem dX7_tides_34 : decode cX7_tides 34 = .ok (.istore_n 3, 1) := by decide +kernel
theorem dX7_tides_35 : decode cX7_tides 35 = .ok (.aload_n 0, 1) := by decide +kernel
theorem dX7_tides_36 : decode cX7_tides 36 = .ok (.getfield 10, 3) := by decide +kernel
theorem dX7_tides_39 : decode cX7_tides 39 = .ok (.getfield 77, 3) := by decide +kernel
theorem dX7_tides_42 : decode cX7_tides 42 = .ok (.getfield 81, 3) := by decide +kernel
theorem dX7_tides_45 : decode cX7_tides 45 = .ok (.iload_n 1, 1) := by decide +kernel
theorem dX7_tides_46 : decode cX7_tides 46 = .ok (.iload_n 2, 1) := by decide +kernel
theorem dX7_tides_47 : decode cX7_tides 47 = .ok (.iastore, 1) := by decide +kernel
theorem dX7_tides_48 : decode cX7_tides 48 = .ok (.iload_n 3, 1) := by decide +kernel
theorem dX7_tides_49 : decode cX7_tides 49 = .ok (.ireturn, 1) := by decide +kernel
theorem dX7_sets_0 : decode cX7_sets 0 = .ok (.iload_n 1, 1) := by decide +kernel
theorem dX7_sets_1 : decode cX7_sets 1 = .ok (.ifCond .lt 15, 3) := by decide +kernel
theorem dX7_sets_4 : decode cX7_sets 4 = .ok (.iload_n 1, 1) := by decide +kernel
theorem dX7_sets_5 : decode cX7_sets 5 = .ok (.iconst 3, 1) := by decide +kernel
theorem dX7_sets_6 : decode cX7_sets 6 = .ok (.if_icmp .ge 10, 3) := by decide +kernel
theorem dX7_sets_9 : decode cX7_sets 9 = .ok (.iload_n 2, 1) := by decide +kernel
theorem dX7_sets_10 : decode cX7_sets 10 = .ok (.bipush 30, 2) := by decide +kernel
theorem dX7_sets_12 : decode cX7_sets 12 = .ok (.iushr, 1) := by decide +kernel
theorem dX7_sets_13 : decode cX7_sets 13 = .ok (.ifCond .eq 10, 3) := by decide +kernel
theorem dX7_sets_16 : decode cX7_sets 16 = .ok (.aload_n 0, 1) := by decide +kernel
theorem dX7_sets_17 : decode cX7_sets 17 = .ok (.ldc 69, 2) := by decide +kernel
theorem dX7_sets_19 : decode cX7_sets 19 = .ok (.invokevirtual 70, 3) := by decide +kernel
theorem dX7_sets_22 : decode cX7_sets 22 = .ok (.ireturn, 1) := by decide +kernel
theorem dX7_sets_23 : decode cX7_sets 23 = .ok (.aload_n 0, 1) := by decide +kernel
theorem dX7_sets_24 : decode cX7_sets 24 = .ok (.getfield 36, 3) := by decide +kernel
theorem dX7_sets_27 : decode cX7_sets 27 = .ok (.invokevirtual 74, 3) := by decide +kernel
theorem dX7_sets_30 : decode cX7_sets 30 = .ok (.aload_n 0, 1) := by decide +kernel
theorem dX7_sets_31 : decode cX7_sets 31 = .ok (.getfield 10, 3) := by decide +kernel
theorem dX7_sets_34 : decode cX7_sets 34 = .ok (.getfield 77, 3) := by decide +kernel
theorem dX7_sets_37 : decode cX7_sets 37 = .ok (.getfield 84, 3) := by decide +kernel
theorem dX7_sets_40 : decode cX7_sets 40 = .ok (.iload_n 1, 1) := by decide +kernel
theorem dX7_sets_41 : decode cX7_sets 41 = .ok (.iaload, 1) := by decide +kernel
theorem dX7_sets_42 : decode cX7_sets 42 = .ok (.istore_n 3, 1) := by decide +kernel
theorem dX7_sets_43 : decode cX7_sets 43 = .ok (.aload_n 0, 1) := by decide +kernel
theorem dX7_sets_44 : decode cX7_sets 44 = .ok (.getfield 10, 3) := by decide +kernel
theorem dX7_sets_47 : decode cX7_sets 47 = .ok (.getfield 77, 3) := by decide +kernel
theorem dX7_sets_50 : decode cX7_sets 50 = .ok (.getfield 84, 3) := by decide +kernel
theorem dX7_sets_53 : decode cX7_sets 53 = .ok (.iload_n 1, 1) := by decide +kernel
theorem dX7_sets_54 : decode cX7_sets 54 = .ok (.iload_n 2, 1) := by decide +kernel
theorem dX7_sets_55 : decode cX7_sets 55 = .ok (.iastore, 1) := by decide +kernel
theorem dX7_sets_56 : decode cX7_sets 56 = .ok (.iload_n 3, 1) := by decide +kernel
theorem dX7_sets_57 : decode cX7_sets 57 = .ok (.ireturn, 1) := by decide +kernel
theorem dX7_wind_0 : decode cX7_wind 0 = .ok (.iload_n 1, 1) := by decide +kernel
theorem dX7_wind_1 : decode cX7_wind 1 = .ok (.invokestatic 87, 3) := by decide +kernel
theorem dX7_wind_4 : decode cX7_wind 4 = .ok (.ifCond .eq 13, 3) := by decide +kernel
theorem dX7_wind_7 : decode cX7_wind 7 = .ok (.iload_n 2, 1) := by decide +kernel
theorem dX7_wind_8 : decode cX7_wind 8 = .ok (.ifCond .lt 9, 3) := by decide +kernel
theorem dX7_wind_11 : decode cX7_wind 11 = .ok (.iload_n 2, 1) := by decide +kernel
theorem dX7_wind_12 : decode cX7_wind 12 = .ok (.bipush 9, 2) := by decide +kernel
theorem dX7_wind_14 : decode cX7_wind 14 = .ok (.if_icmp .le 10, 3) := by decide +kernel
theorem dX7_wind_17 : decode cX7_wind 17 = .ok (.aload_n 0, 1) := by decide +kernel
theorem dX7_wind_18 : decode cX7_wind 18 = .ok (.ldc 69, 2) := by decide +kernel
theorem dX7_wind_20 : decode cX7_wind 20 = .ok (.invokevirtual 70, 3) := by decide +kernel
theorem dX7_wind_23 : decode cX7_wind 23 = .ok (.ireturn, 1) := by decide +kernel
theorem dX7_wind_24 : decode cX7_wind 24 = .ok (.aload_n 0, 1) := by decide +kernel
theorem dX7_wind_25 : decode cX7_wind 25 = .ok (.getfield 10, 3) := by decide +kernel
theorem dX7_wind_28 : decode cX7_wind 28 = .ok (.getfield 91, 3) := by decide +kernel
theorem dX7_wind_31 : decode cX7_wind 31 = .ok (.istore_n 3, 1) := by decide +kernel
theorem dX7_wind_32 : decode cX7_wind 32 = .ok (.aload_n 0, 1) := by decide +kernel
theorem dX7_wind_33 : decode cX7_wind 33 = .ok (.getfield 10, 3) := by decide +kernel
theorem dX7_wind_36 : decode cX7_wind 36 = .ok (.iload_n 1, 1) := by decide +kernel
theorem dX7_wind_37 : decode cX7_wind 37 = .ok (.putfield 95, 3) := by decide +kernel
theorem dX7_wind_40 : decode cX7_wind 40 = .ok (.aload_n 0, 1) := by decide +kernel
theorem dX7_wind_41 : decode cX7_wind 41 = .ok (.getfield 10, 3) := by decide +kernel
theorem dX7_wind_44 : decode cX7_wind 44 = .ok (.iload_n 2, 1) := by decide +kernel
theorem dX7_wind_45 : decode cX7_wind 45 = .ok (.putfield 91, 3) := by decide +kernel
theorem dX7_wind_48 : decode cX7_wind 48 = .ok (.iload_n 3, 1) := by decide +kernel
theorem dX7_wind_49 : decode cX7_wind 49 = .ok (.ireturn, 1) := by decide +kernel
theorem dX7_tide_0 : decode cX7_tide 0 = .ok (.iload_n 1, 1) := by decide +kernel
theorem dX7_tide_1 : decode cX7_tide 1 = .ok (.ifCond .lt 19, 3) := by decide +kernel
theorem dX7_tide_4 : decode cX7_tide 4 = .ok (.iload_n 1, 1) := by decide +kernel
theorem dX7_tide_5 : decode cX7_tide 5 = .ok (.sipush 199, 3) := by decide +kernel
theorem dX7_tide_8 : decode cX7_tide 8 = .ok (.if_icmp .gt 12, 3) := by decide +kernel
theorem dX7_tide_11 : decode cX7_tide 11 = .ok (.iload_n 2, 1) := by decide +kernel
theorem dX7_tide_12 : decode cX7_tide 12 = .ok (.ifCond .lt 8, 3) := by decide +kernel
theorem dX7_tide_15 : decode cX7_tide 15 = .ok (.iload_n 2, 1) := by decide +kernel
theorem dX7_tide_16 : decode cX7_tide 16 = .ok (.iconst 1, 1) := by decide +kernel
theorem dX7_tide_17 : decode cX7_tide 17 = .ok (.if_icmp .le 10, 3) := by decide +kernel
theorem dX7_tide_20 : decode cX7_tide 20 = .ok (.aload_n 0, 1) := by decide +kernel
theorem dX7_tide_21 : decode cX7_tide 21 = .ok (.ldc 69, 2) := by decide +kernel
theorem dX7_tide_23 : decode cX7_tide 23 = .ok (.invokevirtual 70, 3) := by decide +kernel
theorem dX7_tide_26 : decode cX7_tide 26 = .ok (.ireturn, 1) := by decide +kernel
theorem dX7_tide_27 : decode cX7_tide 27 = .ok (.iload_n 2, 1) := by decide +kernel
theorem dX7_tide_28 : decode cX7_tide 28 = .ok (.ifCond .ne 17, 3) := by decide +kernel
theorem dX7_tide_31 : decode cX7_tide 31 = .ok (.aload_n 0, 1) := by decide +kernel
theorem dX7_tide_32 : decode cX7_tide 32 = .ok (.getfield 10, 3) := by decide +kernel
theorem dX7_tide_35 : decode cX7_tide 35 = .ok (.getfield 77, 3) := by decide +kernel
theorem dX7_tide_38 : decode cX7_tide 38 = .ok (.iload_n 1, 1) := by decide +kernel
theorem dX7_tide_39 : decode cX7_tide 39 = .ok (.invokevirtual 98, 3) := by decide +kernel
theorem dX7_tide_42 : decode cX7_tide 42 = .ok (.goto 14, 3) := by decide +kernel
theorem dX7_tide_45 : decode cX7_tide 45 = .ok (.aload_n 0, 1) := by decide +kernel
theorem dX7_tide_46 : decode cX7_tide 46 = .ok (.getfield 10, 3) := by decide +kernel
theorem dX7_tide_49 : decode cX7_tide 49 = .ok (.getfield 77, 3) := by decide +kernel
theorem dX7_tide_52 : decode cX7_tide 52 = .ok (.iload_n 1, 1) := by decide +kernel
theorem dX7_tide_53 : decode cX7_tide 53 = .ok (.invokevirtual 101, 3) := by decide +kernel
theorem dX7_tide_56 : decode cX7_tide 56 = .ok (.ireturn, 1) := by decide +kernel
theorem dX7_turned_0 : decode cX7_turned 0 = .ok (.iload_n 1, 1) := by decide +kernel
theorem dX7_turned_1 : decode cX7_turned 1 = .ok (.invokestatic 104, 3) := by decide +kernel
theorem dX7_turned_4 : decode cX7_turned 4 = .ok (.ifCond .ne 10, 3) := by decide +kernel
theorem dX7_turned_7 : decode cX7_turned 7 = .ok (.aload_n 0, 1) := by decide +kernel
theorem dX7_turned_8 : decode cX7_turned 8 = .ok (.ldc 69, 2) := by decide +kernel
theorem dX7_turned_10 : decode cX7_turned 10 = .ok (.invokevirtual 70, 3) := by decide +kernel
theorem dX7_turned_13 : decode cX7_turned 13 = .ok (.ireturn, 1) := by decide +kernel
theorem dX7_turned_14 : decode cX7_turned 14 = .ok (.aload_n 0, 1) := by decide +kernel
theorem dX7_turned_15 : decode cX7_turned 15 = .ok (.getfield 10, 3) := by decide +kernel
theorem dX7_turned_18 : decode cX7_turned 18 = .ok (.getfield 77, 3) := by decide +kernel
theorem dX7_turned_21 : decode cX7_turned 21 = .ok (.iload_n 1, 1) := by decide +kernel
theorem dX7_turned_22 : decode cX7_turned 22 = .ok (.invokevirtual 107, 3) := by decide +kernel
theorem dX7_turned_25 : decode cX7_turned 25 = .ok (.aload_n 0, 1) := by decide +kernel
theorem dX7_turned_26 : decode cX7_turned 26 = .ok (.getfield 10, 3) := by decide +kernel
theorem dX7_turned_29 : decode cX7_turned 29 = .ok (.getfield 77, 3) := by decide +kernel
theorem dX7_turned_32 : decode cX7_turned 32 = .ok (.getfield 111, 3) := by decide +kernel
theorem dX7_turned_35 : decode cX7_turned 35 = .ok (.ireturn, 1) := by decide +kernel
theorem dX7_between_0 : decode cX7_between 0 = .ok (.iload_n 1, 1) := by decide +kernel
theorem dX7_between_1 : decode cX7_between 1 = .ok (.invokestatic 104, 3) := by decide +kernel
theorem dX7_between_4 : decode cX7_between 4 = .ok (.ifCond .ne 10, 3) := by decide +kernel
theorem dX7_between_7 : decode cX7_between 7 = .ok (.aload_n 0, 1) := by decide +kernel
theorem dX7_between_8 : decode cX7_between 8 = .ok (.ldc 69, 2) := by decide +kernel
theorem dX7_between_10 : decode cX7_between 10 = .ok (.invokevirtual 70, 3) := by decide +kernel
theorem dX7_between_13 : decode cX7_between 13 = .ok (.ireturn, 1) := by decide +kernel
theorem dX7_between_14 : decode cX7_between 14 = .ok (.aload_n 0, 1) := by decide +kernel
theorem dX7_between_15 : decode cX7_between 15 = .ok (.getfield 10, 3) := by decide +kernel
theorem dX7_between_18 : decode cX7_between 18 = .ok (.getfield 77, 3) := by decide +kernel
theorem dX7_between_21 : decode cX7_between 21 = .ok (.iload_n 1, 1) := by decide +kernel
theorem dX7_between_22 : decode cX7_between 22 = .ok (.invokevirtual 107, 3) := by decide +kernel
theorem dX7_between_25 : decode cX7_between 25 = .ok (.aload_n 0, 1) := by decide +kernel
theorem dX7_between_26 : decode cX7_between 26 = .ok (.getfield 10, 3) := by decide +kernel
theorem dX7_between_29 : decode cX7_between 29 = .ok (.getfield 77, 3) := by decide +kernel
theorem dX7_between_32 : decode cX7_between 32 = .ok (.getfield 114, 3) := by decide +kernel
theorem dX7_between_35 : decode cX7_between 35 = .ok (.ifCond .eq 7, 3) := by decide +kernel
theorem dX7_between_38 : decode cX7_between 38 = .ok (.iconst 1, 1) := by decide +kernel
theorem dX7_between_39 : decode cX7_between 39 = .ok (.goto 4, 3) := by decide +kernel
theorem dX7_between_42 : decode cX7_between 42 = .ok (.iconst 0, 1) := by decide +kernel
theorem dX7_between_43 : decode cX7_between 43 = .ok (.ireturn, 1) := by decide +kernel
theorem dX7_looks_0 : decode cX7_looks 0 = .ok (.iload_n 1, 1) := by decide +kernel
theorem dX7_looks_1 : decode cX7_looks 1 = .ok (.invokestatic 87, 3) := by decide +kernel
theorem dX7_looks_4 : decode cX7_looks 4 = .ok (.ifCond .eq 10, 3) := by decide +kernel
theorem dX7_looks_7 : decode cX7_looks 7 = .ok (.iload_n 2, 1) := by decide +kernel
theorem dX7_looks_8 : decode cX7_looks 8 = .ok (.invokestatic 104, 3) := by decide +kernel
theorem dX7_looks_11 : decode cX7_looks 11 = .ok (.ifCond .ne 10, 3) := by decide +kernel
theorem dX7_looks_14 : decode cX7_looks 14 = .ok (.aload_n 0, 1) := by decide +kernel
theorem dX7_looks_15 : decode cX7_looks 15 = .ok (.ldc 69, 2) := by decide +kernel
theorem dX7_looks_17 : decode cX7_looks 17 = .ok (.invokevirtual 70, 3) := by decide +kernel
theorem dX7_looks_20 : decode cX7_looks 20 = .ok (.ireturn, 1) := by decide +kernel
theorem dX7_looks_21 : decode cX7_looks 21 = .ok (.aload_n 0, 1) := by decide +kernel
theorem dX7_looks_22 : decode cX7_looks 22 = .ok (.getfield 10, 3) := by decide +kernel
theorem dX7_looks_25 : decode cX7_looks 25 = .ok (.getfield 77, 3) := by decide +kernel
theorem dX7_looks_28 : decode cX7_looks 28 = .ok (.iload_n 2, 1) := by decide +kernel
theorem dX7_looks_29 : decode cX7_looks 29 = .ok (.invokevirtual 107, 3) := by decide +kernel
theorem dX7_looks_32 : decode cX7_looks 32 = .ok (.aload_n 0, 1) := by decide +kernel
theorem dX7_looks_33 : decode cX7_looks 33 = .ok (.getfield 10, 3) := by decide +kernel
theorem dX7_looks_36 : decode cX7_looks 36 = .ok (.getfield 77, 3) := by decide +kernel
theorem dX7_looks_39 : decode cX7_looks 39 = .ok (.iload_n 1, 1) := by decide +kernel
theorem dX7_looks_40 : decode cX7_looks 40 = .ok (.invokevirtual 117, 3) := by decide +kernel
theorem dX7_looks_43 : decode cX7_looks 43 = .ok (.ireturn, 1) := by decide +kernel
theorem dX7_front_0 : decode cX7_front 0 = .ok (.iload_n 1, 1) := by decide +kernel
theorem dX7_front_1 : decode cX7_front 1 = .ok (.invokestatic 87, 3) := by decide +kernel
theorem dX7_front_4 : decode cX7_front 4 = .ok (.ifCond .eq 10, 3) := by decide +kernel
theorem dX7_front_7 : decode cX7_front 7 = .ok (.iload_n 2, 1) := by decide +kernel
theorem dX7_front_8 : decode cX7_front 8 = .ok (.invokestatic 104, 3) := by decide +kernel
theorem dX7_front_11 : decode cX7_front 11 = .ok (.ifCond .ne 10, 3) := by decide +kernel
theorem dX7_front_14 : decode cX7_front 14 = .ok (.aload_n 0, 1) := by decide +kernel
theorem dX7_front_15 : decode cX7_front 15 = .ok (.ldc 69, 2) := by decide +kernel
theorem dX7_front_17 : decode cX7_front 17 = .ok (.invokevirtual 70, 3) := by decide +kernel
theorem dX7_front_20 : decode cX7_front 20 = .ok (.ireturn, 1) := by decide +kernel
theorem dX7_front_21 : decode cX7_front 21 = .ok (.aload_n 0, 1) := by decide +kernel
theorem dX7_front_22 : decode cX7_front 22 = .ok (.getfield 10, 3) := by decide +kernel
theorem dX7_front_25 : decode cX7_front 25 = .ok (.getfield 77, 3) := by decide +kernel
theorem dX7_front_28 : decode cX7_front 28 = .ok (.iload_n 2, 1) := by decide +kernel
theorem dX7_front_29 : decode cX7_front 29 = .ok (.invokevirtual 107, 3) := by decide +kernel
theorem dX7_front_32 : decode cX7_front 32 = .ok (.aload_n 0, 1) := by decide +kernel
theorem dX7_front_33 : decode cX7_front 33 = .ok (.getfield 10, 3) := by decide +kernel
theorem dX7_front_36 : decode cX7_front 36 = .ok (.getfield 77, 3) := by decide +kernel
theorem dX7_front_39 : decode cX7_front 39 = .ok (.getfield 114, 3) := by decide +kernel
theorem dX7_front_42 : decode cX7_front 42 = .ok (.ifCond .eq 12, 3) := by decide +kernel
theorem dX7_front_45 : decode cX7_front 45 = .ok (.aload_n 0, 1) := by decide +kernel
theorem dX7_front_46 : decode cX7_front 46 = .ok (.ldc 120, 2) := by decide +kernel
theorem dX7_front_48 : decode cX7_front 48 = .ok (.invokevirtual 70, 3) := by decide +kernel
theorem dX7_front_51 : decode cX7_front 51 = .ok (.goto 14, 3) := by decide +kernel
theorem dX7_front_54 : decode cX7_front 54 = .ok (.aload_n 0, 1) := by decide +kernel
theorem dX7_front_55 : decode cX7_front 55 = .ok (.getfield 10, 3) := by decide +kernel
theorem dX7_front_58 : decode cX7_front 58 = .ok (.getfield 77, 3) := by decide +kernel
theorem dX7_front_61 : decode cX7_front 61 = .ok (.iload_n 1, 1) := by decide +kernel
theorem dX7_front_62 : decode cX7_front 62 = .ok (.invokevirtual 121, 3) := by decide +kernel
theorem dX7_front_65 : decode cX7_front 65 = .ok (.ireturn, 1) := by decide +kernel
theorem dX7_when_0 : decode cX7_when 0 = .ok (.iload_n 1, 1) := by decide +kernel
theorem dX7_when_1 : decode cX7_when 1 = .ok (.invokestatic 87, 3) := by decide +kernel
theorem dX7_when_4 : decode cX7_when 4 = .ok (.ifCond .eq 17, 3) := by decide +kernel
theorem dX7_when_7 : decode cX7_when 7 = .ok (.iload_n 2, 1) := by decide +kernel
theorem dX7_when_8 : decode cX7_when 8 = .ok (.invokestatic 87, 3) := by decide +kernel
theorem dX7_when_11 : decode cX7_when 11 = .ok (.ifCond .eq 10, 3) := by decide +kernel
theorem dX7_when_14 : decode cX7_when 14 = .ok (.iload_n 3, 1) := by decide +kernel
theorem dX7_when_15 : decode cX7_when 15 = .ok (.invokestatic 104, 3) := by decide +kernel
theorem dX7_when_18 : decode cX7_when 18 = .ok (.ifCond .ne 10, 3) := by decide +kernel
theorem dX7_when_21 : decode cX7_when 21 = .ok (.aload_n 0, 1) := by decide +kernel
theorem dX7_when_22 : decode cX7_when 22 = .ok (.ldc 69, 2) := by decide +kernel
theorem dX7_when_24 : decode cX7_when 24 = .ok (.invokevirtual 70, 3) := by decide +kernel
theorem dX7_when_27 : decode cX7_when 27 = .ok (.ireturn, 1) := by decide +kernel
theorem dX7_when_28 : decode cX7_when 28 = .ok (.iload_n 3, 1) := by decide +kernel
theorem dX7_when_29 : decode cX7_when 29 = .ok (.istore 4, 2) := by decide +kernel
theorem dX7_when_31 : decode cX7_when 31 = .ok (.iload 4, 2) := by decide +kernel
theorem dX7_when_33 : decode cX7_when 33 = .ok (.iload_n 3, 1) := by decide +kernel
theorem dX7_when_34 : decode cX7_when 34 = .ok (.sipush 960, 3) := by decide +kernel
theorem dX7_when_37 : decode cX7_when 37 = .ok (.iadd, 1) := by decide +kernel
theorem dX7_when_38 : decode cX7_when 38 = .ok (.if_icmp .ge 39, 3) := by decide +kernel
theorem dX7_when_41 : decode cX7_when 41 = .ok (.aload_n 0, 1) := by decide +kernel
theorem dX7_when_42 : decode cX7_when 42 = .ok (.getfield 10, 3) := by decide +kernel
theorem dX7_when_45 : decode cX7_when 45 = .ok (.getfield 77, 3) := by decide +kernel
theorem dX7_when_48 : decode cX7_when 48 = .ok (.iload 4, 2) := by decide +kernel
theorem dX7_when_50 : decode cX7_when 50 = .ok (.invokevirtual 107, 3) := by decide +kernel
theorem dX7_when_53 : decode cX7_when 53 = .ok (.aload_n 0, 1) := by decide +kernel
theorem dX7_when_54 : decode cX7_when 54 = .ok (.getfield 10, 3) := by decide +kernel
theorem dX7_when_57 : decode cX7_when 57 = .ok (.getfield 77, 3) := by decide +kernel
theorem dX7_when_60 : decode cX7_when 60 = .ok (.iload_n 1, 1) := by decide +kernel
theorem dX7_when_61 : decode cX7_when 61 = .ok (.invokevirtual 117, 3) := by decide +kernel
theorem dX7_when_64 : decode cX7_when 64 = .ok (.iload_n 2, 1) := by decide +kernel
theorem dX7_when_65 : decode cX7_when 65 = .ok (.if_icmp .ne 6, 3) := by decide +kernel
theorem dX7_when_68 : decode cX7_when 68 = .ok (.iload 4, 2) := by decide +kernel
theorem dX7_when_70 : decode cX7_when 70 = .ok (.ireturn, 1) := by decide +kernel
theorem dX7_when_71 : decode cX7_when 71 = .ok (.iinc 4 1, 3) := by decide +kernel
theorem dX7_when_74 : decode cX7_when 74 = .ok (.goto (-43), 3) := by decide +kernel
theorem dX7_when_77 : decode cX7_when 77 = .ok (.aload_n 0, 1) := by decide +kernel
theorem dX7_when_78 : decode cX7_when 78 = .ok (.ldc 120, 2) := by decide +kernel
theorem dX7_when_80 : decode cX7_when 80 = .ok (.invokevirtual 70, 3) := by decide +kernel
theorem dX7_when_83 : decode cX7_when 83 = .ok (.ireturn, 1) := by decide +kernel
theorem dX7_house_0 : decode cX7_house 0 = .ok (.iload_n 1, 1) := by decide +kernel
theorem dX7_house_1 : decode cX7_house 1 = .ok (.invokestatic 124, 3) := by decide +kernel
theorem dX7_house_4 : decode cX7_house 4 = .ok (.ifCond .eq 10, 3) := by decide +kernel
theorem dX7_house_7 : decode cX7_house 7 = .ok (.iload_n 2, 1) := by decide +kernel
theorem dX7_house_8 : decode cX7_house 8 = .ok (.invokestatic 87, 3) := by decide +kernel
theorem dX7_house_11 : decode cX7_house 11 = .ok (.ifCond .ne 10, 3) := by decide +kernel
theorem dX7_house_14 : decode cX7_house 14 = .ok (.aload_n 0, 1) := by decide +kernel
theorem dX7_house_15 : decode cX7_house 15 = .ok (.ldc 69, 2) := by decide +kernel
theorem dX7_house_17 : decode cX7_house 17 = .ok (.invokevirtual 70, 3) := by decide +kernel
theorem dX7_house_20 : decode cX7_house 20 = .ok (.ireturn, 1) := by decide +kernel
theorem dX7_house_21 : decode cX7_house 21 = .ok (.aload_n 0, 1) := by decide +kernel
theorem dX7_house_22 : decode cX7_house 22 = .ok (.getfield 10, 3) := by decide +kernel
theorem dX7_house_25 : decode cX7_house 25 = .ok (.getfield 127, 3) := by decide +kernel
theorem dX7_house_28 : decode cX7_house 28 = .ok (.bipush 8, 2) := by decide +kernel
theorem dX7_house_30 : decode cX7_house 30 = .ok (.if_icmp .lt 10, 3) := by decide +kernel
theorem dX7_house_33 : decode cX7_house 33 = .ok (.aload_n 0, 1) := by decide +kernel
theorem dX7_house_34 : decode cX7_house 34 = .ok (.ldc 130, 2) := by decide +kernel
theorem dX7_house_36 : decode cX7_house 36 = .ok (.invokevirtual 70, 3) := by decide +kernel
theorem dX7_house_39 : decode cX7_house 39 = .ok (.ireturn, 1) := by decide +kernel
theorem dX7_house_40 : decode cX7_house 40 = .ok (.aload_n 0, 1) := by decide +kernel
theorem dX7_house_41 : decode cX7_house 41 = .ok (.getfield 10, 3) := by decide +kernel
theorem dX7_house_44 : decode cX7_house 44 = .ok (.iload_n 1, 1) := by decide +kernel
theorem dX7_house_45 : decode cX7_house 45 = .ok (.iload_n 2, 1) := by decide +kernel
theorem dX7_house_46 : decode cX7_house 46 = .ok (.invokevirtual 131, 3) := by decide +kernel
theorem dX7_house_49 : decode cX7_house 49 = .ok (.ireturn, 1) := by decide +kernel
theorem dX7_houseOf_0 : decode cX7_houseOf 0 = .ok (.aload_n 0, 1) := by decide +kernel
theorem dX7_houseOf_1 : decode cX7_houseOf 1 = .ok (.iload_n 1, 1) := by decide +kernel
theorem dX7_houseOf_2 : decode cX7_houseOf 2 = .ok (.invokevirtual 135, 3) := by decide +kernel
theorem dX7_houseOf_5 : decode cX7_houseOf 5 = .ok (.ifCond .eq 12, 3) := by decide +kernel
theorem dX7_houseOf_8 : decode cX7_houseOf 8 = .ok (.iload_n 2, 1) := by decide +kernel
theorem dX7_houseOf_9 : decode cX7_houseOf 9 = .ok (.ifCond .lt 8, 3) := by decide +kernel
theorem dX7_houseOf_12 : decode cX7_houseOf 12 = .ok (.iload_n 2, 1) := by decide +kernel
theorem dX7_houseOf_13 : decode cX7_houseOf 13 = .ok (.iconst 1, 1) := by decide +kernel
