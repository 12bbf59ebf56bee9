theorem dX0_init_0 : decode cX0_init 0 = .ok (.aload_n 0, 1) := by decide +kernel
theorem dX0_init_1 : decode cX0_init 1 = .ok (.invokespecial 3, 3) := by decide +kernel
theorem dX0_init_4 : decode cX0_init 4 = .ok (.aload_n 0, 1) := by decide +kernel
theorem dX0_init_5 : decode cX0_init 5 = .ok (.bipush 16, 2) := by decide +kernel
theorem dX0_init_7 : decode cX0_init 7 = .ok (.newarray .int, 2) := by decide +kernel
theorem dX0_init_9 : decode cX0_init 9 = .ok (.putfield 9, 3) := by decide +kernel
theorem dX0_init_12 : decode cX0_init 12 = .ok (.aload_n 0, 1) := by decide +kernel
theorem dX0_init_13 : decode cX0_init 13 = .ok (.bipush 16, 2) := by decide +kernel
theorem dX0_init_15 : decode cX0_init 15 = .ok (.newarray .int, 2) := by decide +kernel
theorem dX0_init_17 : decode cX0_init 17 = .ok (.putfield 15, 3) := by decide +kernel
theorem dX0_init_20 : decode cX0_init 20 = .ok (.aload_n 0, 1) := by decide +kernel
theorem dX0_init_21 : decode cX0_init 21 = .ok (.bipush 16, 2) := by decide +kernel
theorem dX0_init_23 : decode cX0_init 23 = .ok (.newarray .int, 2) := by decide +kernel
theorem dX0_init_25 : decode cX0_init 25 = .ok (.putfield 18, 3) := by decide +kernel
theorem dX0_init_28 : decode cX0_init 28 = .ok (.aload_n 0, 1) := by decide +kernel
theorem dX0_init_29 : decode cX0_init 29 = .ok (.aload_n 1, 1) := by decide +kernel
theorem dX0_init_30 : decode cX0_init 30 = .ok (.getfield 21, 3) := by decide +kernel
theorem dX0_init_33 : decode cX0_init 33 = .ok (.putfield 27, 3) := by decide +kernel
theorem dX0_init_36 : decode cX0_init 36 = .ok (.aload_n 0, 1) := by decide +kernel
theorem dX0_init_37 : decode cX0_init 37 = .ok (.aload_n 1, 1) := by decide +kernel
theorem dX0_init_38 : decode cX0_init 38 = .ok (.putfield 28, 3) := by decide +kernel
theorem dX0_init_41 : decode cX0_init 41 = .ok (.iconst 0, 1) := by decide +kernel
theorem dX0_init_42 : decode cX0_init 42 = .ok (.istore_n 2, 1) := by decide +kernel
theorem dX0_init_43 : decode cX0_init 43 = .ok (.iload_n 2, 1) := by decide +kernel
theorem dX0_init_44 : decode cX0_init 44 = .ok (.bipush 16, 2) := by decide +kernel
theorem dX0_init_46 : decode cX0_init 46 = .ok (.if_icmp .ge 16, 3) := by decide +kernel
theorem dX0_init_49 : decode cX0_init 49 = .ok (.aload_n 0, 1) := by decide +kernel
theorem dX0_init_50 : decode cX0_init 50 = .ok (.getfield 9, 3) := by decide +kernel
theorem dX0_init_53 : decode cX0_init 53 = .ok (.iload_n 2, 1) := by decide +kernel
theorem dX0_init_54 : decode cX0_init 54 = .ok (.iconst (-1), 1) := by decide +kernel
theorem dX0_init_55 : decode cX0_init 55 = .ok (.iastore, 1) := by decide +kernel
theorem dX0_init_56 : decode cX0_init 56 = .ok (.iinc 2 1, 3) := by decide +kernel
theorem dX0_init_59 : decode cX0_init 59 = .ok (.goto (-16), 3) := by decide +kernel
theorem dX0_init_62 : decode cX0_init 62 = .ok (.return_, 1) := by decide +kernel
theorem dX0_settle_0 : decode cX0_settle 0 = .ok (.iconst 0, 1) := by decide +kernel
theorem dX0_settle_1 : decode cX0_settle 1 = .ok (.istore_n 1, 1) := by decide +kernel
theorem dX0_settle_2 : decode cX0_settle 2 = .ok (.iload_n 1, 1) := by decide +kernel
theorem dX0_settle_3 : decode cX0_settle 3 = .ok (.aload_n 0, 1) := by decide +kernel
theorem dX0_settle_4 : decode cX0_settle 4 = .ok (.getfield 27, 3) := by decide +kernel
theorem dX0_settle_7 : decode cX0_settle 7 = .ok (.getfield 32, 3) := by decide +kernel
theorem dX0_settle_10 : decode cX0_settle 10 = .ok (.if_icmp .ge 39, 3) := by decide +kernel
theorem dX0_settle_13 : decode cX0_settle 13 = .ok (.aload_n 0, 1) := by decide +kernel
theorem dX0_settle_14 : decode cX0_settle 14 = .ok (.getfield 15, 3) := by decide +kernel
theorem dX0_settle_17 : decode cX0_settle 17 = .ok (.iload_n 1, 1) := by decide +kernel
theorem dX0_settle_18 : decode cX0_settle 18 = .ok (.aload_n 0, 1) := by decide +kernel
theorem dX0_settle_19 : decode cX0_settle 19 = .ok (.getfield 27, 3) := by decide +kernel
theorem dX0_settle_22 : decode cX0_settle 22 = .ok (.iload_n 1, 1) := by decide +kernel
theorem dX0_settle_23 : decode cX0_settle 23 = .ok (.invokevirtual 38, 3) := by decide +kernel
theorem dX0_settle_26 : decode cX0_settle 26 = .ok (.ifCond .eq 15, 3) := by decide +kernel
theorem dX0_settle_29 : decode cX0_settle 29 = .ok (.aload_n 0, 1) := by decide +kernel
theorem dX0_settle_30 : decode cX0_settle 30 = .ok (.getfield 27, 3) := by decide +kernel
theorem dX0_settle_33 : decode cX0_settle 33 = .ok (.iload_n 1, 1) := by decide +kernel
theorem dX0_settle_34 : decode cX0_settle 34 = .ok (.iconst 4, 1) := by decide +kernel
theorem dX0_settle_35 : decode cX0_settle 35 = .ok (.invokevirtual 42, 3) := by decide +kernel
theorem dX0_settle_38 : decode cX0_settle 38 = .ok (.goto 4, 3) := by decide +kernel
theorem dX0_settle_41 : decode cX0_settle 41 = .ok (.iconst 1, 1) := by decide +kernel
theorem dX0_settle_42 : decode cX0_settle 42 = .ok (.iastore, 1) := by decide +kernel
theorem dX0_settle_43 : decode cX0_settle 43 = .ok (.iinc 1 1, 3) := by decide +kernel
theorem dX0_settle_46 : decode cX0_settle 46 = .ok (.goto (-44), 3) := by decide +kernel
theorem dX0_settle_49 : decode cX0_settle 49 = .ok (.iconst 0, 1) := by decide +kernel
theorem dX0_settle_50 : decode cX0_settle 50 = .ok (.istore_n 1, 1) := by decide +kernel
theorem dX0_settle_51 : decode cX0_settle 51 = .ok (.iload_n 1, 1) := by decide +kernel
theorem dX0_settle_52 : decode cX0_settle 52 = .ok (.sipush 15984, 3) := by decide +kernel
theorem dX0_settle_55 : decode cX0_settle 55 = .ok (.if_icmp .gt 30, 3) := by decide +kernel
theorem dX0_settle_58 : decode cX0_settle 58 = .ok (.aload_n 0, 1) := by decide +kernel
theorem dX0_settle_59 : decode cX0_settle 59 = .ok (.invokevirtual 46, 3) := by decide +kernel
theorem dX0_settle_62 : decode cX0_settle 62 = .ok (.ifCond .ne 5, 3) := by decide +kernel
theorem dX0_settle_65 : decode cX0_settle 65 = .ok (.iconst (-1), 1) := by decide +kernel
theorem dX0_settle_66 : decode cX0_settle 66 = .ok (.ireturn, 1) := by decide +kernel
theorem dX0_settle_67 : decode cX0_settle 67 = .ok (.aload_n 0, 1) := by decide +kernel
theorem dX0_settle_68 : decode cX0_settle 68 = .ok (.invokevirtual 50, 3) := by decide +kernel
theorem dX0_settle_71 : decode cX0_settle 71 = .ok (.ifCond .ne 8, 3) := by decide +kernel
theorem dX0_settle_74 : decode cX0_settle 74 = .ok (.aload_n 0, 1) := by decide +kernel
theorem dX0_settle_75 : decode cX0_settle 75 = .ok (.invokevirtual 53, 3) := by decide +kernel
theorem dX0_settle_78 : decode cX0_settle 78 = .ok (.ireturn, 1) := by decide +kernel
theorem dX0_settle_79 : decode cX0_settle 79 = .ok (.iinc 1 1, 3) := by decide +kernel
theorem dX0_settle_82 : decode cX0_settle 82 = .ok (.goto (-31), 3) := by decide +kernel
theorem dX0_settle_85 : decode cX0_settle 85 = .ok (.iconst (-1), 1) := by decide +kernel
theorem dX0_settle_86 : decode cX0_settle 86 = .ok (.ireturn, 1) := by decide +kernel
theorem dX0_hearAnew_0 : decode cX0_hearAnew 0 = .ok (.iconst 0, 1) := by decide +kernel
theorem dX0_hearAnew_1 : decode cX0_hearAnew 1 = .ok (.istore_n 1, 1) := by decide +kernel
theorem dX0_hearAnew_2 : decode cX0_hearAnew 2 = .ok (.iload_n 1, 1) := by decide +kernel
theorem dX0_hearAnew_3 : decode cX0_hearAnew 3 = .ok (.aload_n 0, 1) := by decide +kernel
theorem dX0_hearAnew_4 : decode cX0_hearAnew 4 = .ok (.getfield 27, 3) := by decide +kernel
theorem dX0_hearAnew_7 : decode cX0_hearAnew 7 = .ok (.getfield 32, 3) := by decide +kernel
theorem dX0_hearAnew_10 : decode cX0_hearAnew 10 = .ok (.if_icmp .ge 54, 3) := by decide +kernel
theorem dX0_hearAnew_13 : decode cX0_hearAnew 13 = .ok (.aload_n 0, 1) := by decide +kernel
theorem dX0_hearAnew_14 : decode cX0_hearAnew 14 = .ok (.getfield 18, 3) := by decide +kernel
theorem dX0_hearAnew_17 : decode cX0_hearAnew 17 = .ok (.iload_n 1, 1) := by decide +kernel
theorem dX0_hearAnew_18 : decode cX0_hearAnew 18 = .ok (.aload_n 0, 1) := by decide +kernel
theorem dX0_hearAnew_19 : decode cX0_hearAnew 19 = .ok (.getfield 28, 3) := by decide +kernel
theorem dX0_hearAnew_22 : decode cX0_hearAnew 22 = .ok (.iload_n 1, 1) := by decide +kernel
theorem dX0_hearAnew_23 : decode cX0_hearAnew 23 = .ok (.invokevirtual 57, 3) := by decide +kernel
theorem dX0_hearAnew_26 : decode cX0_hearAnew 26 = .ok (.ifCond .eq 11, 3) := by decide +kernel
theorem dX0_hearAnew_29 : decode cX0_hearAnew 29 = .ok (.aload_n 0, 1) := by decide +kernel
theorem dX0_hearAnew_30 : decode cX0_hearAnew 30 = .ok (.iload_n 1, 1) := by decide +kernel
theorem dX0_hearAnew_31 : decode cX0_hearAnew 31 = .ok (.invokevirtual 60, 3) := by decide +kernel
theorem dX0_hearAnew_34 : decode cX0_hearAnew 34 = .ok (.goto 9, 3) := by decide +kernel
theorem dX0_hearAnew_37 : decode cX0_hearAnew 37 = .ok (.aload_n 0, 1) := by decide +kernel
theorem dX0_hearAnew_38 : decode cX0_hearAnew 38 = .ok (.getfield 15, 3) := by decide +kernel
theorem dX0_hearAnew_41 : decode cX0_hearAnew 41 = .ok (.iload_n 1, 1) := by decide +kernel
theorem dX0_hearAnew_42 : decode cX0_hearAnew 42 = .ok (.iaload, 1) := by decide +kernel
theorem dX0_hearAnew_43 : decode cX0_hearAnew 43 = .ok (.iastore, 1) := by decide +kernel
theorem dX0_hearAnew_44 : decode cX0_hearAnew 44 = .ok (.aload_n 0, 1) := by decide +kernel
theorem dX0_hearAnew_45 : decode cX0_hearAnew 45 = .ok (.getfield 18, 3) := by decide +kernel
theorem dX0_hearAnew_48 : decode cX0_hearAnew 48 = .ok (.iload_n 1, 1) := by decide +kernel
theorem dX0_hearAnew_49 : decode cX0_hearAnew 49 = .ok (.iaload, 1) := by decide +kernel
theorem dX0_hearAnew_50 : decode cX0_hearAnew 50 = .ok (.sipush 999, 3) := by decide +kernel
theorem dX0_hearAnew_53 : decode cX0_hearAnew 53 = .ok (.if_icmp .le 5, 3) := by decide +kernel
theorem dX0_hearAnew_56 : decode cX0_hearAnew 56 = .ok (.iconst 0, 1) := by decide +kernel
theorem dX0_hearAnew_57 : decode cX0_hearAnew 57 = .ok (.ireturn, 1) := by decide +kernel
theorem dX0_hearAnew_58 : decode cX0_hearAnew 58 = .ok (.iinc 1 1, 3) := by decide +kernel
theorem dX0_hearAnew_61 : decode cX0_hearAnew 61 = .ok (.goto (-59), 3) := by decide +kernel
theorem dX0_hearAnew_64 : decode cX0_hearAnew 64 = .ok (.iconst 1, 1) := by decide +kernel
theorem dX0_hearAnew_65 : decode cX0_hearAnew 65 = .ok (.ireturn, 1) := by decide +kernel
theorem dX0_neededBy_0 : decode cX0_neededBy 0 = .ok (.iconst 0, 1) := by decide +kernel
theorem dX0_neededBy_1 : decode cX0_neededBy 1 = .ok (.istore_n 2, 1) := by decide +kernel
theorem dX0_neededBy_2 : decode cX0_neededBy 2 = .ok (.iconst 0, 1) := by decide +kernel
theorem dX0_neededBy_3 : decode cX0_neededBy 3 = .ok (.istore_n 3, 1) := by decide +kernel
theorem dX0_neededBy_4 : decode cX0_neededBy 4 = .ok (.iload_n 3, 1) := by decide +kernel
theorem dX0_neededBy_5 : decode cX0_neededBy 5 = .ok (.aload_n 0, 1) := by decide +kernel
theorem dX0_neededBy_6 : decode cX0_neededBy 6 = .ok (.getfield 27, 3) := by decide +kernel
theorem dX0_neededBy_9 : decode cX0_neededBy 9 = .ok (.getfield 32, 3) := by decide +kernel
theorem dX0_neededBy_12 : decode cX0_neededBy 12 = .ok (.if_icmp .ge 72, 3) := by decide +kernel
theorem dX0_neededBy_15 : decode cX0_neededBy 15 = .ok (.iload_n 3, 1) := by decide +kernel
theorem dX0_neededBy_16 : decode cX0_neededBy 16 = .ok (.iload_n 1, 1) := by decide +kernel
theorem dX0_neededBy_17 : decode cX0_neededBy 17 = .ok (.if_icmp .eq 61, 3) := by decide +kernel
theorem dX0_neededBy_20 : decode cX0_neededBy 20 = .ok (.aload_n 0, 1) := by decide +kernel
theorem dX0_neededBy_21 : decode cX0_neededBy 21 = .ok (.getfield 28, 3) := by decide +kernel
theorem dX0_neededBy_24 : decode cX0_neededBy 24 = .ok (.iload_n 3, 1) := by decide +kernel
theorem dX0_neededBy_25 : decode cX0_neededBy 25 = .ok (.iload_n 1, 1) := by decide +kernel
theorem dX0_neededBy_26 : decode cX0_neededBy 26 = .ok (.invokevirtual 64, 3) := by decide +kernel
theorem dX0_neededBy_29 : decode cX0_neededBy 29 = .ok (.ifCond .eq 49, 3) := by decide +kernel
theorem dX0_neededBy_32 : decode cX0_neededBy 32 = .ok (.aload_n 0, 1) := by decide +kernel
theorem dX0_neededBy_33 : decode cX0_neededBy 33 = .ok (.getfield 28, 3) := by decide +kernel
theorem dX0_neededBy_36 : decode cX0_neededBy 36 = .ok (.getfield 68, 3) := by decide +kernel
theorem dX0_neededBy_39 : decode cX0_neededBy 39 = .ok (.iload_n 3, 1) := by decide +kernel
theorem dX0_neededBy_40 : decode cX0_neededBy 40 = .ok (.iaload, 1) := by decide +kernel
theorem dX0_neededBy_41 : decode cX0_neededBy 41 = .ok (.aload_n 0, 1) := by decide +kernel
theorem dX0_neededBy_42 : decode cX0_neededBy 42 = .ok (.getfield 28, 3) := by decide +kernel
theorem dX0_neededBy_45 : decode cX0_neededBy 45 = .ok (.getfield 68, 3) := by decide +kernel
theorem dX0_neededBy_48 : decode cX0_neededBy 48 = .ok (.iload_n 1, 1) := by decide +kernel
theorem dX0_neededBy_49 : decode cX0_neededBy 49 = .ok (.iaload, 1) := by decide +kernel
theorem dX0_neededBy_50 : decode cX0_neededBy 50 = .ok (.invokestatic 71, 3) := by decide +kernel
theorem dX0_neededBy_53 : decode cX0_neededBy 53 = .ok (.istore 4, 2) := by decide +kernel
theorem dX0_neededBy_55 : decode cX0_neededBy 55 = .ok (.iload_n 2, 1) := by decide +kernel
theorem dX0_neededBy_56 : decode cX0_neededBy 56 = .ok (.aload_n 0, 1) := by decide +kernel
theorem dX0_neededBy_57 : decode cX0_neededBy 57 = .ok (.getfield 15, 3) := by decide +kernel
theorem dX0_neededBy_60 : decode cX0_neededBy 60 = .ok (.iload_n 3, 1) := by decide +kernel
theorem dX0_neededBy_61 : decode cX0_neededBy 61 = .ok (.iaload, 1) := by decide +kernel
theorem dX0_neededBy_62 : decode cX0_neededBy 62 = .ok (.aload_n 0, 1) := by decide +kernel
theorem dX0_neededBy_63 : decode cX0_neededBy 63 = .ok (.getfield 27, 3) := by decide +kernel
theorem dX0_neededBy_66 : decode cX0_neededBy 66 = .ok (.iload_n 3, 1) := by decide +kernel
theorem dX0_neededBy_67 : decode cX0_neededBy 67 = .ok (.iconst 5, 1) := by decide +kernel
theorem dX0_neededBy_68 : decode cX0_neededBy 68 = .ok (.invokevirtual 42, 3) := by decide +kernel
theorem dX0_neededBy_71 : decode cX0_neededBy 71 = .ok (.iload 4, 2) := by decide +kernel
theorem dX0_neededBy_73 : decode cX0_neededBy 73 = .ok (.invokestatic 74, 3) := by decide +kernel
theorem dX0_neededBy_76 : decode cX0_neededBy 76 = .ok (.iadd, 1) := by decide +kernel
theorem dX0_neededBy_77 : decode cX0_neededBy 77 = .ok (.istore_n 2, 1) := by decide +kernel
theorem dX0_neededBy_78 : decode cX0_neededBy 78 = .ok (.iinc 3 1, 3) := by decide +kernel
theorem dX0_neededBy_81 : decode cX0_neededBy 81 = .ok (.goto (-77), 3) := by decide +kernel
theorem dX0_neededBy_84 : decode cX0_neededBy 84 = .ok (.iconst 1, 1) := by decide +kernel
theorem dX0_neededBy_85 : decode cX0_neededBy 85 = .ok (.aload_n 0, 1) := by decide +kernel
theorem dX0_neededBy_86 : decode cX0_neededBy 86 = .ok (.getfield 27, 3) := by decide +kernel
theorem dX0_neededBy_89 : decode cX0_neededBy 89 = .ok (.iload_n 1, 1) := by decide +kernel
theorem dX0_neededBy_90 : decode cX0_neededBy 90 = .ok (.bipush 6, 2) := by decide +kernel
theorem dX0_neededBy_92 : decode cX0_neededBy 92 = .ok (.invokevirtual 42, 3) := by decide +kernel
theorem dX0_neededBy_95 : decode cX0_neededBy 95 = .ok (.bipush 10, 2) := by decide +kernel
theorem dX0_neededBy_97 : decode cX0_neededBy 97 = .ok (.iload_n 2, 1) := by decide +kernel
theorem dX0_neededBy_98 : decode cX0_neededBy 98 = .ok (.imul, 1) := by decide +kernel
theorem dX0_neededBy_99 : decode cX0_neededBy 99 = .ok (.iadd, 1) := by decide +kernel
theorem dX0_neededBy_100 : decode cX0_neededBy 100 = .ok (.bipush 19, 2) := by decide +kernel
theorem dX0_neededBy_102 : decode cX0_neededBy 102 = .ok (.iadd, 1) := by decide +kernel
theorem dX0_neededBy_103 : decode cX0_neededBy 103 = .ok (.bipush 20, 2) := by decide +kernel
theorem dX0_neededBy_105 : decode cX0_neededBy 105 = .ok (.idiv, 1) := by decide +kernel
theorem dX0_neededBy_106 : decode cX0_neededBy 106 = .ok (.invokestatic 78, 3) := by decide +kernel
theorem dX0_neededBy_109 : decode cX0_neededBy 109 = .ok (.ireturn, 1) := by decide +kernel
theorem dX0_takeNext_0 : decode cX0_takeNext 0 = .ok (.iconst 0, 1) := by decide +kernel
theorem dX0_takeNext_1 : decode cX0_takeNext 1 = .ok (.istore_n 1, 1) := by decide +kernel
theorem dX0_takeNext_2 : decode cX0_takeNext 2 = .ok (.iconst 0, 1) := by decide +kernel
theorem dX0_takeNext_3 : decode cX0_takeNext 3 = .ok (.istore_n 2, 1) := by decide +kernel
theorem dX0_takeNext_4 : decode cX0_takeNext 4 = .ok (.iload_n 2, 1) := by decide +kernel
theorem dX0_takeNext_5 : decode cX0_takeNext 5 = .ok (.aload_n 0, 1) := by decide +kernel
theorem dX0_takeNext_6 : decode cX0_takeNext 6 = .ok (.getfield 27, 3) := by decide +kernel
theorem dX0_takeNext_9 : decode cX0_takeNext 9 = .ok (.getfield 32, 3) := by decide +kernel
theorem dX0_takeNext_12 : decode cX0_takeNext 12 = .ok (.if_icmp .ge 38, 3) := by decide +kernel
theorem dX0_takeNext_15 : decode cX0_takeNext 15 = .ok (.aload_n 0, 1) := by decide +kernel
theorem dX0_takeNext_16 : decode cX0_takeNext 16 = .ok (.getfield 18, 3) := by decide +kernel
theorem dX0_takeNext_19 : decode cX0_takeNext 19 = .ok (.iload_n 2, 1) := by decide +kernel
theorem dX0_takeNext_20 : decode cX0_takeNext 20 = .ok (.iaload, 1) := by decide +kernel
theorem dX0_takeNext_21 : decode cX0_takeNext 21 = .ok (.aload_n 0, 1) := by decide +kernel
theorem dX0_takeNext_22 : decode cX0_takeNext 22 = .ok (.getfield 15, 3) := by decide +kernel
theorem dX0_takeNext_25 : decode cX0_takeNext 25 = .ok (.iload_n 2, 1) := by decide +kernel
theorem dX0_takeNext_26 : decode cX0_takeNext 26 = .ok (.iaload, 1) := by decide +kernel
theorem dX0_takeNext_27 : decode cX0_takeNext 27 = .ok (.if_icmp .eq 17, 3) := by decide +kernel
theorem dX0_takeNext_30 : decode cX0_takeNext 30 = .ok (.aload_n 0, 1) := by decide +kernel
theorem dX0_takeNext_31 : decode cX0_takeNext 31 = .ok (.getfield 15, 3) := by decide +kernel
theorem dX0_takeNext_34 : decode cX0_takeNext 34 = .ok (.iload_n 2, 1) := by decide +kernel
theorem dX0_takeNext_35 : decode cX0_takeNext 35 = .ok (.aload_n 0, 1) := by decide +kernel
theorem dX0_takeNext_36 : decode cX0_takeNext 36 = .ok (.getfield 18, 3) := by decide +kernel
theorem dX0_takeNext_39 : decode cX0_takeNext 39 = .ok (.iload_n 2, 1) := by decide +kernel
theorem dX0_takeNext_40 : decode cX0_takeNext 40 = .ok (.iaload, 1) := by decide +kernel
theorem dX0_takeNext_41 : decode cX0_takeNext 41 = .ok (.iastore, 1) := by decide +kernel
theorem dX0_takeNext_42 : decode cX0_takeNext 42 = .ok (.iconst 1, 1) := by decide +kernel
theorem dX0_takeNext_43 : decode cX0_takeNext 43 = .ok (.istore_n 1, 1) := by decide +kernel
theorem dX0_takeNext_44 : decode cX0_takeNext 44 = .ok (.iinc 2 1, 3) := by decide +kernel
theorem dX0_takeNext_47 : decode cX0_takeNext 47 = .ok (.goto (-43), 3) := by decide +kernel
theorem dX0_takeNext_50 : decode cX0_takeNext 50 = .ok (.iload_n 1, 1) := by decide +kernel
theorem dX0_takeNext_51 : decode cX0_takeNext 51 = .ok (.ireturn, 1) := by decide +kernel
theorem dX0_keepAnswer_0 : decode cX0_keepAnswer 0 = .ok (.iconst 0, 1) := by decide +kernel
theorem dX0_keepAnswer_1 : decode cX0_keepAnswer 1 = .ok (.istore_n 1, 1) := by decide +kernel
theorem dX0_keepAnswer_2 : decode cX0_keepAnswer 2 = .ok (.iconst 0, 1) := by decide +kernel
theorem dX0_keepAnswer_3 : decode cX0_keepAnswer 3 = .ok (.istore_n 2, 1) := by decide +kernel
theorem dX0_keepAnswer_4 : decode cX0_keepAnswer 4 = .ok (.iload_n 2, 1) := by decide +kernel
theorem dX0_keepAnswer_5 : decode cX0_keepAnswer 5 = .ok (.bipush 16, 2) := by decide +kernel
theorem dX0_keepAnswer_7 : decode cX0_keepAnswer 7 = .ok (.if_icmp .ge 59, 3) := by decide +kernel
theorem dX0_keepAnswer_10 : decode cX0_keepAnswer 10 = .ok (.aload_n 0, 1) := by decide +kernel
theorem dX0_keepAnswer_11 : decode cX0_keepAnswer 11 = .ok (.getfield 9, 3) := by decide +kernel
theorem dX0_keepAnswer_14 : decode cX0_keepAnswer 14 = .ok (.iload_n 2, 1) := by decide +kernel
theorem dX0_keepAnswer_15 : decode cX0_keepAnswer 15 = .ok (.iconst (-1), 1) := by decide +kernel
theorem dX0_keepAnswer_16 : decode cX0_keepAnswer 16 = .ok (.iastore, 1) := by decide +kernel
theorem dX0_keepAnswer_17 : decode cX0_keepAnswer 17 = .ok (.iload_n 2, 1) := by decide +kernel
theorem dX0_keepAnswer_18 : decode cX0_keepAnswer 18 = .ok (.aload_n 0, 1) := by decide +kernel
theorem dX0_keepAnswer_19 : decode cX0_keepAnswer 19 = .ok (.getfield 27, 3) := by decide +kernel
theorem dX0_keepAnswer_22 : decode cX0_keepAnswer 22 = .ok (.getfield 32, 3) := by decide +kernel
theorem dX0_keepAnswer_25 : decode cX0_keepAnswer 25 = .ok (.if_icmp .ge 35, 3) := by decide +kernel
theorem dX0_keepAnswer_28 : decode cX0_keepAnswer 28 = .ok (.aload_n 0, 1) := by decide +kernel
theorem dX0_keepAnswer_29 : decode cX0_keepAnswer 29 = .ok (.getfield 28, 3) := by decide +kernel
theorem dX0_keepAnswer_32 : decode cX0_keepAnswer 32 = .ok (.iload_n 2, 1) := by decide +kernel
theorem dX0_keepAnswer_33 : decode cX0_keepAnswer 33 = .ok (.invokevirtual 57, 3) := by decide +kernel
theorem dX0_keepAnswer_36 : decode cX0_keepAnswer 36 = .ok (.ifCond .eq 24, 3) := by decide +kernel
theorem dX0_keepAnswer_39 : decode cX0_keepAnswer 39 = .ok (.aload_n 0, 1) := by decide +kernel
theorem dX0_keepAnswer_40 : decode cX0_keepAnswer 40 = .ok (.getfield 9, 3) := by decide +kernel
theorem dX0_keepAnswer_43 : decode cX0_keepAnswer 43 = .ok (.iload_n 2, 1) := by decide +kernel
theorem dX0_keepAnswer_44 : decode cX0_keepAnswer 44 = .ok (.aload_n 0, 1) := by decide +kernel
theorem dX0_keepAnswer_45 : decode cX0_keepAnswer 45 = .ok (.getfield 15, 3) := by decide +kernel
theorem dX0_keepAnswer_48 : decode cX0_keepAnswer 48 = .ok (.iload_n 2, 1) := by decide +kernel
theorem dX0_keepAnswer_49 : decode cX0_keepAnswer 49 = .ok (.iaload, 1) := by decide +kernel
theorem dX0_keepAnswer_50 : decode cX0_keepAnswer 50 = .ok (.iastore, 1) := by decide +kernel
theorem dX0_keepAnswer_51 : decode cX0_keepAnswer 51 = .ok (.iload_n 1, 1) := by decide +kernel
theorem dX0_keepAnswer_52 : decode cX0_keepAnswer 52 = .ok (.aload_n 0, 1) := by decide +kernel
theorem dX0_keepAnswer_53 : decode cX0_keepAnswer 53 = .ok (.getfield 15, 3) := by decide +kernel
theorem dX0_keepAnswer_56 : decode cX0_keepAnswer 56 = .ok (.iload_n 2, 1) := by decide +kernel
theorem dX0_keepAnswer_57 : decode cX0_keepAnswer 57 = .ok (.iaload, 1) := by decide +kernel
theorem dX0_keepAnswer_58 : decode cX0_keepAnswer 58 = .ok (.iadd, 1) := by decide +kernel
theorem dX0_keepAnswer_59 : decode cX0_keepAnswer 59 = .ok (.istore_n 1, 1) := by decide +kernel
theorem dX0_keepAnswer_60 : decode cX0_keepAnswer 60 = .ok (.iinc 2 1, 3) := by decide +kernel
theorem dX0_keepAnswer_63 : decode cX0_keepAnswer 63 = .ok (.goto (-59), 3) := by decide +kernel
theorem dX0_keepAnswer_66 : decode cX0_keepAnswer 66 = .ok (.iload_n 1, 1) := by decide +kernel
theorem dX0_keepAnswer_67 : decode cX0_keepAnswer 67 = .ok (.ireturn, 1) := by decide +kernel
theorem dX1_init_0 : decode cX1_init 0 = .ok (.aload_n 0, 1) := by decide +kernel
theorem dX1_init_1 : decode cX1_init 1 = .ok (.invokespecial 3, 3) := by decide +kernel
theorem dX1_init_4 : decode cX1_init 4 = .ok (.aload_n 0, 1) := by decide +kernel
theorem dX1_init_5 : decode cX1_init 5 = .ok (.iconst (-1), 1) := by decide +kernel
theorem dX1_init_6 : decode cX1_init 6 = .ok (.putfield 9, 3) := by decide +kernel
theorem dX1_init_9 : decode cX1_init 9 = .ok (.aload_n 0, 1) := by decide +kernel
theorem dX1_init_10 : decode cX1_init 10 = .ok (.bipush 6, 2) := by decide +kernel
theorem dX1_init_12 : decode cX1_init 12 = .ok (.newarray .int, 2) := by decide +kernel
theorem dX1_init_14 : decode cX1_init 14 = .ok (.putfield 15, 3) := by decide +kernel
theorem dX1_init_17 : decode cX1_init 17 = .ok (.aload_n 0, 1) := by decide +kernel
theorem dX1_init_18 : decode cX1_init 18 = .ok (.iconst 0, 1) := by decide +kernel
theorem dX1_init_19 : decode cX1_init 19 = .ok (.putfield 19, 3) := by decide +kernel
theorem dX1_init_22 : decode cX1_init 22 = .ok (.aload_n 0, 1) := by decide +kernel
theorem dX1_init_23 : decode cX1_init 23 = .ok (.aload_n 1, 1) := by decide +kernel
theorem dX1_init_24 : decode cX1_init 24 = .ok (.getfield 22, 3) := by decide +kernel
theorem dX1_init_27 : decode cX1_init 27 = .ok (.putfield 28, 3) := by decide +kernel
theorem dX1_init_30 : decode cX1_init 30 = .ok (.aload_n 0, 1) := by decide +kernel
theorem dX1_init_31 : decode cX1_init 31 = .ok (.aload_n 1, 1) := by decide +kernel
theorem dX1_init_32 : decode cX1_init 32 = .ok (.putfield 29, 3) := by decide +kernel
theorem dX1_init_35 : decode cX1_init 35 = .ok (.aload_n 0, 1) := by decide +kernel
theorem dX1_init_36 : decode cX1_init 36 = .ok (.aload_n 2, 1) := by decide +kernel
theorem dX1_init_37 : decode cX1_init 37 = .ok (.putfield 33, 3) := by decide +kernel
theorem dX1_init_40 : decode cX1_init 40 = .ok (.return_, 1) := by decide +kernel
theorem dX1_cheapestSet_0 : decode cX1_cheapestSet 0 = .ok (.aload_n 0, 1) := by decide +kernel
theorem dX1_cheapestSet_1 : decode cX1_cheapestSet 1 = .ok (.invokevirtual 36, 3) := by decide +kernel
theorem dX1_cheapestSet_4 : decode cX1_cheapestSet 4 = .ok (.iconst (-1), 1) := by decide +kernel
theorem dX1_cheapestSet_5 : decode cX1_cheapestSet 5 = .ok (.istore_n 1, 1) := by decide +kernel
theorem dX1_cheapestSet_6 : decode cX1_cheapestSet 6 = .ok (.iconst 0, 1) := by decide +kernel
theorem dX1_cheapestSet_7 : decode cX1_cheapestSet 7 = .ok (.istore_n 2, 1) := by decide +kernel
theorem dX1_cheapestSet_8 : decode cX1_cheapestSet 8 = .ok (.iconst 0, 1) := by decide +kernel
theorem dX1_cheapestSet_9 : decode cX1_cheapestSet 9 = .ok (.istore_n 3, 1) := by decide +kernel
theorem dX1_cheapestSet_10 : decode cX1_cheapestSet 10 = .ok (.iload_n 3, 1) := by decide +kernel
theorem dX1_cheapestSet_11 : decode cX1_cheapestSet 11 = .ok (.iconst 1, 1) := by decide +kernel
theorem dX1_cheapestSet_12 : decode cX1_cheapestSet 12 = .ok (.aload_n 0, 1) := by decide +kernel
theorem dX1_cheapestSet_13 : decode cX1_cheapestSet 13 = .ok (.getfield 19, 3) := by decide +kernel
theorem dX1_cheapestSet_16 : decode cX1_cheapestSet 16 = .ok (.ishl, 1) := by decide +kernel
theorem dX1_cheapestSet_17 : decode cX1_cheapestSet 17 = .ok (.if_icmp .ge 44, 3) := by decide +kernel
theorem dX1_cheapestSet_20 : decode cX1_cheapestSet 20 = .ok (.aload_n 0, 1) := by decide +kernel
theorem dX1_cheapestSet_21 : decode cX1_cheapestSet 21 = .ok (.iload_n 3, 1) := by decide +kernel
theorem dX1_cheapestSet_22 : decode cX1_cheapestSet 22 = .ok (.invokevirtual 39, 3) := by decide +kernel
theorem dX1_cheapestSet_25 : decode cX1_cheapestSet 25 = .ok (.istore 4, 2) := by decide +kernel
theorem dX1_cheapestSet_27 : decode cX1_cheapestSet 27 = .ok (.iload_n 1, 1) := by decide +kernel
theorem dX1_cheapestSet_28 : decode cX1_cheapestSet 28 = .ok (.iconst (-1), 1) := by decide +kernel
theorem dX1_cheapestSet_29 : decode cX1_cheapestSet 29 = .ok (.if_icmp .eq 9, 3) := by decide +kernel
theorem dX1_cheapestSet_32 : decode cX1_cheapestSet 32 = .ok (.iload 4, 2) := by decide +kernel
theorem dX1_cheapestSet_34 : decode cX1_cheapestSet 34 = .ok (.iload_n 2, 1) := by decide +kernel
theorem dX1_cheapestSet_35 : decode cX1_cheapestSet 35 = .ok (.if_icmp .ge 20, 3) := by decide +kernel
theorem dX1_cheapestSet_38 : decode cX1_cheapestSet 38 = .ok (.aload_n 0, 1) := by decide +kernel
theorem dX1_cheapestSet_39 : decode cX1_cheapestSet 39 = .ok (.iload_n 3, 1) := by decide +kernel
theorem dX1_cheapestSet_40 : decode cX1_cheapestSet 40 = .ok (.invokevirtual 43, 3) := by decide +kernel
theorem dX1_cheapestSet_43 : decode cX1_cheapestSet 43 = .ok (.ifCond .eq 12, 3) := by decide +kernel
theorem dX1_cheapestSet_46 : decode cX1_cheapestSet 46 = .ok (.aload_n 0, 1) := by decide +kernel
theorem dX1_cheapestSet_47 : decode cX1_cheapestSet 47 = .ok (.iload_n 3, 1) := by decide +kernel
theorem dX1_cheapestSet_48 : decode cX1_cheapestSet 48 = .ok (.invokevirtual 47, 3) := by decide +kernel
theorem dX1_cheapestSet_51 : decode cX1_cheapestSet 51 = .ok (.istore_n 1, 1) := by decide +kernel
theorem dX1_cheapestSet_52 : decode cX1_cheapestSet 52 = .ok (.iload 4, 2) := by decide +kernel
theorem dX1_cheapestSet_54 : decode cX1_cheapestSet 54 = .ok (.istore_n 2, 1) := by decide +kernel
theorem dX1_cheapestSet_55 : decode cX1_cheapestSet 55 = .ok (.iinc 3 1, 3) := by decide +kernel
theorem dX1_cheapestSet_58 : decode cX1_cheapestSet 58 = .ok (.goto (-48), 3) := by decide +kernel
theorem dX1_cheapestSet_61 : decode cX1_cheapestSet 61 = .ok (.iload_n 1, 1) := by decide +kernel
theorem dX1_cheapestSet_62 : decode cX1_cheapestSet 62 = .ok (.iconst (-1), 1) := by decide +kernel
theorem dX1_cheapestSet_63 : decode cX1_cheapestSet 63 = .ok (.if_icmp .eq 8, 3) := by decide +kernel
theorem dX1_cheapestSet_66 : decode cX1_cheapestSet 66 = .ok (.aload_n 0, 1) := by decide +kernel
theorem dX1_cheapestSet_67 : decode cX1_cheapestSet 67 = .ok (.iload_n 2, 1) := by decide +kernel
theorem dX1_cheapestSet_68 : decode cX1_cheapestSet 68 = .ok (.putfield 9, 3) := by decide +kernel
theorem dX1_cheapestSet_71 : decode cX1_cheapestSet 71 = .ok (.iload_n 1, 1) := by decide +kernel
theorem dX1_cheapestSet_72 : decode cX1_cheapestSet 72 = .ok (.ireturn, 1) := by decide +kernel
theorem dX1_gatherAble_0 : decode cX1_gatherAble 0 = .ok (.aload_n 0, 1) := by decide +kernel
theorem dX1_gatherAble_1 : decode cX1_gatherAble 1 = .ok (.iconst 0, 1) := by decide +kernel
theorem dX1_gatherAble_2 : decode cX1_gatherAble 2 = .ok (.putfield 19, 3) := by decide +kernel
theorem dX1_gatherAble_5 : decode cX1_gatherAble 5 = .ok (.iconst 0, 1) := by decide +kernel
theorem dX1_gatherAble_6 : decode cX1_gatherAble 6 = .ok (.istore_n 1, 1) := by decide +kernel
theorem dX1_gatherAble_7 : decode cX1_gatherAble 7 = .ok (.iload_n 1, 1) := by decide +kernel
theorem dX1_gatherAble_8 : decode cX1_gatherAble 8 = .ok (.aload_n 0, 1) := by decide +kernel
theorem dX1_gatherAble_9 : decode cX1_gatherAble 9 = .ok (.getfield 28, 3) := by decide +kernel
theorem dX1_gatherAble_12 : decode cX1_gatherAble 12 = .ok (.getfield 50, 3) := by decide +kernel
theorem dX1_gatherAble_15 : decode cX1_gatherAble 15 = .ok (.if_icmp .ge 63, 3) := by decide +kernel
theorem dX1_gatherAble_18 : decode cX1_gatherAble 18 = .ok (.aload_n 0, 1) := by decide +kernel
theorem dX1_gatherAble_19 : decode cX1_gatherAble 19 = .ok (.getfield 19, 3) := by decide +kernel
theorem dX1_gatherAble_22 : decode cX1_gatherAble 22 = .ok (.bipush 6, 2) := by decide +kernel
theorem dX1_gatherAble_24 : decode cX1_gatherAble 24 = .ok (.if_icmp .ge 54, 3) := by decide +kernel
theorem dX1_gatherAble_27 : decode cX1_gatherAble 27 = .ok (.aload_n 0, 1) := by decide +kernel
theorem dX1_gatherAble_28 : decode cX1_gatherAble 28 = .ok (.getfield 29, 3) := by decide +kernel
theorem dX1_gatherAble_31 : decode cX1_gatherAble 31 = .ok (.iload_n 1, 1) := by decide +kernel
theorem dX1_gatherAble_32 : decode cX1_gatherAble 32 = .ok (.invokevirtual 55, 3) := by decide +kernel
theorem dX1_gatherAble_35 : decode cX1_gatherAble 35 = .ok (.ifCond .eq 37, 3) := by decide +kernel
theorem dX1_gatherAble_38 : decode cX1_gatherAble 38 = .ok (.aload_n 0, 1) := by decide +kernel
theorem dX1_gatherAble_39 : decode cX1_gatherAble 39 = .ok (.getfield 28, 3) := by decide +kernel
theorem dX1_gatherAble_42 : decode cX1_gatherAble 42 = .ok (.iload_n 1, 1) := by decide +kernel
theorem dX1_gatherAble_43 : decode cX1_gatherAble 43 = .ok (.bipush 13, 2) := by decide +kernel
theorem dX1_gatherAble_45 : decode cX1_gatherAble 45 = .ok (.invokevirtual 58, 3) := by decide +kernel
theorem dX1_gatherAble_48 : decode cX1_gatherAble 48 = .ok (.iconst (-1), 1) := by decide +kernel
theorem dX1_gatherAble_49 : decode cX1_gatherAble 49 = .ok (.if_icmp .eq 23, 3) := by decide +kernel
theorem dX1_gatherAble_52 : decode cX1_gatherAble 52 = .ok (.aload_n 0, 1) := by decide +kernel
theorem dX1_gatherAble_53 : decode cX1_gatherAble 53 = .ok (.getfield 15, 3) := by decide +kernel
theorem dX1_gatherAble_56 : decode cX1_gatherAble 56 = .ok (.aload_n 0, 1) := by decide +kernel
theorem dX1_gatherAble_57 : decode cX1_gatherAble 57 = .ok (.getfield 19, 3) := by decide +kernel
theorem dX1_gatherAble_60 : decode cX1_gatherAble 60 = .ok (.iload_n 1, 1) := by decide +kernel
theorem dX1_gatherAble_61 : decode cX1_gatherAble 61 = .ok (.iastore, 1) := by decide +kernel
theorem dX1_gatherAble_62 : decode cX1_gatherAble 62 = .ok (.aload_n 0, 1) := by decide +kernel
theorem dX1_gatherAble_63 : decode cX1_gatherAble 63 = .ok (.dup, 1) := by decide +kernel
theorem dX1_gatherAble_64 : decode cX1_gatherAble 64 = .ok (.getfield 19, 3) := by decide +kernel
theorem dX1_gatherAble_67 : decode cX1_gatherAble 67 = .ok (.iconst 1, 1) := by decide +kernel
theorem dX1_gatherAble_68 : decode cX1_gatherAble 68 = .ok (.iadd, 1) := by decide +kernel
theorem dX1_gatherAble_69 : decode cX1_gatherAble 69 = .ok (.putfield 19, 3) := by decide +kernel
theorem dX1_gatherAble_72 : decode cX1_gatherAble 72 = .ok (.iinc 1 1, 3) := by decide +kernel
theorem dX1_gatherAble_75 : decode cX1_gatherAble 75 = .ok (.goto (-68), 3) := by decide +kernel
theorem dX1_gatherAble_78 : decode cX1_gatherAble 78 = .ok (.return_, 1) := by decide +kernel
theorem dX1_costOf_0 : decode cX1_costOf 0 = .ok (.iconst 0, 1) := by decide +kernel
theorem dX1_costOf_1 : decode cX1_costOf 1 = .ok (.istore_n 2, 1) := by decide +kernel
theorem dX1_costOf_2 : decode cX1_costOf 2 = .ok (.iconst 0, 1) := by decide +kernel
theorem dX1_costOf_3 : decode cX1_costOf 3 = .ok (.istore_n 3, 1) := by decide +kernel
theorem dX1_costOf_4 : decode cX1_costOf 4 = .ok (.iload_n 3, 1) := by decide +kernel
theorem dX1_costOf_5 : decode cX1_costOf 5 = .ok (.aload_n 0, 1) := by decide +kernel
theorem dX1_costOf_6 : decode cX1_costOf 6 = .ok (.getfield 19, 3) := by decide +kernel
theorem dX1_costOf_9 : decode cX1_costOf 9 = .ok (.if_icmp .ge 35, 3) := by decide +kernel
theorem dX1_costOf_12 : decode cX1_costOf 12 = .ok (.iload_n 1, 1) := by decide +kernel
theorem dX1_costOf_13 : decode cX1_costOf 13 = .ok (.iload_n 3, 1) := by decide +kernel
theorem dX1_costOf_14 : decode cX1_costOf 14 = .ok (.ishr, 1) := by decide +kernel
theorem dX1_costOf_15 : decode cX1_costOf 15 = .ok (.iconst 1, 1) := by decide +kernel
theorem dX1_costOf_16 : decode cX1_costOf 16 = .ok (.iand, 1) := by decide +kernel
theorem dX1_costOf_17 : decode cX1_costOf 17 = .ok (.ifCond .eq 21, 3) := by decide +kernel
theorem dX1_costOf_20 : decode cX1_costOf 20 = .ok (.iload_n 2, 1) := by decide +kernel
theorem dX1_costOf_21 : decode cX1_costOf 21 = .ok (.aload_n 0, 1) := by decide +kernel
theorem dX1_costOf_22 : decode cX1_costOf 22 = .ok (.getfield 28, 3) := by decide +kernel
theorem dX1_costOf_25 : decode cX1_costOf 25 = .ok (.aload_n 0, 1) := by decide +kernel
theorem dX1_costOf_26 : decode cX1_costOf 26 = .ok (.getfield 15, 3) := by decide +kernel
theorem dX1_costOf_29 : decode cX1_costOf 29 = .ok (.iload_n 3, 1) := by decide +kernel
theorem dX1_costOf_30 : decode cX1_costOf 30 = .ok (.iaload, 1) := by decide +kernel
theorem dX1_costOf_31 : decode cX1_costOf 31 = .ok (.bipush 13, 2) := by decide +kernel
theorem dX1_costOf_33 : decode cX1_costOf 33 = .ok (.invokevirtual 58, 3) := by decide +kernel
theorem dX1_costOf_36 : decode cX1_costOf 36 = .ok (.iadd, 1) := by decide +kernel
theorem dX1_costOf_37 : decode cX1_costOf 37 = .ok (.istore_n 2, 1) := by decide +kernel
theorem dX1_costOf_38 : decode cX1_costOf 38 = .ok (.iinc 3 1, 3) := by decide +kernel
theorem dX1_costOf_41 : decode cX1_costOf 41 = .ok (.goto (-37), 3) := by decide +kernel
theorem dX1_costOf_44 : decode cX1_costOf 44 = .ok (.iload_n 2, 1) := by decide +kernel
theorem dX1_costOf_45 : decode cX1_costOf 45 = .ok (.ireturn, 1) := by decide +kernel
theorem dX1_thingsOf_0 : decode cX1_thingsOf 0 = .ok (.iconst 0, 1) := by decide +kernel
theorem dX1_thingsOf_1 : decode cX1_thingsOf 1 = .ok (.istore_n 2, 1) := by decide +kernel
theorem dX1_thingsOf_2 : decode cX1_thingsOf 2 = .ok (.iconst 0, 1) := by decide +kernel
theorem dX1_thingsOf_3 : decode cX1_thingsOf 3 = .ok (.istore_n 3, 1) := by decide +kernel
theorem dX1_thingsOf_4 : decode cX1_thingsOf 4 = .ok (.iload_n 3, 1) := by decide +kernel
theorem dX1_thingsOf_5 : decode cX1_thingsOf 5 = .ok (.aload_n 0, 1) := by decide +kernel
theorem dX1_thingsOf_6 : decode cX1_thingsOf 6 = .ok (.getfield 19, 3) := by decide +kernel
theorem dX1_thingsOf_9 : decode cX1_thingsOf 9 = .ok (.if_icmp .ge 28, 3) := by decide +kernel
theorem dX1_thingsOf_12 : decode cX1_thingsOf 12 = .ok (.iload_n 1, 1) := by decide +kernel
theorem dX1_thingsOf_13 : decode cX1_thingsOf 13 = .ok (.iload_n 3, 1) := by decide +kernel
theorem dX1_thingsOf_14 : decode cX1_thingsOf 14 = .ok (.ishr, 1) := by decide +kernel
theorem dX1_thingsOf_15 : decode cX1_thingsOf 15 = .ok (.iconst 1, 1) := by decide +kernel
theorem dX1_thingsOf_16 : decode cX1_thingsOf 16 = .ok (.iand, 1) := by decide +kernel
theorem dX1_thingsOf_17 : decode cX1_thingsOf 17 = .ok (.ifCond .eq 14, 3) := by decide +kernel
theorem dX1_thingsOf_20 : decode cX1_thingsOf 20 = .ok (.iload_n 2, 1) := by decide +kernel
theorem dX1_thingsOf_21 : decode cX1_thingsOf 21 = .ok (.iconst 1, 1) := by decide +kernel
theorem dX1_thingsOf_22 : decode cX1_thingsOf 22 = .ok (.aload_n 0, 1) := by decide +kernel
theorem dX1_thingsOf_23 : decode cX1_thingsOf 23 = .ok (.getfield 15, 3) := by decide +kernel
theorem dX1_thingsOf_26 : decode cX1_thingsOf 26 = .ok (.iload_n 3, 1) := by decide +kernel
theorem dX1_thingsOf_27 : decode cX1_thingsOf 27 = .ok (.iaload, 1) := by decide +kernel
theorem dX1_thingsOf_28 : decode cX1_thingsOf 28 = .ok (.ishl, 1) := by decide +kernel
theorem dX1_thingsOf_29 : decode cX1_thingsOf 29 = .ok (.ior, 1) := by decide +kernel
theorem dX1_thingsOf_30 : decode cX1_thingsOf 30 = .ok (.istore_n 2, 1) := by decide +kernel
theorem dX1_thingsOf_31 : decode cX1_thingsOf 31 = .ok (.iinc 3 1, 3) := by decide +kernel
theorem dX1_thingsOf_34 : decode cX1_thingsOf 34 = .ok (.goto (-30), 3) := by decide +kernel
theorem dX1_thingsOf_37 : decode cX1_thingsOf 37 = .ok (.iload_n 2, 1) := by decide +kernel
theorem dX1_thingsOf_38 : decode cX1_thingsOf 38 = .ok (.ireturn, 1) := by decide +kernel
theorem dX1_isRightWith_0 : decode cX1_isRightWith 0 = .ok (.aload_n 0, 1) := by decide +kernel
theorem dX1_isRightWith_1 : decode cX1_isRightWith 1 = .ok (.getfield 33, 3) := by decide +kernel
theorem dX1_isRightWith_4 : decode cX1_isRightWith 4 = .ok (.invokevirtual 62, 3) := by decide +kernel
theorem dX1_isRightWith_7 : decode cX1_isRightWith 7 = .ok (.iconst 0, 1) := by decide +kernel
theorem dX1_isRightWith_8 : decode cX1_isRightWith 8 = .ok (.istore_n 2, 1) := by decide +kernel
theorem dX1_isRightWith_9 : decode cX1_isRightWith 9 = .ok (.iload_n 2, 1) := by decide +kernel
theorem dX1_isRightWith_10 : decode cX1_isRightWith 10 = .ok (.aload_n 0, 1) := by decide +kernel
theorem dX1_isRightWith_11 : decode cX1_isRightWith 11 = .ok (.getfield 19, 3) := by decide +kernel
theorem dX1_isRightWith_14 : decode cX1_isRightWith 14 = .ok (.if_icmp .ge 52, 3) := by decide +kernel
theorem dX1_isRightWith_17 : decode cX1_isRightWith 17 = .ok (.iload_n 1, 1) := by decide +kernel
theorem dX1_isRightWith_18 : decode cX1_isRightWith 18 = .ok (.iload_n 2, 1) := by decide +kernel
theorem dX1_isRightWith_19 : decode cX1_isRightWith 19 = .ok (.ishr, 1) := by decide +kernel
theorem dX1_isRightWith_20 : decode cX1_isRightWith 20 = .ok (.iconst 1, 1) := by decide +kernel
theorem dX1_isRightWith_21 : decode cX1_isRightWith 21 = .ok (.iand, 1) := by decide +kernel
theorem dX1_isRightWith_22 : decode cX1_isRightWith 22 = .ok (.ifCond .eq 38, 3) := by decide +kernel
theorem dX1_isRightWith_25 : decode cX1_isRightWith 25 = .ok (.aload_n 0, 1) := by decide +kernel
theorem dX1_isRightWith_26 : decode cX1_isRightWith 26 = .ok (.getfield 33, 3) := by decide +kernel
theorem dX1_isRightWith_29 : decode cX1_isRightWith 29 = .ok (.getfield 65, 3) := by decide +kernel
theorem dX1_isRightWith_32 : decode cX1_isRightWith 32 = .ok (.aload_n 0, 1) := by decide +kernel
theorem dX1_isRightWith_33 : decode cX1_isRightWith 33 = .ok (.getfield 15, 3) := by decide +kernel
theorem dX1_isRightWith_36 : decode cX1_isRightWith 36 = .ok (.iload_n 2, 1) := by decide +kernel
theorem dX1_isRightWith_37 : decode cX1_isRightWith 37 = .ok (.iaload, 1) := by decide +kernel
theorem dX1_isRightWith_38 : decode cX1_isRightWith 38 = .ok (.bipush 99, 2) := by decide +kernel
theorem dX1_isRightWith_40 : decode cX1_isRightWith 40 = .ok (.iconst 2, 1) := by decide +kernel
theorem dX1_isRightWith_41 : decode cX1_isRightWith 41 = .ok (.aload_n 0, 1) := by decide +kernel
theorem dX1_isRightWith_42 : decode cX1_isRightWith 42 = .ok (.getfield 33, 3) := by decide +kernel
theorem dX1_isRightWith_45 : decode cX1_isRightWith 45 = .ok (.getfield 65, 3) := by decide +kernel
theorem dX1_isRightWith_48 : decode cX1_isRightWith 48 = .ok (.aload_n 0, 1) := by decide +kernel
theorem dX1_isRightWith_49 : decode cX1_isRightWith 49 = .ok (.getfield 15, 3) := by decide +kernel
theorem dX1_isRightWith_52 : decode cX1_isRightWith 52 = .ok (.iload_n 2, 1) := by decide +kernel
theorem dX1_isRightWith_53 : decode cX1_isRightWith 53 = .ok (.iaload, 1) := by decide +kernel
theorem dX1_isRightWith_54 : decode cX1_isRightWith 54 = .ok (.iaload, 1) := by decide +kernel
theorem dX1_isRightWith_55 : decode cX1_isRightWith 55 = .ok (.imul, 1) := by decide +kernel
theorem dX1_isRightWith_56 : decode cX1_isRightWith 56 = .ok (.invokestatic 68, 3) := by decide +kernel
theorem dX1_isRightWith_59 : decode cX1_isRightWith 59 = .ok (.iastore, 1) := by decide +kernel
theorem dX1_isRightWith_60 : decode cX1_isRightWith 60 = .ok (.iinc 2 1, 3) := by decide +kernel
theorem dX1_isRightWith_63 : decode cX1_isRightWith 63 = .ok (.goto (-54), 3) := by decide +kernel
theorem dX1_isRightWith_66 : decode cX1_isRightWith 66 = .ok (.iconst 0, 1) := by decide +kernel
theorem dX1_isRightWith_67 : decode cX1_isRightWith 67 = .ok (.istore_n 2, 1) := by decide +kernel
theorem dX1_isRightWith_68 : decode cX1_isRightWith 68 = .ok (.iload_n 2, 1) := by decide +kernel
theorem dX1_isRightWith_69 : decode cX1_isRightWith 69 = .ok (.aload_n 0, 1) := by decide +kernel
theorem dX1_isRightWith_70 : decode cX1_isRightWith 70 = .ok (.getfield 28, 3) := by decide +kernel
theorem dX1_isRightWith_73 : decode cX1_isRightWith 73 = .ok (.getfield 50, 3) := by decide +kernel
theorem dX1_isRightWith_76 : decode cX1_isRightWith 76 = .ok (.if_icmp .ge 46, 3) := by decide +kernel
theorem dX1_isRightWith_79 : decode cX1_isRightWith 79 = .ok (.aload_n 0, 1) := by decide +kernel
theorem dX1_isRightWith_80 : decode cX1_isRightWith 80 = .ok (.getfield 29, 3) := by decide +kernel
theorem dX1_isRightWith_83 : decode cX1_isRightWith 83 = .ok (.iload_n 2, 1) := by decide +kernel
theorem dX1_isRightWith_84 : decode cX1_isRightWith 84 = .ok (.invokevirtual 55, 3) := by decide +kernel
theorem dX1_isRightWith_87 : decode cX1_isRightWith 87 = .ok (.ifCond .eq 29, 3) := by decide +kernel
theorem dX1_isRightWith_90 : decode cX1_isRightWith 90 = .ok (.aload_n 0, 1) := by decide +kernel
theorem dX1_isRightWith_91 : decode cX1_isRightWith 91 = .ok (.getfield 33, 3) := by decide +kernel
theorem dX1_isRightWith_94 : decode cX1_isRightWith 94 = .ok (.iload_n 2, 1) := by decide +kernel
theorem dX1_isRightWith_95 : decode cX1_isRightWith 95 = .ok (.aload_n 0, 1) := by decide +kernel
theorem dX1_isRightWith_96 : decode cX1_isRightWith 96 = .ok (.getfield 29, 3) := by decide +kernel
theorem dX1_isRightWith_99 : decode cX1_isRightWith 99 = .ok (.getfield 73, 3) := by decide +kernel
theorem dX1_isRightWith_102 : decode cX1_isRightWith 102 = .ok (.iload_n 2, 1) := by decide +kernel
theorem dX1_isRightWith_103 : decode cX1_isRightWith 103 = .ok (.iaload, 1) := by decide +kernel
theorem dX1_isRightWith_104 : decode cX1_isRightWith 104 = .ok (.aload_n 0, 1) := by decide +kernel
theorem dX1_isRightWith_105 : decode cX1_isRightWith 105 = .ok (.getfield 29, 3) := by decide +kernel
theorem dX1_isRightWith_108 : decode cX1_isRightWith 108 = .ok (.getfield 76, 3) := by decide +kernel
theorem dX1_isRightWith_111 : decode cX1_isRightWith 111 = .ok (.iload_n 2, 1) := by decide +kernel
theorem dX1_isRightWith_112 : decode cX1_isRightWith 112 = .ok (.iaload, 1) := by decide +kernel
theorem dX1_isRightWith_113 : decode cX1_isRightWith 113 = .ok (.invokevirtual 79, 3) := by decide +kernel
theorem dX1_isRightWith_116 : decode cX1_isRightWith 116 = .ok (.iinc 2 1, 3) := by decide +kernel
theorem dX1_isRightWith_119 : decode cX1_isRightWith 119 = .ok (.goto (-51), 3) := by decide +kernel
theorem dX1_isRightWith_122 : decode cX1_isRightWith 122 = .ok (.aload_n 0, 1) := by decide +kernel
theorem dX1_isRightWith_123 : decode cX1_isRightWith 123 = .ok (.getfield 33, 3) := by decide +kernel
theorem dX1_isRightWith_126 : decode cX1_isRightWith 126 = .ok (.invokevirtual 83, 3) := by decide +kernel
theorem dX1_isRightWith_129 : decode cX1_isRightWith 129 = .ok (.iconst (-1), 1) := by decide +kernel
theorem dX1_isRightWith_130 : decode cX1_isRightWith 130 = .ok (.if_icmp .ne 7, 3) := by decide +kernel
theorem dX1_isRightWith_133 : decode cX1_isRightWith 133 = .ok (.iconst 1, 1) := by decide +kernel
theorem dX1_isRightWith_134 : decode cX1_isRightWith 134 = .ok (.goto 4, 3) := by decide +kernel
theorem dX1_isRightWith_137 : decode cX1_isRightWith 137 = .ok (.iconst 0, 1) := by decide +kernel
theorem dX1_isRightWith_138 : decode cX1_isRightWith 138 = .ok (.ireturn, 1) := by decide +kernel
theorem dX2_init_0 : decode cX2_init 0 = .ok (.aload_n 0, 1) := by decide +kernel
theorem dX2_init_1 : decode cX2_init 1 = .ok (.invokespecial 3, 3) := by decide +kernel
theorem dX2_init_4 : decode cX2_init 4 = .ok (.aload_n 0, 1) := by decide +kernel
theorem dX2_init_5 : decode cX2_init 5 = .ok (.bipush 7, 2) := by decide +kernel
theorem dX2_init_7 : decode cX2_init 7 = .ok (.newarray .int, 2) := by decide +kernel
theorem dX2_init_9 : decode cX2_init 9 = .ok (.putfield 9, 3) := by decide +kernel
theorem dX2_init_12 : decode cX2_init 12 = .ok (.aload_n 0, 1) := by decide +kernel
theorem dX2_init_13 : decode cX2_init 13 = .ok (.iconst 0, 1) := by decide +kernel
theorem dX2_init_14 : decode cX2_init 14 = .ok (.putfield 15, 3) := by decide +kernel
theorem dX2_init_17 : decode cX2_init 17 = .ok (.aload_n 0, 1) := by decide +kernel
theorem dX2_init_18 : decode cX2_init 18 = .ok (.bipush 7, 2) := by decide +kernel
theorem dX2_init_20 : decode cX2_init 20 = .ok (.newarray .int, 2) := by decide +kernel
theorem dX2_init_22 : decode cX2_init 22 = .ok (.putfield 19, 3) := by decide +kernel
theorem dX2_init_25 : decode cX2_init 25 = .ok (.aload_n 0, 1) := by decide +kernel
theorem dX2_init_26 : decode cX2_init 26 = .ok (.bipush 7, 2) := by decide +kernel
theorem dX2_init_28 : decode cX2_init 28 = .ok (.newarray .int, 2) := by decide +kernel
theorem dX2_init_30 : decode cX2_init 30 = .ok (.putfield 22, 3) := by decide +kernel
theorem dX2_init_33 : decode cX2_init 33 = .ok (.aload_n 0, 1) := by decide +kernel
theorem dX2_init_34 : decode cX2_init 34 = .ok (.bipush 12, 2) := by decide +kernel
theorem dX2_init_36 : decode cX2_init 36 = .ok (.newarray .int, 2) := by decide +kernel
theorem dX2_init_38 : decode cX2_init 38 = .ok (.putfield 25, 3) := by decide +kernel
theorem dX2_init_41 : decode cX2_init 41 = .ok (.aload_n 0, 1) := by decide +kernel
theorem dX2_init_42 : decode cX2_init 42 = .ok (.iconst 0, 1) := by decide +kernel
theorem dX2_init_43 : decode cX2_init 43 = .ok (.putfield 28, 3) := by decide +kernel
theorem dX2_init_46 : decode cX2_init 46 = .ok (.aload_n 0, 1) := by decide +kernel
theorem dX2_init_47 : decode cX2_init 47 = .ok (.iconst 0, 1) := by decide +kernel
theorem dX2_init_48 : decode cX2_init 48 = .ok (.putfield 31, 3) := by decide +kernel
theorem dX2_init_51 : decode cX2_init 51 = .ok (.aload_n 0, 1) := by decide +kernel
theorem dX2_init_52 : decode cX2_init 52 = .ok (.aload_n 1, 1) := by decide +kernel
theorem dX2_init_53 : decode cX2_init 53 = .ok (.putfield 34, 3) := by decide +kernel
theorem dX2_init_56 : decode cX2_init 56 = .ok (.return_, 1) := by decide +kernel
theorem dX2_arcOf_0 : decode cX2_arcOf 0 = .ok (.iconst 0, 1) := by decide +kernel
theorem dX2_arcOf_1 : decode cX2_arcOf 1 = .ok (.istore_n 3, 1) := by decide +kernel
theorem dX2_arcOf_2 : decode cX2_arcOf 2 = .ok (.iload_n 3, 1) := by decide +kernel
theorem dX2_arcOf_3 : decode cX2_arcOf 3 = .ok (.iload_n 2, 1) := by decide +kernel
theorem dX2_arcOf_4 : decode cX2_arcOf 4 = .ok (.if_icmp .ge 36, 3) := by decide +kernel
theorem dX2_arcOf_7 : decode cX2_arcOf 7 = .ok (.aload_n 0, 1) := by decide +kernel
theorem dX2_arcOf_8 : decode cX2_arcOf 8 = .ok (.getfield 25, 3) := by decide +kernel
theorem dX2_arcOf_11 : decode cX2_arcOf 11 = .ok (.iload_n 3, 1) := by decide +kernel
theorem dX2_arcOf_12 : decode cX2_arcOf 12 = .ok (.aload_n 0, 1) := by decide +kernel
theorem dX2_arcOf_13 : decode cX2_arcOf 13 = .ok (.aload_n 1, 1) := by decide +kernel
theorem dX2_arcOf_14 : decode cX2_arcOf 14 = .ok (.iload_n 3, 1) := by decide +kernel
theorem dX2_arcOf_15 : decode cX2_arcOf 15 = .ok (.aload_n 1, 1) := by decide +kernel
theorem dX2_arcOf_16 : decode cX2_arcOf 16 = .ok (.iload_n 3, 1) := by decide +kernel
theorem dX2_arcOf_17 : decode cX2_arcOf 17 = .ok (.iaload, 1) := by decide +kernel
theorem dX2_arcOf_18 : decode cX2_arcOf 18 = .ok (.invokevirtual 38, 3) := by decide +kernel
theorem dX2_arcOf_21 : decode cX2_arcOf 21 = .ok (.iastore, 1) := by decide +kernel
theorem dX2_arcOf_22 : decode cX2_arcOf 22 = .ok (.aload_n 0, 1) := by decide +kernel
theorem dX2_arcOf_23 : decode cX2_arcOf 23 = .ok (.getfield 25, 3) := by decide +kernel
theorem dX2_arcOf_26 : decode cX2_arcOf 26 = .ok (.iload_n 3, 1) := by decide +kernel
theorem dX2_arcOf_27 : decode cX2_arcOf 27 = .ok (.iaload, 1) := by decide +kernel
theorem dX2_arcOf_28 : decode cX2_arcOf 28 = .ok (.iconst (-1), 1) := by decide +kernel
theorem dX2_arcOf_29 : decode cX2_arcOf 29 = .ok (.if_icmp .ne 5, 3) := by decide +kernel
theorem dX2_arcOf_32 : decode cX2_arcOf 32 = .ok (.iconst (-1), 1) := by decide +kernel
theorem dX2_arcOf_33 : decode cX2_arcOf 33 = .ok (.ireturn, 1) := by decide +kernel
theorem dX2_arcOf_34 : decode cX2_arcOf 34 = .ok (.iinc 3 1, 3) := by decide +kernel
theorem dX2_arcOf_37 : decode cX2_arcOf 37 = .ok (.goto (-35), 3) := by decide +kernel
theorem dX2_arcOf_40 : decode cX2_arcOf 40 = .ok (.iload_n 2, 1) := by decide +kernel
theorem dX2_arcOf_41 : decode cX2_arcOf 41 = .ok (.ifCond .le 14, 3) := by decide +kernel
theorem dX2_arcOf_44 : decode cX2_arcOf 44 = .ok (.aload_n 0, 1) := by decide +kernel
theorem dX2_arcOf_45 : decode cX2_arcOf 45 = .ok (.getfield 25, 3) := by decide +kernel
theorem dX2_arcOf_48 : decode cX2_arcOf 48 = .ok (.iload_n 2, 1) := by decide +kernel
theorem dX2_arcOf_49 : decode cX2_arcOf 49 = .ok (.iconst 1, 1) := by decide +kernel
theorem dX2_arcOf_50 : decode cX2_arcOf 50 = .ok (.isub, 1) := by decide +kernel
theorem dX2_arcOf_51 : decode cX2_arcOf 51 = .ok (.iaload, 1) := by decide +kernel
theorem dX2_arcOf_52 : decode cX2_arcOf 52 = .ok (.goto 4, 3) := by decide +kernel
theorem dX2_arcOf_55 : decode cX2_arcOf 55 = .ok (.iconst 0, 1) := by decide +kernel
theorem dX2_arcOf_56 : decode cX2_arcOf 56 = .ok (.ireturn, 1) := by decide +kernel
theorem dX2_spotBehind_0 : decode cX2_spotBehind 0 = .ok (.iconst 0, 1) := by decide +kernel
theorem dX2_spotBehind_1 : decode cX2_spotBehind 1 = .ok (.istore 4, 2) := by decide +kernel
theorem dX2_spotBehind_3 : decode cX2_spotBehind 3 = .ok (.iconst 0, 1) := by decide +kernel
theorem dX2_spotBehind_4 : decode cX2_spotBehind 4 = .ok (.istore 5, 2) := by decide +kernel
theorem dX2_spotBehind_6 : decode cX2_spotBehind 6 = .ok (.iload 5, 2) := by decide +kernel
theorem dX2_spotBehind_8 : decode cX2_spotBehind 8 = .ok (.iload_n 2, 1) := by decide +kernel
theorem dX2_spotBehind_9 : decode cX2_spotBehind 9 = .ok (.if_icmp .ge 48, 3) := by decide +kernel
theorem dX2_spotBehind_12 : decode cX2_spotBehind 12 = .ok (.aload_n 0, 1) := by decide +kernel
theorem dX2_spotBehind_13 : decode cX2_spotBehind 13 = .ok (.getfield 34, 3) := by decide +kernel
theorem dX2_spotBehind_16 : decode cX2_spotBehind 16 = .ok (.aload_n 1, 1) := by decide +kernel
theorem dX2_spotBehind_17 : decode cX2_spotBehind 17 = .ok (.iload 5, 2) := by decide +kernel
theorem dX2_spotBehind_19 : decode cX2_spotBehind 19 = .ok (.iaload, 1) := by decide +kernel
theorem dX2_spotBehind_20 : decode cX2_spotBehind 20 = .ok (.iload_n 3, 1) := by decide +kernel
theorem dX2_spotBehind_21 : decode cX2_spotBehind 21 = .ok (.invokevirtual 42, 3) := by decide +kernel
theorem dX2_spotBehind_24 : decode cX2_spotBehind 24 = .ok (.istore 6, 2) := by decide +kernel
theorem dX2_spotBehind_26 : decode cX2_spotBehind 26 = .ok (.iload 6, 2) := by decide +kernel
theorem dX2_spotBehind_28 : decode cX2_spotBehind 28 = .ok (.iconst (-1), 1) := by decide +kernel
theorem dX2_spotBehind_29 : decode cX2_spotBehind 29 = .ok (.if_icmp .ne 5, 3) := by decide +kernel
theorem dX2_spotBehind_32 : decode cX2_spotBehind 32 = .ok (.iconst (-1), 1) := by decide +kernel
theorem dX2_spotBehind_33 : decode cX2_spotBehind 33 = .ok (.ireturn, 1) := by decide +kernel
theorem dX2_spotBehind_34 : decode cX2_spotBehind 34 = .ok (.iload 4, 2) := by decide +kernel
theorem dX2_spotBehind_36 : decode cX2_spotBehind 36 = .ok (.aload_n 0, 1) := by decide +kernel
theorem dX2_spotBehind_37 : decode cX2_spotBehind 37 = .ok (.getfield 25, 3) := by decide +kernel
theorem dX2_spotBehind_40 : decode cX2_spotBehind 40 = .ok (.iload 5, 2) := by decide +kernel
theorem dX2_spotBehind_42 : decode cX2_spotBehind 42 = .ok (.iaload, 1) := by decide +kernel
theorem dX2_spotBehind_43 : decode cX2_spotBehind 43 = .ok (.iload 6, 2) := by decide +kernel
theorem dX2_spotBehind_45 : decode cX2_spotBehind 45 = .ok (.iadd, 1) := by decide +kernel
theorem dX2_spotBehind_46 : decode cX2_spotBehind 46 = .ok (.invokestatic 48, 3) := by decide +kernel
theorem dX2_spotBehind_49 : decode cX2_spotBehind 49 = .ok (.istore 4, 2) := by decide +kernel
theorem dX2_spotBehind_51 : decode cX2_spotBehind 51 = .ok (.iinc 5 1, 3) := by decide +kernel
theorem dX2_spotBehind_54 : decode cX2_spotBehind 54 = .ok (.goto (-48), 3) := by decide +kernel
theorem dX2_spotBehind_57 : decode cX2_spotBehind 57 = .ok (.iload 4, 2) := by decide +kernel
theorem dX2_spotBehind_59 : decode cX2_spotBehind 59 = .ok (.ireturn, 1) := by decide +kernel
theorem dX2_shortestOf_0 : decode cX2_shortestOf 0 = .ok (.aload_n 0, 1) := by decide +kernel
theorem dX2_shortestOf_1 : decode cX2_shortestOf 1 = .ok (.aload_n 0, 1) := by decide +kernel
theorem dX2_shortestOf_2 : decode cX2_shortestOf 2 = .ok (.aload_n 1, 1) := by decide +kernel
theorem dX2_shortestOf_3 : decode cX2_shortestOf 3 = .ok (.iload_n 2, 1) := by decide +kernel
theorem dX2_shortestOf_4 : decode cX2_shortestOf 4 = .ok (.invokevirtual 53, 3) := by decide +kernel
theorem dX2_shortestOf_7 : decode cX2_shortestOf 7 = .ok (.putfield 31, 3) := by decide +kernel
theorem dX2_shortestOf_10 : decode cX2_shortestOf 10 = .ok (.aload_n 0, 1) := by decide +kernel
theorem dX2_shortestOf_11 : decode cX2_shortestOf 11 = .ok (.getfield 31, 3) := by decide +kernel
theorem dX2_shortestOf_14 : decode cX2_shortestOf 14 = .ok (.iconst (-1), 1) := by decide +kernel
theorem dX2_shortestOf_15 : decode cX2_shortestOf 15 = .ok (.if_icmp .eq 9, 3) := by decide +kernel
theorem dX2_shortestOf_18 : decode cX2_shortestOf 18 = .ok (.iload_n 2, 1) := by decide +kernel
theorem dX2_shortestOf_19 : decode cX2_shortestOf 19 = .ok (.bipush 7, 2) := by decide +kernel
theorem dX2_shortestOf_21 : decode cX2_shortestOf 21 = .ok (.if_icmp .le 5, 3) := by decide +kernel
theorem dX2_shortestOf_24 : decode cX2_shortestOf 24 = .ok (.iconst (-1), 1) := by decide +kernel
theorem dX2_shortestOf_25 : decode cX2_shortestOf 25 = .ok (.ireturn, 1) := by decide +kernel
theorem dX2_shortestOf_26 : decode cX2_shortestOf 26 = .ok (.aload_n 0, 1) := by decide +kernel
theorem dX2_shortestOf_27 : decode cX2_shortestOf 27 = .ok (.iload_n 2, 1) := by decide +kernel
theorem dX2_shortestOf_28 : decode cX2_shortestOf 28 = .ok (.putfield 28, 3) := by decide +kernel
theorem dX2_shortestOf_31 : decode cX2_shortestOf 31 = .ok (.aload_n 0, 1) := by decide +kernel
theorem dX2_shortestOf_32 : decode cX2_shortestOf 32 = .ok (.aload_n 1, 1) := by decide +kernel
theorem dX2_shortestOf_33 : decode cX2_shortestOf 33 = .ok (.invokevirtual 57, 3) := by decide +kernel
theorem dX2_shortestOf_36 : decode cX2_shortestOf 36 = .ok (.aload_n 0, 1) := by decide +kernel
theorem dX2_shortestOf_37 : decode cX2_shortestOf 37 = .ok (.dup, 1) := by decide +kernel
theorem dX2_shortestOf_38 : decode cX2_shortestOf 38 = .ok (.getfield 31, 3) := by decide +kernel
theorem dX2_shortestOf_41 : decode cX2_shortestOf 41 = .ok (.iconst 1, 1) := by decide +kernel
theorem dX2_shortestOf_42 : decode cX2_shortestOf 42 = .ok (.iadd, 1) := by decide +kernel
theorem dX2_shortestOf_43 : decode cX2_shortestOf 43 = .ok (.putfield 31, 3) := by decide +kernel
theorem dX2_shortestOf_46 : decode cX2_shortestOf 46 = .ok (.aload_n 0, 1) := by decide +kernel
theorem dX2_shortestOf_47 : decode cX2_shortestOf 47 = .ok (.iconst 0, 1) := by decide +kernel
theorem dX2_shortestOf_48 : decode cX2_shortestOf 48 = .ok (.iconst 0, 1) := by decide +kernel
theorem dX2_shortestOf_49 : decode cX2_shortestOf 49 = .ok (.invokevirtual 61, 3) := by decide +kernel
theorem dX2_shortestOf_52 : decode cX2_shortestOf 52 = .ok (.aload_n 0, 1) := by decide +kernel
theorem dX2_shortestOf_53 : decode cX2_shortestOf 53 = .ok (.getfield 31, 3) := by decide +kernel
theorem dX2_shortestOf_56 : decode cX2_shortestOf 56 = .ok (.ireturn, 1) := by decide +kernel
theorem dX2_sortRow_0 : decode cX2_sortRow 0 = .ok (.iconst 0, 1) := by decide +kernel
theorem dX2_sortRow_1 : decode cX2_sortRow 1 = .ok (.istore_n 2, 1) := by decide +kernel
theorem dX2_sortRow_2 : decode cX2_sortRow 2 = .ok (.iload_n 2, 1) := by decide +kernel
theorem dX2_sortRow_3 : decode cX2_sortRow 3 = .ok (.aload_n 0, 1) := by decide +kernel
theorem dX2_sortRow_4 : decode cX2_sortRow 4 = .ok (.getfield 28, 3) := by decide +kernel
theorem dX2_sortRow_7 : decode cX2_sortRow 7 = .ok (.if_icmp .ge 58, 3) := by decide +kernel
theorem dX2_sortRow_10 : decode cX2_sortRow 10 = .ok (.iload_n 2, 1) := by decide +kernel
theorem dX2_sortRow_11 : decode cX2_sortRow 11 = .ok (.istore_n 3, 1) := by decide +kernel
theorem dX2_sortRow_12 : decode cX2_sortRow 12 = .ok (.iload_n 3, 1) := by decide +kernel
theorem dX2_sortRow_13 : decode cX2_sortRow 13 = .ok (.ifCond .le 37, 3) := by decide +kernel
theorem dX2_sortRow_16 : decode cX2_sortRow 16 = .ok (.aload_n 0, 1) := by decide +kernel
theorem dX2_sortRow_17 : decode cX2_sortRow 17 = .ok (.getfield 19, 3) := by decide +kernel
theorem dX2_sortRow_20 : decode cX2_sortRow 20 = .ok (.iload_n 3, 1) := by decide +kernel
theorem dX2_sortRow_21 : decode cX2_sortRow 21 = .ok (.iconst 1, 1) := by decide +kernel
theorem dX2_sortRow_22 : decode cX2_sortRow 22 = .ok (.isub, 1) := by decide +kernel
theorem dX2_sortRow_23 : decode cX2_sortRow 23 = .ok (.iaload, 1) := by decide +kernel
theorem dX2_sortRow_24 : decode cX2_sortRow 24 = .ok (.aload_n 1, 1) := by decide +kernel
theorem dX2_sortRow_25 : decode cX2_sortRow 25 = .ok (.iload_n 2, 1) := by decide +kernel
theorem dX2_sortRow_26 : decode cX2_sortRow 26 = .ok (.iaload, 1) := by decide +kernel
theorem dX2_sortRow_27 : decode cX2_sortRow 27 = .ok (.if_icmp .le 23, 3) := by decide +kernel
theorem dX2_sortRow_30 : decode cX2_sortRow 30 = .ok (.aload_n 0, 1) := by decide +kernel
theorem dX2_sortRow_31 : decode cX2_sortRow 31 = .ok (.getfield 19, 3) := by decide +kernel
theorem dX2_sortRow_34 : decode cX2_sortRow 34 = .ok (.iload_n 3, 1) := by decide +kernel
theorem dX2_sortRow_35 : decode cX2_sortRow 35 = .ok (.aload_n 0, 1) := by decide +kernel
theorem dX2_sortRow_36 : decode cX2_sortRow 36 = .ok (.getfield 19, 3) := by decide +kernel
theorem dX2_sortRow_39 : decode cX2_sortRow 39 = .ok (.iload_n 3, 1) := by decide +kernel
theorem dX2_sortRow_40 : decode cX2_sortRow 40 = .ok (.iconst 1, 1) := by decide +kernel
theorem dX2_sortRow_41 : decode cX2_sortRow 41 = .ok (.isub, 1) := by decide +kernel
theorem dX2_sortRow_42 : decode cX2_sortRow 42 = .ok (.iaload, 1) := by decide +kernel
theorem dX2_sortRow_43 : decode cX2_sortRow 43 = .ok (.iastore, 1) := by decide +kernel
theorem dX2_sortRow_44 : decode cX2_sortRow 44 = .ok (.iinc 3 (-1), 3) := by decide +kernel
theorem dX2_sortRow_47 : decode cX2_sortRow 47 = .ok (.goto (-35), 3) := by decide +kernel
theorem dX2_sortRow_50 : decode cX2_sortRow 50 = .ok (.aload_n 0, 1) := by decide +kernel
theorem dX2_sortRow_51 : decode cX2_sortRow 51 = .ok (.getfield 19, 3) := by decide +kernel
theorem dX2_sortRow_54 : decode cX2_sortRow 54 = .ok (.iload_n 3, 1) := by decide +kernel
theorem dX2_sortRow_55 : decode cX2_sortRow 55 = .ok (.aload_n 1, 1) := by decide +kernel
theorem dX2_sortRow_56 : decode cX2_sortRow 56 = .ok (.iload_n 2, 1) := by decide +kernel
theorem dX2_sortRow_57 : decode cX2_sortRow 57 = .ok (.iaload, 1) := by decide +kernel
theorem dX2_sortRow_58 : decode cX2_sortRow 58 = .ok (.iastore, 1) := by decide +kernel
theorem dX2_sortRow_59 : decode cX2_sortRow 59 = .ok (.iinc 2 1, 3) := by decide +kernel
theorem dX2_sortRow_62 : decode cX2_sortRow 62 = .ok (.goto (-60), 3) := by decide +kernel
theorem dX2_sortRow_65 : decode cX2_sortRow 65 = .ok (.return_, 1) := by decide +kernel
theorem dX2_tryOrders_0 : decode cX2_tryOrders 0 = .ok (.iload_n 1, 1) := by decide +kernel
theorem dX2_tryOrders_1 : decode cX2_tryOrders 1 = .ok (.aload_n 0, 1) := by decide +kernel
theorem dX2_tryOrders_2 : decode cX2_tryOrders 2 = .ok (.getfield 28, 3) := by decide +kernel
theorem dX2_tryOrders_5 : decode cX2_tryOrders 5 = .ok (.if_icmp .lt 44, 3) := by decide +kernel
theorem dX2_tryOrders_8 : decode cX2_tryOrders 8 = .ok (.aload_n 0, 1) := by decide +kernel
theorem dX2_tryOrders_9 : decode cX2_tryOrders 9 = .ok (.aload_n 0, 1) := by decide +kernel
theorem dX2_tryOrders_10 : decode cX2_tryOrders 10 = .ok (.getfield 25, 3) := by decide +kernel
theorem dX2_tryOrders_13 : decode cX2_tryOrders 13 = .ok (.aload_n 0, 1) := by decide +kernel
theorem dX2_tryOrders_14 : decode cX2_tryOrders 14 = .ok (.getfield 28, 3) := by decide +kernel
theorem dX2_tryOrders_17 : decode cX2_tryOrders 17 = .ok (.iconst 1, 1) := by decide +kernel
theorem dX2_tryOrders_18 : decode cX2_tryOrders 18 = .ok (.isub, 1) := by decide +kernel
theorem dX2_tryOrders_19 : decode cX2_tryOrders 19 = .ok (.iaload, 1) := by decide +kernel
theorem dX2_tryOrders_20 : decode cX2_tryOrders 20 = .ok (.putfield 31, 3) := by decide +kernel
theorem dX2_tryOrders_23 : decode cX2_tryOrders 23 = .ok (.aload_n 0, 1) := by decide +kernel
theorem dX2_tryOrders_24 : decode cX2_tryOrders 24 = .ok (.aload_n 0, 1) := by decide +kernel
theorem dX2_tryOrders_25 : decode cX2_tryOrders 25 = .ok (.getfield 28, 3) := by decide +kernel
theorem dX2_tryOrders_28 : decode cX2_tryOrders 28 = .ok (.putfield 15, 3) := by decide +kernel
theorem dX2_tryOrders_31 : decode cX2_tryOrders 31 = .ok (.aload_n 0, 1) := by decide +kernel
theorem dX2_tryOrders_32 : decode cX2_tryOrders 32 = .ok (.getfield 22, 3) := by decide +kernel
theorem dX2_tryOrders_35 : decode cX2_tryOrders 35 = .ok (.iconst 0, 1) := by decide +kernel
theorem dX2_tryOrders_36 : decode cX2_tryOrders 36 = .ok (.aload_n 0, 1) := by decide +kernel
theorem dX2_tryOrders_37 : decode cX2_tryOrders 37 = .ok (.getfield 9, 3) := by decide +kernel
theorem dX2_tryOrders_40 : decode cX2_tryOrders 40 = .ok (.iconst 0, 1) := by decide +kernel
theorem dX2_tryOrders_41 : decode cX2_tryOrders 41 = .ok (.aload_n 0, 1) := by decide +kernel
theorem dX2_tryOrders_42 : decode cX2_tryOrders 42 = .ok (.getfield 28, 3) := by decide +kernel
theorem dX2_tryOrders_45 : decode cX2_tryOrders 45 = .ok (.invokestatic 65, 3) := by decide +kernel
theorem dX2_tryOrders_48 : decode cX2_tryOrders 48 = .ok (.return_, 1) := by decide +kernel
theorem dX2_tryOrders_49 : decode cX2_tryOrders 49 = .ok (.iconst 0, 1) := by decide +kernel
theorem dX2_tryOrders_50 : decode cX2_tryOrders 50 = .ok (.istore_n 3, 1) := by decide +kernel
theorem dX2_tryOrders_51 : decode cX2_tryOrders 51 = .ok (.iload_n 3, 1) := by decide +kernel
theorem dX2_tryOrders_52 : decode cX2_tryOrders 52 = .ok (.aload_n 0, 1) := by decide +kernel
theorem dX2_tryOrders_53 : decode cX2_tryOrders 53 = .ok (.getfield 28, 3) := by decide +kernel
theorem dX2_tryOrders_56 : decode cX2_tryOrders 56 = .ok (.if_icmp .ge 78, 3) := by decide +kernel
theorem dX2_tryOrders_59 : decode cX2_tryOrders 59 = .ok (.iload_n 2, 1) := by decide +kernel
theorem dX2_tryOrders_60 : decode cX2_tryOrders 60 = .ok (.iload_n 3, 1) := by decide +kernel
theorem dX2_tryOrders_61 : decode cX2_tryOrders 61 = .ok (.ishr, 1) := by decide +kernel
theorem dX2_tryOrders_62 : decode cX2_tryOrders 62 = .ok (.iconst 1, 1) := by decide +kernel
theorem dX2_tryOrders_63 : decode cX2_tryOrders 63 = .ok (.iand, 1) := by decide +kernel
theorem dX2_tryOrders_64 : decode cX2_tryOrders 64 = .ok (.ifCond .eq 6, 3) := by decide +kernel
theorem dX2_tryOrders_67 : decode cX2_tryOrders 67 = .ok (.goto 61, 3) := by decide +kernel
theorem dX2_tryOrders_70 : decode cX2_tryOrders 70 = .ok (.aload_n 0, 1) := by decide +kernel
theorem dX2_tryOrders_71 : decode cX2_tryOrders 71 = .ok (.aload_n 0, 1) := by decide +kernel
theorem dX2_tryOrders_72 : decode cX2_tryOrders 72 = .ok (.getfield 22, 3) := by decide +kernel
theorem dX2_tryOrders_75 : decode cX2_tryOrders 75 = .ok (.iload_n 1, 1) := by decide +kernel
theorem dX2_tryOrders_76 : decode cX2_tryOrders 76 = .ok (.aload_n 0, 1) := by decide +kernel
theorem dX2_tryOrders_77 : decode cX2_tryOrders 77 = .ok (.getfield 19, 3) := by decide +kernel
theorem dX2_tryOrders_80 : decode cX2_tryOrders 80 = .ok (.iload_n 3, 1) := by decide +kernel
theorem dX2_tryOrders_81 : decode cX2_tryOrders 81 = .ok (.iaload, 1) := by decide +kernel
theorem dX2_tryOrders_82 : decode cX2_tryOrders 82 = .ok (.invokevirtual 38, 3) := by decide +kernel
theorem dX2_tryOrders_85 : decode cX2_tryOrders 85 = .ok (.istore 4, 2) := by decide +kernel
theorem dX2_tryOrders_87 : decode cX2_tryOrders 87 = .ok (.iload 4, 2) := by decide +kernel
theorem dX2_tryOrders_89 : decode cX2_tryOrders 89 = .ok (.aload_n 0, 1) := by decide +kernel
theorem dX2_tryOrders_90 : decode cX2_tryOrders 90 = .ok (.getfield 31, 3) := by decide +kernel
theorem dX2_tryOrders_93 : decode cX2_tryOrders 93 = .ok (.if_icmp .ge 35, 3) := by decide +kernel
theorem dX2_tryOrders_96 : decode cX2_tryOrders 96 = .ok (.aload_n 0, 1) := by decide +kernel
theorem dX2_tryOrders_97 : decode cX2_tryOrders 97 = .ok (.getfield 25, 3) := by decide +kernel
theorem dX2_tryOrders_100 : decode cX2_tryOrders 100 = .ok (.iload_n 1, 1) := by decide +kernel
theorem dX2_tryOrders_101 : decode cX2_tryOrders 101 = .ok (.iload 4, 2) := by decide +kernel
theorem dX2_tryOrders_103 : decode cX2_tryOrders 103 = .ok (.iastore, 1) := by decide +kernel
theorem dX2_tryOrders_104 : decode cX2_tryOrders 104 = .ok (.aload_n 0, 1) := by decide +kernel
theorem dX2_tryOrders_105 : decode cX2_tryOrders 105 = .ok (.getfield 22, 3) := by decide +kernel
theorem dX2_tryOrders_108 : decode cX2_tryOrders 108 = .ok (.iload_n 1, 1) := by decide +kernel
theorem dX2_tryOrders_109 : decode cX2_tryOrders 109 = .ok (.aload_n 0, 1) := by decide +kernel
theorem dX2_tryOrders_110 : decode cX2_tryOrders 110 = .ok (.getfield 19, 3) := by decide +kernel
theorem dX2_tryOrders_113 : decode cX2_tryOrders 113 = .ok (.iload_n 3, 1) := by decide +kernel
theorem dX2_tryOrders_114 : decode cX2_tryOrders 114 = .ok (.iaload, 1) := by decide +kernel
theorem dX2_tryOrders_115 : decode cX2_tryOrders 115 = .ok (.iastore, 1) := by decide +kernel
theorem dX2_tryOrders_116 : decode cX2_tryOrders 116 = .ok (.aload_n 0, 1) := by decide +kernel
theorem dX2_tryOrders_117 : decode cX2_tryOrders 117 = .ok (.iload_n 1, 1) := by decide +kernel
theorem dX2_tryOrders_118 : decode cX2_tryOrders 118 = .ok (.iconst 1, 1) := by decide +kernel
theorem dX2_tryOrders_119 : decode cX2_tryOrders 119 = .ok (.iadd, 1) := by decide +kernel
theorem dX2_tryOrders_120 : decode cX2_tryOrders 120 = .ok (.iload_n 2, 1) := by decide +kernel
theorem dX2_tryOrders_121 : decode cX2_tryOrders 121 = .ok (.iconst 1, 1) := by decide +kernel
theorem dX2_tryOrders_122 : decode cX2_tryOrders 122 = .ok (.iload_n 3, 1) := by decide +kernel
theorem dX2_tryOrders_123 : decode cX2_tryOrders 123 = .ok (.ishl, 1) := by decide +kernel
theorem dX2_tryOrders_124 : decode cX2_tryOrders 124 = .ok (.ior, 1) := by decide +kernel
theorem dX2_tryOrders_125 : decode cX2_tryOrders 125 = .ok (.invokevirtual 61, 3) := by decide +kernel
theorem dX2_tryOrders_128 : decode cX2_tryOrders 128 = .ok (.iinc 3 1, 3) := by decide +kernel
theorem dX2_tryOrders_131 : decode cX2_tryOrders 131 = .ok (.goto (-80), 3) := by decide +kernel
theorem dX2_tryOrders_134 : decode cX2_tryOrders 134 = .ok (.return_, 1) := by decide +kernel
theorem dX3_init_0 : decode cX3_init 0 = .ok (.aload_n 0, 1) := by decide +kernel
theorem dX3_init_1 : decode cX3_init 1 = .ok (.invokespecial 3, 3) := by decide +kernel
theorem dX3_init_4 : decode cX3_init 4 = .ok (.aload_n 0, 1) := by decide +kernel
theorem dX3_init_5 : decode cX3_init 5 = .ok (.aload_n 1, 1) := by decide +kernel
theorem dX3_init_6 : decode cX3_init 6 = .ok (.putfield 9, 3) := by decide +kernel
theorem dX3_init_9 : decode cX3_init 9 = .ok (.return_, 1) := by decide +kernel
theorem dX3_isGood_0 : decode cX3_isGood 0 = .ok (.aload_n 0, 1) := by decide +kernel
theorem dX3_isGood_1 : decode cX3_isGood 1 = .ok (.getfield 9, 3) := by decide +kernel
theorem dX3_isGood_4 : decode cX3_isGood 4 = .ok (.iload_n 1, 1) := by decide +kernel
theorem dX3_isGood_5 : decode cX3_isGood 5 = .ok (.bipush 10, 2) := by decide +kernel
theorem dX3_isGood_7 : decode cX3_isGood 7 = .ok (.invokevirtual 15, 3) := by decide +kernel
theorem dX3_isGood_10 : decode cX3_isGood 10 = .ok (.istore_n 3, 1) := by decide +kernel
theorem dX3_isGood_11 : decode cX3_isGood 11 = .ok (.iload_n 3, 1) := by decide +kernel
theorem dX3_isGood_12 : decode cX3_isGood 12 = .ok (.iconst (-1), 1) := by decide +kernel
theorem dX3_isGood_13 : decode cX3_isGood 13 = .ok (.if_icmp .eq 8, 3) := by decide +kernel
theorem dX3_isGood_16 : decode cX3_isGood 16 = .ok (.iload_n 3, 1) := by decide +kernel
theorem dX3_isGood_17 : decode cX3_isGood 17 = .ok (.iload_n 2, 1) := by decide +kernel
theorem dX3_isGood_18 : decode cX3_isGood 18 = .ok (.if_icmp .le 5, 3) := by decide +kernel
theorem dX3_isGood_21 : decode cX3_isGood 21 = .ok (.iconst 0, 1) := by decide +kernel
theorem dX3_isGood_22 : decode cX3_isGood 22 = .ok (.ireturn, 1) := by decide +kernel
theorem dX3_isGood_23 : decode cX3_isGood 23 = .ok (.iload_n 2, 1) := by decide +kernel
theorem dX3_isGood_24 : decode cX3_isGood 24 = .ok (.aload_n 0, 1) := by decide +kernel
theorem dX3_isGood_25 : decode cX3_isGood 25 = .ok (.getfield 9, 3) := by decide +kernel
theorem dX3_isGood_28 : decode cX3_isGood 28 = .ok (.iload_n 1, 1) := by decide +kernel
theorem dX3_isGood_29 : decode cX3_isGood 29 = .ok (.bipush 11, 2) := by decide +kernel
theorem dX3_isGood_31 : decode cX3_isGood 31 = .ok (.invokevirtual 15, 3) := by decide +kernel
theorem dX3_isGood_34 : decode cX3_isGood 34 = .ok (.if_icmp .le 21, 3) := by decide +kernel
theorem dX3_isGood_37 : decode cX3_isGood 37 = .ok (.aload_n 0, 1) := by decide +kernel
theorem dX3_isGood_38 : decode cX3_isGood 38 = .ok (.iload_n 1, 1) := by decide +kernel
theorem dX3_isGood_39 : decode cX3_isGood 39 = .ok (.aload_n 0, 1) := by decide +kernel
theorem dX3_isGood_40 : decode cX3_isGood 40 = .ok (.getfield 9, 3) := by decide +kernel
theorem dX3_isGood_43 : decode cX3_isGood 43 = .ok (.iload_n 1, 1) := by decide +kernel
theorem dX3_isGood_44 : decode cX3_isGood 44 = .ok (.bipush 11, 2) := by decide +kernel
theorem dX3_isGood_46 : decode cX3_isGood 46 = .ok (.invokevirtual 15, 3) := by decide +kernel
theorem dX3_isGood_49 : decode cX3_isGood 49 = .ok (.invokevirtual 21, 3) := by decide +kernel
theorem dX3_isGood_52 : decode cX3_isGood 52 = .ok (.ifCond .eq 7, 3) := by decide +kernel
theorem dX3_isGood_55 : decode cX3_isGood 55 = .ok (.iconst 1, 1) := by decide +kernel
theorem dX3_isGood_56 : decode cX3_isGood 56 = .ok (.goto 4, 3) := by decide +kernel
theorem dX3_isGood_59 : decode cX3_isGood 59 = .ok (.iconst 0, 1) := by decide +kernel
theorem dX3_isGood_60 : decode cX3_isGood 60 = .ok (.ireturn, 1) := by decide +kernel
theorem dX3_wasThereBy_0 : decode cX3_wasThereBy 0 = .ok (.aload_n 0, 1) := by decide +kernel
theorem dX3_wasThereBy_1 : decode cX3_wasThereBy 1 = .ok (.getfield 9, 3) := by decide +kernel
theorem dX3_wasThereBy_4 : decode cX3_wasThereBy 4 = .ok (.iload_n 1, 1) := by decide +kernel
theorem dX3_wasThereBy_5 : decode cX3_wasThereBy 5 = .ok (.bipush 12, 2) := by decide +kernel
theorem dX3_wasThereBy_7 : decode cX3_wasThereBy 7 = .ok (.invokevirtual 15, 3) := by decide +kernel
theorem dX3_wasThereBy_10 : decode cX3_wasThereBy 10 = .ok (.istore_n 3, 1) := by decide +kernel
theorem dX3_wasThereBy_11 : decode cX3_wasThereBy 11 = .ok (.iload_n 3, 1) := by decide +kernel
theorem dX3_wasThereBy_12 : decode cX3_wasThereBy 12 = .ok (.iconst (-1), 1) := by decide +kernel
theorem dX3_wasThereBy_13 : decode cX3_wasThereBy 13 = .ok (.if_icmp .eq 12, 3) := by decide +kernel
theorem dX3_wasThereBy_16 : decode cX3_wasThereBy 16 = .ok (.iload_n 3, 1) := by decide +kernel
theorem dX3_wasThereBy_17 : decode cX3_wasThereBy 17 = .ok (.iload_n 2, 1) := by decide +kernel
theorem dX3_wasThereBy_18 : decode cX3_wasThereBy 18 = .ok (.if_icmp .gt 7, 3) := by decide +kernel
theorem dX3_wasThereBy_21 : decode cX3_wasThereBy 21 = .ok (.iconst 1, 1) := by decide +kernel
theorem dX3_wasThereBy_22 : decode cX3_wasThereBy 22 = .ok (.goto 4, 3) := by decide +kernel
theorem dX3_wasThereBy_25 : decode cX3_wasThereBy 25 = .ok (.iconst 0, 1) := by decide +kernel
theorem dX3_wasThereBy_26 : decode cX3_wasThereBy 26 = .ok (.ireturn, 1) := by decide +kernel
theorem dX3_rankOf_0 : decode cX3_rankOf 0 = .ok (.aload_n 0, 1) := by decide +kernel
theorem dX3_rankOf_1 : decode cX3_rankOf 1 = .ok (.getfield 9, 3) := by decide +kernel
theorem dX3_rankOf_4 : decode cX3_rankOf 4 = .ok (.getfield 25, 3) := by decide +kernel
theorem dX3_rankOf_7 : decode cX3_rankOf 7 = .ok (.ifCond .eq 27, 3) := by decide +kernel
theorem dX3_rankOf_10 : decode cX3_rankOf 10 = .ok (.aload_n 0, 1) := by decide +kernel
theorem dX3_rankOf_11 : decode cX3_rankOf 11 = .ok (.iload_n 1, 1) := by decide +kernel
theorem dX3_rankOf_12 : decode cX3_rankOf 12 = .ok (.iload_n 2, 1) := by decide +kernel
theorem dX3_rankOf_13 : decode cX3_rankOf 13 = .ok (.invokevirtual 21, 3) := by decide +kernel
theorem dX3_rankOf_16 : decode cX3_rankOf 16 = .ok (.ifCond .eq 16, 3) := by decide +kernel
theorem dX3_rankOf_19 : decode cX3_rankOf 19 = .ok (.aload_n 0, 1) := by decide +kernel
theorem dX3_rankOf_20 : decode cX3_rankOf 20 = .ok (.getfield 9, 3) := by decide +kernel
theorem dX3_rankOf_23 : decode cX3_rankOf 23 = .ok (.iload_n 1, 1) := by decide +kernel
theorem dX3_rankOf_24 : decode cX3_rankOf 24 = .ok (.bipush 12, 2) := by decide +kernel
theorem dX3_rankOf_26 : decode cX3_rankOf 26 = .ok (.invokevirtual 15, 3) := by decide +kernel
theorem dX3_rankOf_29 : decode cX3_rankOf 29 = .ok (.goto 4, 3) := by decide +kernel
theorem dX3_rankOf_32 : decode cX3_rankOf 32 = .ok (.iconst (-1), 1) := by decide +kernel
theorem dX3_rankOf_33 : decode cX3_rankOf 33 = .ok (.ireturn, 1) := by decide +kernel
theorem dX3_rankOf_34 : decode cX3_rankOf 34 = .ok (.aload_n 0, 1) := by decide +kernel
theorem dX3_rankOf_35 : decode cX3_rankOf 35 = .ok (.iload_n 1, 1) := by decide +kernel
theorem dX3_rankOf_36 : decode cX3_rankOf 36 = .ok (.iload_n 2, 1) := by decide +kernel
theorem dX3_rankOf_37 : decode cX3_rankOf 37 = .ok (.invokevirtual 29, 3) := by decide +kernel
theorem dX3_rankOf_40 : decode cX3_rankOf 40 = .ok (.ifCond .eq 16, 3) := by decide +kernel
theorem dX3_rankOf_43 : decode cX3_rankOf 43 = .ok (.aload_n 0, 1) := by decide +kernel
theorem dX3_rankOf_44 : decode cX3_rankOf 44 = .ok (.getfield 9, 3) := by decide +kernel
theorem dX3_rankOf_47 : decode cX3_rankOf 47 = .ok (.iload_n 1, 1) := by decide +kernel
theorem dX3_rankOf_48 : decode cX3_rankOf 48 = .ok (.bipush 10, 2) := by decide +kernel
theorem dX3_rankOf_50 : decode cX3_rankOf 50 = .ok (.invokevirtual 15, 3) := by decide +kernel
theorem dX3_rankOf_53 : decode cX3_rankOf 53 = .ok (.goto 4, 3) := by decide +kernel
theorem dX3_rankOf_56 : decode cX3_rankOf 56 = .ok (.iconst (-1), 1) := by decide +kernel
theorem dX3_rankOf_57 : decode cX3_rankOf 57 = .ok (.ireturn, 1) := by decide +kernel
theorem dX3_rightOf_0 : decode cX3_rightOf 0 = .ok (.aload_n 0, 1) := by decide +kernel
theorem dX3_rightOf_1 : decode cX3_rightOf 1 = .ok (.getfield 9, 3) := by decide +kernel
theorem dX3_rightOf_4 : decode cX3_rightOf 4 = .ok (.iload_n 1, 1) := by decide +kernel
theorem dX3_rightOf_5 : decode cX3_rightOf 5 = .ok (.iload_n 2, 1) := by decide +kernel
theorem dX3_rightOf_6 : decode cX3_rightOf 6 = .ok (.invokevirtual 32, 3) := by decide +kernel
theorem dX3_rightOf_9 : decode cX3_rightOf 9 = .ok (.ifCond .ne 5, 3) := by decide +kernel
theorem dX3_rightOf_12 : decode cX3_rightOf 12 = .ok (.iconst 0, 1) := by decide +kernel
theorem dX3_rightOf_13 : decode cX3_rightOf 13 = .ok (.ireturn, 1) := by decide +kernel
theorem dX3_rightOf_14 : decode cX3_rightOf 14 = .ok (.aload_n 0, 1) := by decide +kernel
theorem dX3_rightOf_15 : decode cX3_rightOf 15 = .ok (.iload_n 1, 1) := by decide +kernel
theorem dX3_rightOf_16 : decode cX3_rightOf 16 = .ok (.iload_n 3, 1) := by decide +kernel
theorem dX3_rightOf_17 : decode cX3_rightOf 17 = .ok (.invokevirtual 35, 3) := by decide +kernel
theorem dX3_rightOf_20 : decode cX3_rightOf 20 = .ok (.istore 4, 2) := by decide +kernel
theorem dX3_rightOf_22 : decode cX3_rightOf 22 = .ok (.aload_n 0, 1) := by decide +kernel
theorem dX3_rightOf_23 : decode cX3_rightOf 23 = .ok (.iload_n 2, 1) := by decide +kernel
theorem dX3_rightOf_24 : decode cX3_rightOf 24 = .ok (.iload_n 3, 1) := by decide +kernel
theorem dX3_rightOf_25 : decode cX3_rightOf 25 = .ok (.invokevirtual 35, 3) := by decide +kernel
theorem dX3_rightOf_28 : decode cX3_rightOf 28 = .ok (.istore 5, 2) := by decide +kernel
theorem dX3_rightOf_30 : decode cX3_rightOf 30 = .ok (.iload 4, 2) := by decide +kernel
theorem dX3_rightOf_32 : decode cX3_rightOf 32 = .ok (.iconst (-1), 1) := by decide +kernel
theorem dX3_rightOf_33 : decode cX3_rightOf 33 = .ok (.if_icmp .ne 11, 3) := by decide +kernel
theorem dX3_rightOf_36 : decode cX3_rightOf 36 = .ok (.iload 5, 2) := by decide +kernel
theorem dX3_rightOf_38 : decode cX3_rightOf 38 = .ok (.iconst (-1), 1) := by decide +kernel
theorem dX3_rightOf_39 : decode cX3_rightOf 39 = .ok (.if_icmp .ne 5, 3) := by decide +kernel
theorem dX3_rightOf_42 : decode cX3_rightOf 42 = .ok (.iconst 0, 1) := by decide +kernel
theorem dX3_rightOf_43 : decode cX3_rightOf 43 = .ok (.ireturn, 1) := by decide +kernel
theorem dX3_rightOf_44 : decode cX3_rightOf 44 = .ok (.iload 4, 2) := by decide +kernel
theorem dX3_rightOf_46 : decode cX3_rightOf 46 = .ok (.iconst (-1), 1) := by decide +kernel
theorem dX3_rightOf_47 : decode cX3_rightOf 47 = .ok (.if_icmp .eq 9, 3) := by decide +kernel
theorem dX3_rightOf_50 : decode cX3_rightOf 50 = .ok (.iload 5, 2) := by decide +kernel
theorem dX3_rightOf_52 : decode cX3_rightOf 52 = .ok (.iconst (-1), 1) := by decide +kernel
theorem dX3_rightOf_53 : decode cX3_rightOf 53 = .ok (.if_icmp .ne 15, 3) := by decide +kernel
theorem dX3_rightOf_56 : decode cX3_rightOf 56 = .ok (.iload 5, 2) := by decide +kernel
theorem dX3_rightOf_58 : decode cX3_rightOf 58 = .ok (.iconst (-1), 1) := by decide +kernel
theorem dX3_rightOf_59 : decode cX3_rightOf 59 = .ok (.if_icmp .ne 7, 3) := by decide +kernel
theorem dX3_rightOf_62 : decode cX3_rightOf 62 = .ok (.iconst 1, 1) := by decide +kernel
theorem dX3_rightOf_63 : decode cX3_rightOf 63 = .ok (.goto 4, 3) := by decide +kernel
theorem dX3_rightOf_66 : decode cX3_rightOf 66 = .ok (.iconst (-1), 1) := by decide +kernel
theorem dX3_rightOf_67 : decode cX3_rightOf 67 = .ok (.ireturn, 1) := by decide +kernel
theorem dX3_rightOf_68 : decode cX3_rightOf 68 = .ok (.iload 4, 2) := by decide +kernel
theorem dX3_rightOf_70 : decode cX3_rightOf 70 = .ok (.iload 5, 2) := by decide +kernel
theorem dX3_rightOf_72 : decode cX3_rightOf 72 = .ok (.if_icmp .ne 14, 3) := by decide +kernel
theorem dX3_rightOf_75 : decode cX3_rightOf 75 = .ok (.iload_n 1, 1) := by decide +kernel
theorem dX3_rightOf_76 : decode cX3_rightOf 76 = .ok (.iload_n 2, 1) := by decide +kernel
theorem dX3_rightOf_77 : decode cX3_rightOf 77 = .ok (.if_icmp .ge 7, 3) := by decide +kernel
theorem dX3_rightOf_80 : decode cX3_rightOf 80 = .ok (.iconst 1, 1) := by decide +kernel
theorem dX3_rightOf_81 : decode cX3_rightOf 81 = .ok (.goto 4, 3) := by decide +kernel
theorem dX3_rightOf_84 : decode cX3_rightOf 84 = .ok (.iconst (-1), 1) := by decide +kernel
theorem dX3_rightOf_85 : decode cX3_rightOf 85 = .ok (.ireturn, 1) := by decide +kernel
theorem dX3_rightOf_86 : decode cX3_rightOf 86 = .ok (.iload 4, 2) := by decide +kernel
theorem dX3_rightOf_88 : decode cX3_rightOf 88 = .ok (.iload 5, 2) := by decide +kernel
theorem dX3_rightOf_90 : decode cX3_rightOf 90 = .ok (.if_icmp .ge 7, 3) := by decide +kernel
theorem dX3_rightOf_93 : decode cX3_rightOf 93 = .ok (.iconst 1, 1) := by decide +kernel
theorem dX3_rightOf_94 : decode cX3_rightOf 94 = .ok (.goto 4, 3) := by decide +kernel
theorem dX3_rightOf_97 : decode cX3_rightOf 97 = .ok (.iconst (-1), 1) := by decide +kernel
theorem dX3_rightOf_98 : decode cX3_rightOf 98 = .ok (.ireturn, 1) := by decide +kernel
theorem dX3_barredFor_0 : decode cX3_barredFor 0 = .ok (.iconst 0, 1) := by decide +kernel
theorem dX3_barredFor_1 : decode cX3_barredFor 1 = .ok (.istore_n 3, 1) := by decide +kernel
theorem dX3_barredFor_2 : decode cX3_barredFor 2 = .ok (.iconst 0, 1) := by decide +kernel
theorem dX3_barredFor_3 : decode cX3_barredFor 3 = .ok (.istore 4, 2) := by decide +kernel
theorem dX3_barredFor_5 : decode cX3_barredFor 5 = .ok (.iload 4, 2) := by decide +kernel
theorem dX3_barredFor_7 : decode cX3_barredFor 7 = .ok (.aload_n 0, 1) := by decide +kernel
theorem dX3_barredFor_8 : decode cX3_barredFor 8 = .ok (.getfield 9, 3) := by decide +kernel
theorem dX3_barredFor_11 : decode cX3_barredFor 11 = .ok (.getfield 38, 3) := by decide +kernel
theorem dX3_barredFor_14 : decode cX3_barredFor 14 = .ok (.if_icmp .ge 20, 3) := by decide +kernel
theorem dX3_barredFor_17 : decode cX3_barredFor 17 = .ok (.iload_n 3, 1) := by decide +kernel
theorem dX3_barredFor_18 : decode cX3_barredFor 18 = .ok (.aload_n 0, 1) := by decide +kernel
theorem dX3_barredFor_19 : decode cX3_barredFor 19 = .ok (.iload 4, 2) := by decide +kernel
theorem dX3_barredFor_21 : decode cX3_barredFor 21 = .ok (.iload_n 1, 1) := by decide +kernel
theorem dX3_barredFor_22 : decode cX3_barredFor 22 = .ok (.iload_n 2, 1) := by decide +kernel
theorem dX3_barredFor_23 : decode cX3_barredFor 23 = .ok (.invokevirtual 42, 3) := by decide +kernel
theorem dX3_barredFor_26 : decode cX3_barredFor 26 = .ok (.ior, 1) := by decide +kernel
theorem dX3_barredFor_27 : decode cX3_barredFor 27 = .ok (.istore_n 3, 1) := by decide +kernel
theorem dX3_barredFor_28 : decode cX3_barredFor 28 = .ok (.iinc 4 1, 3) := by decide +kernel
theorem dX3_barredFor_31 : decode cX3_barredFor 31 = .ok (.goto (-26), 3) := by decide +kernel
theorem dX3_barredFor_34 : decode cX3_barredFor 34 = .ok (.iload_n 3, 1) := by decide +kernel
theorem dX3_barredFor_35 : decode cX3_barredFor 35 = .ok (.ireturn, 1) := by decide +kernel
theorem dX3_clearedFor_0 : decode cX3_clearedFor 0 = .ok (.iconst 0, 1) := by decide +kernel
theorem dX3_clearedFor_1 : decode cX3_clearedFor 1 = .ok (.istore_n 3, 1) := by decide +kernel
theorem dX3_clearedFor_2 : decode cX3_clearedFor 2 = .ok (.iconst 0, 1) := by decide +kernel
theorem dX3_clearedFor_3 : decode cX3_clearedFor 3 = .ok (.istore 4, 2) := by decide +kernel
theorem dX3_clearedFor_5 : decode cX3_clearedFor 5 = .ok (.iconst 0, 1) := by decide +kernel
theorem dX3_clearedFor_6 : decode cX3_clearedFor 6 = .ok (.istore 5, 2) := by decide +kernel
theorem dX3_clearedFor_8 : decode cX3_clearedFor 8 = .ok (.iload 5, 2) := by decide +kernel
theorem dX3_clearedFor_10 : decode cX3_clearedFor 10 = .ok (.aload_n 0, 1) := by decide +kernel
theorem dX3_clearedFor_11 : decode cX3_clearedFor 11 = .ok (.getfield 9, 3) := by decide +kernel
theorem dX3_clearedFor_14 : decode cX3_clearedFor 14 = .ok (.getfield 38, 3) := by decide +kernel
theorem dX3_clearedFor_17 : decode cX3_clearedFor 17 = .ok (.if_icmp .ge 51, 3) := by decide +kernel
theorem dX3_clearedFor_20 : decode cX3_clearedFor 20 = .ok (.aload_n 0, 1) := by decide +kernel
theorem dX3_clearedFor_21 : decode cX3_clearedFor 21 = .ok (.getfield 9, 3) := by decide +kernel
theorem dX3_clearedFor_24 : decode cX3_clearedFor 24 = .ok (.iload 5, 2) := by decide +kernel
theorem dX3_clearedFor_26 : decode cX3_clearedFor 26 = .ok (.bipush 12, 2) := by decide +kernel
theorem dX3_clearedFor_28 : decode cX3_clearedFor 28 = .ok (.invokevirtual 15, 3) := by decide +kernel
theorem dX3_clearedFor_31 : decode cX3_clearedFor 31 = .ok (.iconst (-1), 1) := by decide +kernel
theorem dX3_clearedFor_32 : decode cX3_clearedFor 32 = .ok (.if_icmp .ne 17, 3) := by decide +kernel
theorem dX3_clearedFor_35 : decode cX3_clearedFor 35 = .ok (.iload_n 3, 1) := by decide +kernel
theorem dX3_clearedFor_36 : decode cX3_clearedFor 36 = .ok (.aload_n 0, 1) := by decide +kernel
theorem dX3_clearedFor_37 : decode cX3_clearedFor 37 = .ok (.iload 5, 2) := by decide +kernel
theorem dX3_clearedFor_39 : decode cX3_clearedFor 39 = .ok (.iload_n 1, 1) := by decide +kernel
theorem dX3_clearedFor_40 : decode cX3_clearedFor 40 = .ok (.iload_n 2, 1) := by decide +kernel
theorem dX3_clearedFor_41 : decode cX3_clearedFor 41 = .ok (.invokevirtual 42, 3) := by decide +kernel
theorem dX3_clearedFor_44 : decode cX3_clearedFor 44 = .ok (.ior, 1) := by decide +kernel
theorem dX3_clearedFor_45 : decode cX3_clearedFor 45 = .ok (.istore_n 3, 1) := by decide +kernel
theorem dX3_clearedFor_46 : decode cX3_clearedFor 46 = .ok (.goto 16, 3) := by decide +kernel
theorem dX3_clearedFor_49 : decode cX3_clearedFor 49 = .ok (.iload 4, 2) := by decide +kernel
theorem dX3_clearedFor_51 : decode cX3_clearedFor 51 = .ok (.aload_n 0, 1) := by decide +kernel
theorem dX3_clearedFor_52 : decode cX3_clearedFor 52 = .ok (.iload 5, 2) := by decide +kernel
theorem dX3_clearedFor_54 : decode cX3_clearedFor 54 = .ok (.iload_n 1, 1) := by decide +kernel
theorem dX3_clearedFor_55 : decode cX3_clearedFor 55 = .ok (.iload_n 2, 1) := by decide +kernel
theorem dX3_clearedFor_56 : decode cX3_clearedFor 56 = .ok (.invokevirtual 42, 3) := by decide +kernel
theorem dX3_clearedFor_59 : decode cX3_clearedFor 59 = .ok (.ior, 1) := by decide +kernel
theorem dX3_clearedFor_60 : decode cX3_clearedFor 60 = .ok (.istore 4, 2) := by decide +kernel
theorem dX3_clearedFor_62 : decode cX3_clearedFor 62 = .ok (.iinc 5 1, 3) := by decide +kernel
theorem dX3_clearedFor_65 : decode cX3_clearedFor 65 = .ok (.goto (-57), 3) := by decide +kernel
theorem dX3_clearedFor_68 : decode cX3_clearedFor 68 = .ok (.iload_n 3, 1) := by decide +kernel
theorem dX3_clearedFor_69 : decode cX3_clearedFor 69 = .ok (.iload 4, 2) := by decide +kernel
theorem dX3_clearedFor_71 : decode cX3_clearedFor 71 = .ok (.iconst (-1), 1) := by decide +kernel
theorem dX3_clearedFor_72 : decode cX3_clearedFor 72 = .ok (.ixor, 1) := by decide +kernel
theorem dX3_clearedFor_73 : decode cX3_clearedFor 73 = .ok (.iand, 1) := by decide +kernel
theorem dX3_clearedFor_74 : decode cX3_clearedFor 74 = .ok (.ireturn, 1) := by decide +kernel
theorem dX3_barredBy_0 : decode cX3_barredBy 0 = .ok (.iload_n 1, 1) := by decide +kernel
theorem dX3_barredBy_1 : decode cX3_barredBy 1 = .ok (.iload_n 2, 1) := by decide +kernel
theorem dX3_barredBy_2 : decode cX3_barredBy 2 = .ok (.if_icmp .eq 32, 3) := by decide +kernel
theorem dX3_barredBy_5 : decode cX3_barredBy 5 = .ok (.aload_n 0, 1) := by decide +kernel
theorem dX3_barredBy_6 : decode cX3_barredBy 6 = .ok (.iload_n 1, 1) := by decide +kernel
theorem dX3_barredBy_7 : decode cX3_barredBy 7 = .ok (.iload_n 3, 1) := by decide +kernel
theorem dX3_barredBy_8 : decode cX3_barredBy 8 = .ok (.invokevirtual 29, 3) := by decide +kernel
theorem dX3_barredBy_11 : decode cX3_barredBy 11 = .ok (.ifCond .eq 23, 3) := by decide +kernel
theorem dX3_barredBy_14 : decode cX3_barredBy 14 = .ok (.aload_n 0, 1) := by decide +kernel
theorem dX3_barredBy_15 : decode cX3_barredBy 15 = .ok (.iload_n 1, 1) := by decide +kernel
theorem dX3_barredBy_16 : decode cX3_barredBy 16 = .ok (.iload_n 3, 1) := by decide +kernel
theorem dX3_barredBy_17 : decode cX3_barredBy 17 = .ok (.invokevirtual 21, 3) := by decide +kernel
theorem dX3_barredBy_20 : decode cX3_barredBy 20 = .ok (.ifCond .ne 14, 3) := by decide +kernel
theorem dX3_barredBy_23 : decode cX3_barredBy 23 = .ok (.aload_n 0, 1) := by decide +kernel
theorem dX3_barredBy_24 : decode cX3_barredBy 24 = .ok (.iload_n 1, 1) := by decide +kernel
theorem dX3_barredBy_25 : decode cX3_barredBy 25 = .ok (.iload_n 2, 1) := by decide +kernel
theorem dX3_barredBy_26 : decode cX3_barredBy 26 = .ok (.iload_n 3, 1) := by decide +kernel
theorem dX3_barredBy_27 : decode cX3_barredBy 27 = .ok (.invokevirtual 46, 3) := by decide +kernel
theorem dX3_barredBy_30 : decode cX3_barredBy 30 = .ok (.iconst 1, 1) := by decide +kernel
theorem dX3_barredBy_31 : decode cX3_barredBy 31 = .ok (.if_icmp .eq 5, 3) := by decide +kernel
theorem dX3_barredBy_34 : decode cX3_barredBy 34 = .ok (.iconst 0, 1) := by decide +kernel
theorem dX3_barredBy_35 : decode cX3_barredBy 35 = .ok (.ireturn, 1) := by decide +kernel
theorem dX3_barredBy_36 : decode cX3_barredBy 36 = .ok (.aload_n 0, 1) := by decide +kernel
theorem dX3_barredBy_37 : decode cX3_barredBy 37 = .ok (.getfield 9, 3) := by decide +kernel
theorem dX3_barredBy_40 : decode cX3_barredBy 40 = .ok (.iload_n 1, 1) := by decide +kernel
theorem dX3_barredBy_41 : decode cX3_barredBy 41 = .ok (.iload_n 2, 1) := by decide +kernel
theorem dX3_barredBy_42 : decode cX3_barredBy 42 = .ok (.invokevirtual 32, 3) := by decide +kernel
theorem dX3_barredBy_45 : decode cX3_barredBy 45 = .ok (.istore 4, 2) := by decide +kernel
theorem dX3_barredBy_47 : decode cX3_barredBy 47 = .ok (.aload_n 0, 1) := by decide +kernel
theorem dX3_barredBy_48 : decode cX3_barredBy 48 = .ok (.getfield 9, 3) := by decide +kernel
theorem dX3_barredBy_51 : decode cX3_barredBy 51 = .ok (.iload_n 1, 1) := by decide +kernel
theorem dX3_barredBy_52 : decode cX3_barredBy 52 = .ok (.invokevirtual 49, 3) := by decide +kernel
theorem dX3_barredBy_55 : decode cX3_barredBy 55 = .ok (.istore 5, 2) := by decide +kernel
theorem dX3_barredBy_57 : decode cX3_barredBy 57 = .ok (.iconst 0, 1) := by decide +kernel
theorem dX3_barredBy_58 : decode cX3_barredBy 58 = .ok (.istore 6, 2) := by decide +kernel
theorem dX3_barredBy_60 : decode cX3_barredBy 60 = .ok (.iconst 0, 1) := by decide +kernel
theorem dX3_barredBy_61 : decode cX3_barredBy 61 = .ok (.istore 7, 2) := by decide +kernel
theorem dX3_barredBy_63 : decode cX3_barredBy 63 = .ok (.iload 7, 2) := by decide +kernel
theorem dX3_barredBy_65 : decode cX3_barredBy 65 = .ok (.aload_n 0, 1) := by decide +kernel
theorem dX3_barredBy_66 : decode cX3_barredBy 66 = .ok (.getfield 9, 3) := by decide +kernel
theorem dX3_barredBy_69 : decode cX3_barredBy 69 = .ok (.getfield 53, 3) := by decide +kernel
theorem dX3_barredBy_72 : decode cX3_barredBy 72 = .ok (.if_icmp .ge 61, 3) := by decide +kernel
theorem dX3_barredBy_75 : decode cX3_barredBy 75 = .ok (.aload_n 0, 1) := by decide +kernel
theorem dX3_barredBy_76 : decode cX3_barredBy 76 = .ok (.getfield 9, 3) := by decide +kernel
theorem dX3_barredBy_79 : decode cX3_barredBy 79 = .ok (.getfield 56, 3) := by decide +kernel
theorem dX3_barredBy_82 : decode cX3_barredBy 82 = .ok (.iload 7, 2) := by decide +kernel
theorem dX3_barredBy_84 : decode cX3_barredBy 84 = .ok (.iaload, 1) := by decide +kernel
theorem dX3_barredBy_85 : decode cX3_barredBy 85 = .ok (.istore 8, 2) := by decide +kernel
theorem dX3_barredBy_87 : decode cX3_barredBy 87 = .ok (.aload_n 0, 1) := by decide +kernel
theorem dX3_barredBy_88 : decode cX3_barredBy 88 = .ok (.getfield 9, 3) := by decide +kernel
theorem dX3_barredBy_91 : decode cX3_barredBy 91 = .ok (.iload_n 2, 1) := by decide +kernel
theorem dX3_barredBy_92 : decode cX3_barredBy 92 = .ok (.iload 8, 2) := by decide +kernel
theorem dX3_barredBy_94 : decode cX3_barredBy 94 = .ok (.invokevirtual 60, 3) := by decide +kernel
theorem dX3_barredBy_97 : decode cX3_barredBy 97 = .ok (.ifCond .eq 30, 3) := by decide +kernel
theorem dX3_barredBy_100 : decode cX3_barredBy 100 = .ok (.iload 4, 2) := by decide +kernel
theorem dX3_barredBy_102 : decode cX3_barredBy 102 = .ok (.iconst (-1), 1) := by decide +kernel
theorem dX3_barredBy_103 : decode cX3_barredBy 103 = .ok (.if_icmp .eq 15, 3) := by decide +kernel
theorem dX3_barredBy_106 : decode cX3_barredBy 106 = .ok (.iload 8, 2) := by decide +kernel
theorem dX3_barredBy_108 : decode cX3_barredBy 108 = .ok (.iload 5, 2) := by decide +kernel
theorem dX3_barredBy_110 : decode cX3_barredBy 110 = .ok (.invokestatic 63, 3) := by decide +kernel
theorem dX3_barredBy_113 : decode cX3_barredBy 113 = .ok (.iload 4, 2) := by decide +kernel
theorem dX3_barredBy_115 : decode cX3_barredBy 115 = .ok (.if_icmp .ge 12, 3) := by decide +kernel
theorem dX3_barredBy_118 : decode cX3_barredBy 118 = .ok (.iload 6, 2) := by decide +kernel
theorem dX3_barredBy_120 : decode cX3_barredBy 120 = .ok (.iconst 1, 1) := by decide +kernel
theorem dX3_barredBy_121 : decode cX3_barredBy 121 = .ok (.iload 7, 2) := by decide +kernel
theorem dX3_barredBy_123 : decode cX3_barredBy 123 = .ok (.ishl, 1) := by decide +kernel
theorem dX3_barredBy_124 : decode cX3_barredBy 124 = .ok (.ior, 1) := by decide +kernel
theorem dX3_barredBy_125 : decode cX3_barredBy 125 = .ok (.istore 6, 2) := by decide +kernel
theorem dX3_barredBy_127 : decode cX3_barredBy 127 = .ok (.iinc 7 1, 3) := by decide +kernel
theorem dX3_barredBy_130 : decode cX3_barredBy 130 = .ok (.goto (-67), 3) := by decide +kernel
theorem dX3_barredBy_133 : decode cX3_barredBy 133 = .ok (.iload 6, 2) := by decide +kernel
theorem dX3_barredBy_135 : decode cX3_barredBy 135 = .ok (.ireturn, 1) := by decide +kernel
theorem dX4_init_0 : decode cX4_init 0 = .ok (.aload_n 0, 1) := by decide +kernel
theorem dX4_init_1 : decode cX4_init 1 = .ok (.invokespecial 3, 3) := by decide +kernel
theorem dX4_init_4 : decode cX4_init 4 = .ok (.aload_n 0, 1) := by decide +kernel
theorem dX4_init_5 : decode cX4_init 5 = .ok (.new 9, 3) := by decide +kernel
theorem dX4_init_8 : decode cX4_init 8 = .ok (.dup, 1) := by decide +kernel
theorem dX4_init_9 : decode cX4_init 9 = .ok (.invokespecial 11, 3) := by decide +kernel
theorem dX4_init_12 : decode cX4_init 12 = .ok (.putfield 12, 3) := by decide +kernel
theorem dX4_init_15 : decode cX4_init 15 = .ok (.aload_n 0, 1) := by decide +kernel
theorem dX4_init_16 : decode cX4_init 16 = .ok (.iconst 0, 1) := by decide +kernel
theorem dX4_init_17 : decode cX4_init 17 = .ok (.putfield 18, 3) := by decide +kernel
theorem dX4_init_20 : decode cX4_init 20 = .ok (.aload_n 0, 1) := by decide +kernel
theorem dX4_init_21 : decode cX4_init 21 = .ok (.iconst 0, 1) := by decide +kernel
theorem dX4_init_22 : decode cX4_init 22 = .ok (.putfield 22, 3) := by decide +kernel
theorem dX4_init_25 : decode cX4_init 25 = .ok (.aload_n 0, 1) := by decide +kernel
theorem dX4_init_26 : decode cX4_init 26 = .ok (.iconst 0, 1) := by decide +kernel
theorem dX4_init_27 : decode cX4_init 27 = .ok (.putfield 25, 3) := by decide +kernel
theorem dX4_init_30 : decode cX4_init 30 = .ok (.aload_n 0, 1) := by decide +kernel
theorem dX4_init_31 : decode cX4_init 31 = .ok (.bipush 8, 2) := by decide +kernel
theorem dX4_init_33 : decode cX4_init 33 = .ok (.newarray .int, 2) := by decide +kernel
theorem dX4_init_35 : decode cX4_init 35 = .ok (.putfield 28, 3) := by decide +kernel
theorem dX4_init_38 : decode cX4_init 38 = .ok (.aload_n 0, 1) := by decide +kernel
theorem dX4_init_39 : decode cX4_init 39 = .ok (.bipush 16, 2) := by decide +kernel
theorem dX4_init_41 : decode cX4_init 41 = .ok (.newarray .int, 2) := by decide +kernel
theorem dX4_init_43 : decode cX4_init 43 = .ok (.putfield 32, 3) := by decide +kernel
theorem dX4_init_46 : decode cX4_init 46 = .ok (.aload_n 0, 1) := by decide +kernel
theorem dX4_init_47 : decode cX4_init 47 = .ok (.iconst 0, 1) := by decide +kernel
theorem dX4_init_48 : decode cX4_init 48 = .ok (.putfield 35, 3) := by decide +kernel
theorem dX4_init_51 : decode cX4_init 51 = .ok (.aload_n 0, 1) := by decide +kernel
theorem dX4_init_52 : decode cX4_init 52 = .ok (.iconst 0, 1) := by decide +kernel
theorem dX4_init_53 : decode cX4_init 53 = .ok (.putfield 39, 3) := by decide +kernel
theorem dX4_init_56 : decode cX4_init 56 = .ok (.aload_n 0, 1) := by decide +kernel
theorem dX4_init_57 : decode cX4_init 57 = .ok (.iconst 0, 1) := by decide +kernel
theorem dX4_init_58 : decode cX4_init 58 = .ok (.putfield 42, 3) := by decide +kernel
theorem dX4_init_61 : decode cX4_init 61 = .ok (.aload_n 0, 1) := by decide +kernel
theorem dX4_init_62 : decode cX4_init 62 = .ok (.iconst 0, 1) := by decide +kernel
theorem dX4_init_63 : decode cX4_init 63 = .ok (.putfield 45, 3) := by decide +kernel
theorem dX4_init_66 : decode cX4_init 66 = .ok (.aload_n 0, 1) := by decide +kernel
theorem dX4_init_67 : decode cX4_init 67 = .ok (.new 48, 3) := by decide +kernel
theorem dX4_init_70 : decode cX4_init 70 = .ok (.dup, 1) := by decide +kernel
theorem dX4_init_71 : decode cX4_init 71 = .ok (.aload_n 1, 1) := by decide +kernel
theorem dX4_init_72 : decode cX4_init 72 = .ok (.invokespecial 50, 3) := by decide +kernel
theorem dX4_init_75 : decode cX4_init 75 = .ok (.putfield 53, 3) := by decide +kernel
theorem dX4_init_78 : decode cX4_init 78 = .ok (.return_, 1) := by decide +kernel
theorem dX4_readText_0 : decode cX4_readText 0 = .ok (.aload_n 0, 1) := by decide +kernel
theorem dX4_readText_1 : decode cX4_readText 1 = .ok (.getfield 53, 3) := by decide +kernel
theorem dX4_readText_4 : decode cX4_readText 4 = .ok (.iload_n 1, 1) := by decide +kernel
theorem dX4_readText_5 : decode cX4_readText 5 = .ok (.invokevirtual 57, 3) := by decide +kernel
theorem dX4_readText_8 : decode cX4_readText 8 = .ok (.aload_n 0, 1) := by decide +kernel
theorem dX4_readText_9 : decode cX4_readText 9 = .ok (.iconst 0, 1) := by decide +kernel
theorem dX4_readText_10 : decode cX4_readText 10 = .ok (.putfield 25, 3) := by decide +kernel
theorem dX4_readText_13 : decode cX4_readText 13 = .ok (.aload_n 0, 1) := by decide +kernel
theorem dX4_readText_14 : decode cX4_readText 14 = .ok (.getfield 12, 3) := by decide +kernel
theorem dX4_readText_17 : decode cX4_readText 17 = .ok (.invokevirtual 61, 3) := by decide +kernel
theorem dX4_readText_20 : decode cX4_readText 20 = .ok (.aload_n 0, 1) := by decide +kernel
theorem dX4_readText_21 : decode cX4_readText 21 = .ok (.iconst 0, 1) := by decide +kernel
theorem dX4_readText_22 : decode cX4_readText 22 = .ok (.putfield 18, 3) := by decide +kernel
theorem dX4_readText_25 : decode cX4_readText 25 = .ok (.aload_n 0, 1) := by decide +kernel
theorem dX4_readText_26 : decode cX4_readText 26 = .ok (.iconst 0, 1) := by decide +kernel
theorem dX4_readText_27 : decode cX4_readText 27 = .ok (.putfield 22, 3) := by decide +kernel
theorem dX4_readText_30 : decode cX4_readText 30 = .ok (.aload_n 0, 1) := by decide +kernel
theorem dX4_readText_31 : decode cX4_readText 31 = .ok (.iconst 0, 1) := by decide +kernel
theorem dX4_readText_32 : decode cX4_readText 32 = .ok (.putfield 35, 3) := by decide +kernel
theorem dX4_readText_35 : decode cX4_readText 35 = .ok (.aload_n 0, 1) := by decide +kernel
theorem dX4_readText_36 : decode cX4_readText 36 = .ok (.iconst 0, 1) := by decide +kernel
theorem dX4_readText_37 : decode cX4_readText 37 = .ok (.putfield 39, 3) := by decide +kernel
theorem dX4_readText_40 : decode cX4_readText 40 = .ok (.iconst 0, 1) := by decide +kernel
theorem dX4_readText_41 : decode cX4_readText 41 = .ok (.istore_n 2, 1) := by decide +kernel
theorem dX4_readText_42 : decode cX4_readText 42 = .ok (.iload_n 2, 1) := by decide +kernel
theorem dX4_readText_43 : decode cX4_readText 43 = .ok (.sipush 1200, 3) := by decide +kernel
theorem dX4_readText_46 : decode cX4_readText 46 = .ok (.if_icmp .ge 57, 3) := by decide +kernel
theorem dX4_readText_49 : decode cX4_readText 49 = .ok (.aload_n 0, 1) := by decide +kernel
theorem dX4_readText_50 : decode cX4_readText 50 = .ok (.getfield 53, 3) := by decide +kernel
theorem dX4_readText_53 : decode cX4_readText 53 = .ok (.getfield 64, 3) := by decide +kernel
theorem dX4_readText_56 : decode cX4_readText 56 = .ok (.aload_n 0, 1) := by decide +kernel
theorem dX4_readText_57 : decode cX4_readText 57 = .ok (.getfield 25, 3) := by decide +kernel
theorem dX4_readText_60 : decode cX4_readText 60 = .ok (.iaload, 1) := by decide +kernel
theorem dX4_readText_61 : decode cX4_readText 61 = .ok (.ifCond .eq 42, 3) := by decide +kernel
theorem dX4_readText_64 : decode cX4_readText 64 = .ok (.aload_n 0, 1) := by decide +kernel
theorem dX4_readText_65 : decode cX4_readText 65 = .ok (.aload_n 0, 1) := by decide +kernel
theorem dX4_readText_66 : decode cX4_readText 66 = .ok (.getfield 53, 3) := by decide +kernel
theorem dX4_readText_69 : decode cX4_readText 69 = .ok (.getfield 67, 3) := by decide +kernel
theorem dX4_readText_72 : decode cX4_readText 72 = .ok (.aload_n 0, 1) := by decide +kernel
theorem dX4_readText_73 : decode cX4_readText 73 = .ok (.getfield 25, 3) := by decide +kernel
theorem dX4_readText_76 : decode cX4_readText 76 = .ok (.aaload, 1) := by decide +kernel
theorem dX4_readText_77 : decode cX4_readText 77 = .ok (.invokevirtual 71, 3) := by decide +kernel
theorem dX4_readText_80 : decode cX4_readText 80 = .ok (.ifCond .eq 10, 3) := by decide +kernel
theorem dX4_readText_83 : decode cX4_readText 83 = .ok (.aload_n 0, 1) := by decide +kernel
theorem dX4_readText_84 : decode cX4_readText 84 = .ok (.invokevirtual 75, 3) := by decide +kernel
theorem dX4_readText_87 : decode cX4_readText 87 = .ok (.ifCond .ne 10, 3) := by decide +kernel
theorem dX4_readText_90 : decode cX4_readText 90 = .ok (.iconst (-1), 1) := by decide +kernel
theorem dX4_readText_91 : decode cX4_readText 91 = .ok (.aload_n 0, 1) := by decide +kernel
theorem dX4_readText_92 : decode cX4_readText 92 = .ok (.getfield 22, 3) := by decide +kernel
theorem dX4_readText_95 : decode cX4_readText 95 = .ok (.isub, 1) := by decide +kernel
theorem dX4_readText_96 : decode cX4_readText 96 = .ok (.ireturn, 1) := by decide +kernel
theorem dX4_readText_97 : decode cX4_readText 97 = .ok (.iinc 2 1, 3) := by decide +kernel
theorem dX4_readText_100 : decode cX4_readText 100 = .ok (.goto (-58), 3) := by decide +kernel
theorem dX4_readText_103 : decode cX4_readText 103 = .ok (.iload_n 1, 1) := by decide +kernel
theorem dX4_readText_104 : decode cX4_readText 104 = .ok (.sipush 1200, 3) := by decide +kernel
theorem dX4_readText_107 : decode cX4_readText 107 = .ok (.if_icmp .le 16, 3) := by decide +kernel
theorem dX4_readText_110 : decode cX4_readText 110 = .ok (.aload_n 0, 1) := by decide +kernel
theorem dX4_readText_111 : decode cX4_readText 111 = .ok (.iconst 1, 1) := by decide +kernel
theorem dX4_readText_112 : decode cX4_readText 112 = .ok (.invokevirtual 79, 3) := by decide +kernel
theorem dX4_readText_115 : decode cX4_readText 115 = .ok (.pop, 1) := by decide +kernel
theorem dX4_readText_116 : decode cX4_readText 116 = .ok (.iconst (-1), 1) := by decide +kernel
theorem dX4_readText_117 : decode cX4_readText 117 = .ok (.aload_n 0, 1) := by decide +kernel
theorem dX4_readText_118 : decode cX4_readText 118 = .ok (.getfield 22, 3) := by decide +kernel
theorem dX4_readText_121 : decode cX4_readText 121 = .ok (.isub, 1) := by decide +kernel
theorem dX4_readText_122 : decode cX4_readText 122 = .ok (.ireturn, 1) := by decide +kernel
theorem dX4_readText_123 : decode cX4_readText 123 = .ok (.iload_n 2, 1) := by decide +kernel
theorem dX4_readText_124 : decode cX4_readText 124 = .ok (.ireturn, 1) := by decide +kernel
theorem dX4_refuse_0 : decode cX4_refuse 0 = .ok (.aload_n 0, 1) := by decide +kernel
theorem dX4_refuse_1 : decode cX4_refuse 1 = .ok (.iload_n 1, 1) := by decide +kernel
theorem dX4_refuse_2 : decode cX4_refuse 2 = .ok (.putfield 18, 3) := by decide +kernel
theorem dX4_refuse_5 : decode cX4_refuse 5 = .ok (.aload_n 0, 1) := by decide +kernel
theorem dX4_refuse_6 : decode cX4_refuse 6 = .ok (.aload_n 0, 1) := by decide +kernel
theorem dX4_refuse_7 : decode cX4_refuse 7 = .ok (.getfield 53, 3) := by decide +kernel
theorem dX4_refuse_10 : decode cX4_refuse 10 = .ok (.getfield 83, 3) := by decide +kernel
theorem dX4_refuse_13 : decode cX4_refuse 13 = .ok (.aload_n 0, 1) := by decide +kernel
theorem dX4_refuse_14 : decode cX4_refuse 14 = .ok (.getfield 25, 3) := by decide +kernel
theorem dX4_refuse_17 : decode cX4_refuse 17 = .ok (.iaload, 1) := by decide +kernel
theorem dX4_refuse_18 : decode cX4_refuse 18 = .ok (.putfield 22, 3) := by decide +kernel
theorem dX4_refuse_21 : decode cX4_refuse 21 = .ok (.iconst 0, 1) := by decide +kernel
theorem dX4_refuse_22 : decode cX4_refuse 22 = .ok (.ireturn, 1) := by decide +kernel
theorem dX4_pass_0 : decode cX4_pass 0 = .ok (.aload_n 0, 1) := by decide +kernel
theorem dX4_pass_1 : decode cX4_pass 1 = .ok (.getfield 25, 3) := by decide +kernel
theorem dX4_pass_4 : decode cX4_pass 4 = .ok (.aload_n 0, 1) := by decide +kernel
theorem dX4_pass_5 : decode cX4_pass 5 = .ok (.getfield 53, 3) := by decide +kernel
theorem dX4_pass_8 : decode cX4_pass 8 = .ok (.getfield 86, 3) := by decide +kernel
theorem dX4_pass_11 : decode cX4_pass 11 = .ok (.if_icmp .ge 13, 3) := by decide +kernel
theorem dX4_pass_14 : decode cX4_pass 14 = .ok (.aload_n 0, 1) := by decide +kernel
theorem dX4_pass_15 : decode cX4_pass 15 = .ok (.dup, 1) := by decide +kernel
theorem dX4_pass_16 : decode cX4_pass 16 = .ok (.getfield 25, 3) := by decide +kernel
theorem dX4_pass_19 : decode cX4_pass 19 = .ok (.iconst 1, 1) := by decide +kernel
theorem dX4_pass_20 : decode cX4_pass 20 = .ok (.iadd, 1) := by decide +kernel
theorem dX4_pass_21 : decode cX4_pass 21 = .ok (.putfield 25, 3) := by decide +kernel
theorem dX4_pass_24 : decode cX4_pass 24 = .ok (.return_, 1) := by decide +kernel
theorem dX4_passSemicolon_0 : decode cX4_passSemicolon 0 = .ok (.aload_n 0, 1) := by decide +kernel
theorem dX4_passSemicolon_1 : decode cX4_passSemicolon 1 = .ok (.getfield 53, 3) := by decide +kernel
theorem dX4_passSemicolon_4 : decode cX4_passSemicolon 4 = .ok (.getfield 64, 3) := by decide +kernel
theorem dX4_passSemicolon_7 : decode cX4_passSemicolon 7 = .ok (.aload_n 0, 1) := by decide +kernel
theorem dX4_passSemicolon_8 : decode cX4_passSemicolon 8 = .ok (.getfield 25, 3) := by decide +kernel
theorem dX4_passSemicolon_11 : decode cX4_passSemicolon 11 = .ok (.iaload, 1) := by decide +kernel
theorem dX4_passSemicolon_12 : decode cX4_passSemicolon 12 = .ok (.iconst 2, 1) := by decide +kernel
theorem dX4_passSemicolon_13 : decode cX4_passSemicolon 13 = .ok (.if_icmp .eq 9, 3) := by decide +kernel
theorem dX4_passSemicolon_16 : decode cX4_passSemicolon 16 = .ok (.aload_n 0, 1) := by decide +kernel
theorem dX4_passSemicolon_17 : decode cX4_passSemicolon 17 = .ok (.iconst 1, 1) := by decide +kernel
theorem dX4_passSemicolon_18 : decode cX4_passSemicolon 18 = .ok (.invokevirtual 79, 3) := by decide +kernel
theorem dX4_passSemicolon_21 : decode cX4_passSemicolon 21 = .ok (.ireturn, 1) := by decide +kernel
theorem dX4_passSemicolon_22 : decode cX4_passSemicolon 22 = .ok (.aload_n 0, 1) := by decide +kernel
theorem dX4_passSemicolon_23 : decode cX4_passSemicolon 23 = .ok (.invokevirtual 89, 3) := by decide +kernel
theorem dX4_passSemicolon_26 : decode cX4_passSemicolon 26 = .ok (.iconst 1, 1) := by decide +kernel
theorem dX4_passSemicolon_27 : decode cX4_passSemicolon 27 = .ok (.ireturn, 1) := by decide +kernel
theorem dX4_readLine_0 : decode cX4_readLine 0 = .ok (.aload_n 1, 1) := by decide +kernel
theorem dX4_readLine_1 : decode cX4_readLine 1 = .ok (.getstatic 92, 3) := by decide +kernel
theorem dX4_readLine_4 : decode cX4_readLine 4 = .ok (.if_acmp .ne 8, 3) := by decide +kernel
theorem dX4_readLine_7 : decode cX4_readLine 7 = .ok (.aload_n 0, 1) := by decide +kernel
theorem dX4_readLine_8 : decode cX4_readLine 8 = .ok (.invokevirtual 98, 3) := by decide +kernel
theorem dX4_readLine_11 : decode cX4_readLine 11 = .ok (.ireturn, 1) := by decide +kernel
theorem dX4_readLine_12 : decode cX4_readLine 12 = .ok (.aload_n 1, 1) := by decide +kernel
theorem dX4_readLine_13 : decode cX4_readLine 13 = .ok (.getstatic 101, 3) := by decide +kernel
theorem dX4_readLine_16 : decode cX4_readLine 16 = .ok (.if_acmp .ne 8, 3) := by decide +kernel
theorem dX4_readLine_19 : decode cX4_readLine 19 = .ok (.aload_n 0, 1) := by decide +kernel
theorem dX4_readLine_20 : decode cX4_readLine 20 = .ok (.invokevirtual 104, 3) := by decide +kernel
theorem dX4_readLine_23 : decode cX4_readLine 23 = .ok (.ireturn, 1) := by decide +kernel
theorem dX4_readLine_24 : decode cX4_readLine 24 = .ok (.aload_n 1, 1) := by decide +kernel
theorem dX4_readLine_25 : decode cX4_readLine 25 = .ok (.getstatic 107, 3) := by decide +kernel
theorem dX4_readLine_28 : decode cX4_readLine 28 = .ok (.if_acmp .ne 8, 3) := by decide +kernel
theorem dX4_readLine_31 : decode cX4_readLine 31 = .ok (.aload_n 0, 1) := by decide +kernel
theorem dX4_readLine_32 : decode cX4_readLine 32 = .ok (.invokevirtual 110, 3) := by decide +kernel
theorem dX4_readLine_35 : decode cX4_readLine 35 = .ok (.ireturn, 1) := by decide +kernel
theorem dX4_readLine_36 : decode cX4_readLine 36 = .ok (.aload_n 1, 1) := by decide +kernel
theorem dX4_readLine_37 : decode cX4_readLine 37 = .ok (.getstatic 113, 3) := by decide +kernel
theorem dX4_readLine_40 : decode cX4_readLine 40 = .ok (.if_acmp .ne 8, 3) := by decide +kernel
theorem dX4_readLine_43 : decode cX4_readLine 43 = .ok (.aload_n 0, 1) := by decide +kernel
theorem dX4_readLine_44 : decode cX4_readLine 44 = .ok (.invokevirtual 116, 3) := by decide +kernel
theorem dX4_readLine_47 : decode cX4_readLine 47 = .ok (.ireturn, 1) := by decide +kernel
theorem dX4_readLine_48 : decode cX4_readLine 48 = .ok (.aload_n 1, 1) := by decide +kernel
theorem dX4_readLine_49 : decode cX4_readLine 49 = .ok (.getstatic 119, 3) := by decide +kernel
theorem dX4_readLine_52 : decode cX4_readLine 52 = .ok (.if_acmp .ne 8, 3) := by decide +kernel
theorem dX4_readLine_55 : decode cX4_readLine 55 = .ok (.aload_n 0, 1) := by decide +kernel
theorem dX4_readLine_56 : decode cX4_readLine 56 = .ok (.invokevirtual 122, 3) := by decide +kernel
theorem dX4_readLine_59 : decode cX4_readLine 59 = .ok (.ireturn, 1) := by decide +kernel
theorem dX4_readLine_60 : decode cX4_readLine 60 = .ok (.aload_n 1, 1) := by decide +kernel
theorem dX4_readLine_61 : decode cX4_readLine 61 = .ok (.getstatic 125, 3) := by decide +kernel
theorem dX4_readLine_64 : decode cX4_readLine 64 = .ok (.if_acmp .ne 8, 3) := by decide +kernel
theorem dX4_readLine_67 : decode cX4_readLine 67 = .ok (.aload_n 0, 1) := by decide +kernel
theorem dX4_readLine_68 : decode cX4_readLine 68 = .ok (.invokevirtual 128, 3) := by decide +kernel
theorem dX4_readLine_71 : decode cX4_readLine 71 = .ok (.ireturn, 1) := by decide +kernel
theorem dX4_readLine_72 : decode cX4_readLine 72 = .ok (.aload_n 1, 1) := by decide +kernel
theorem dX4_readLine_73 : decode cX4_readLine 73 = .ok (.getstatic 131, 3) := by decide +kernel
theorem dX4_readLine_76 : decode cX4_readLine 76 = .ok (.if_acmp .ne 10, 3) := by decide +kernel
theorem dX4_readLine_79 : decode cX4_readLine 79 = .ok (.aload_n 0, 1) := by decide +kernel
theorem dX4_readLine_80 : decode cX4_readLine 80 = .ok (.invokevirtual 134, 3) := by decide +kernel
theorem dX4_readLine_83 : decode cX4_readLine 83 = .ok (.goto 8, 3) := by decide +kernel
theorem dX4_readLine_86 : decode cX4_readLine 86 = .ok (.aload_n 0, 1) := by decide +kernel
theorem dX4_readLine_87 : decode cX4_readLine 87 = .ok (.iconst 1, 1) := by decide +kernel
theorem dX4_readLine_88 : decode cX4_readLine 88 = .ok (.invokevirtual 79, 3) := by decide +kernel
theorem dX4_readLine_91 : decode cX4_readLine 91 = .ok (.ireturn, 1) := by decide +kernel
theorem dX4_readLand_0 : decode cX4_readLand 0 = .ok (.aload_n 0, 1) := by decide +kernel
theorem dX4_readLand_1 : decode cX4_readLand 1 = .ok (.getfield 12, 3) := by decide +kernel
theorem dX4_readLand_4 : decode cX4_readLand 4 = .ok (.getfield 137, 3) := by decide +kernel
theorem dX4_readLand_7 : decode cX4_readLand 7 = .ok (.bipush 8, 2) := by decide +kernel
theorem dX4_readLand_9 : decode cX4_readLand 9 = .ok (.if_icmp .lt 9, 3) := by decide +kernel
theorem dX4_readLand_12 : decode cX4_readLand 12 = .ok (.aload_n 0, 1) := by decide +kernel
theorem dX4_readLand_13 : decode cX4_readLand 13 = .ok (.iconst 4, 1) := by decide +kernel
theorem dX4_readLand_14 : decode cX4_readLand 14 = .ok (.invokevirtual 79, 3) := by decide +kernel
theorem dX4_readLand_17 : decode cX4_readLand 17 = .ok (.ireturn, 1) := by decide +kernel
theorem dX4_readLand_18 : decode cX4_readLand 18 = .ok (.aload_n 0, 1) := by decide +kernel
theorem dX4_readLand_19 : decode cX4_readLand 19 = .ok (.invokevirtual 89, 3) := by decide +kernel
theorem dX4_readLand_22 : decode cX4_readLand 22 = .ok (.aload_n 0, 1) := by decide +kernel
theorem dX4_readLand_23 : decode cX4_readLand 23 = .ok (.invokevirtual 140, 3) := by decide +kernel
theorem dX4_readLand_26 : decode cX4_readLand 26 = .ok (.ifCond .ne 5, 3) := by decide +kernel
theorem dX4_readLand_29 : decode cX4_readLand 29 = .ok (.iconst 0, 1) := by decide +kernel
theorem dX4_readLand_30 : decode cX4_readLand 30 = .ok (.ireturn, 1) := by decide +kernel
theorem dX4_readLand_31 : decode cX4_readLand 31 = .ok (.aload_n 0, 1) := by decide +kernel
theorem dX4_readLand_32 : decode cX4_readLand 32 = .ok (.getfield 28, 3) := by decide +kernel
theorem dX4_readLand_35 : decode cX4_readLand 35 = .ok (.aload_n 0, 1) := by decide +kernel
theorem dX4_readLand_36 : decode cX4_readLand 36 = .ok (.getfield 12, 3) := by decide +kernel
theorem dX4_readLand_39 : decode cX4_readLand 39 = .ok (.getfield 137, 3) := by decide +kernel
theorem dX4_readLand_42 : decode cX4_readLand 42 = .ok (.aload_n 0, 1) := by decide +kernel
theorem dX4_readLand_43 : decode cX4_readLand 43 = .ok (.getfield 53, 3) := by decide +kernel
theorem dX4_readLand_46 : decode cX4_readLand 46 = .ok (.getfield 143, 3) := by decide +kernel
theorem dX4_readLand_49 : decode cX4_readLand 49 = .ok (.aload_n 0, 1) := by decide +kernel
theorem dX4_readLand_50 : decode cX4_readLand 50 = .ok (.getfield 25, 3) := by decide +kernel
theorem dX4_readLand_53 : decode cX4_readLand 53 = .ok (.iaload, 1) := by decide +kernel
theorem dX4_readLand_54 : decode cX4_readLand 54 = .ok (.iastore, 1) := by decide +kernel
theorem dX4_readLand_55 : decode cX4_readLand 55 = .ok (.aload_n 0, 1) := by decide +kernel
theorem dX4_readLand_56 : decode cX4_readLand 56 = .ok (.getfield 12, 3) := by decide +kernel
theorem dX4_readLand_59 : decode cX4_readLand 59 = .ok (.dup, 1) := by decide +kernel
theorem dX4_readLand_60 : decode cX4_readLand 60 = .ok (.getfield 137, 3) := by decide +kernel
theorem dX4_readLand_63 : decode cX4_readLand 63 = .ok (.iconst 1, 1) := by decide +kernel
theorem dX4_readLand_64 : decode cX4_readLand 64 = .ok (.iadd, 1) := by decide +kernel
theorem dX4_readLand_65 : decode cX4_readLand 65 = .ok (.putfield 137, 3) := by decide +kernel
theorem dX4_readLand_68 : decode cX4_readLand 68 = .ok (.aload_n 0, 1) := by decide +kernel
theorem dX4_readLand_69 : decode cX4_readLand 69 = .ok (.invokevirtual 89, 3) := by decide +kernel
theorem dX4_readLand_72 : decode cX4_readLand 72 = .ok (.iconst 1, 1) := by decide +kernel
theorem dX4_readLand_73 : decode cX4_readLand 73 = .ok (.ireturn, 1) := by decide +kernel
theorem dX4_readThing_0 : decode cX4_readThing 0 = .ok (.aload_n 0, 1) := by decide +kernel
theorem dX4_readThing_1 : decode cX4_readThing 1 = .ok (.getfield 12, 3) := by decide +kernel
theorem dX4_readThing_4 : decode cX4_readThing 4 = .ok (.getfield 146, 3) := by decide +kernel
theorem dX4_readThing_7 : decode cX4_readThing 7 = .ok (.bipush 16, 2) := by decide +kernel
theorem dX4_readThing_9 : decode cX4_readThing 9 = .ok (.if_icmp .lt 9, 3) := by decide +kernel
theorem dX4_readThing_12 : decode cX4_readThing 12 = .ok (.aload_n 0, 1) := by decide +kernel
theorem dX4_readThing_13 : decode cX4_readThing 13 = .ok (.iconst 4, 1) := by decide +kernel
theorem dX4_readThing_14 : decode cX4_readThing 14 = .ok (.invokevirtual 79, 3) := by decide +kernel
theorem dX4_readThing_17 : decode cX4_readThing 17 = .ok (.ireturn, 1) := by decide +kernel
theorem dX4_readThing_18 : decode cX4_readThing 18 = .ok (.aload_n 0, 1) := by decide +kernel
theorem dX4_readThing_19 : decode cX4_readThing 19 = .ok (.invokevirtual 89, 3) := by decide +kernel
theorem dX4_readThing_22 : decode cX4_readThing 22 = .ok (.aload_n 0, 1) := by decide +kernel
theorem dX4_readThing_23 : decode cX4_readThing 23 = .ok (.invokevirtual 140, 3) := by decide +kernel
theorem dX4_readThing_26 : decode cX4_readThing 26 = .ok (.ifCond .ne 5, 3) := by decide +kernel
theorem dX4_readThing_29 : decode cX4_readThing 29 = .ok (.iconst 0, 1) := by decide +kernel
theorem dX4_readThing_30 : decode cX4_readThing 30 = .ok (.ireturn, 1) := by decide +kernel
theorem dX4_readThing_31 : decode cX4_readThing 31 = .ok (.aload_n 0, 1) := by decide +kernel
theorem dX4_readThing_32 : decode cX4_readThing 32 = .ok (.getfield 12, 3) := by decide +kernel
theorem dX4_readThing_35 : decode cX4_readThing 35 = .ok (.getfield 146, 3) := by decide +kernel
theorem dX4_readThing_38 : decode cX4_readThing 38 = .ok (.istore_n 1, 1) := by decide +kernel
theorem dX4_readThing_39 : decode cX4_readThing 39 = .ok (.aload_n 0, 1) := by decide +kernel
theorem dX4_readThing_40 : decode cX4_readThing 40 = .ok (.getfield 32, 3) := by decide +kernel
theorem dX4_readThing_43 : decode cX4_readThing 43 = .ok (.iload_n 1, 1) := by decide +kernel
theorem dX4_readThing_44 : decode cX4_readThing 44 = .ok (.aload_n 0, 1) := by decide +kernel
theorem dX4_readThing_45 : decode cX4_readThing 45 = .ok (.getfield 53, 3) := by decide +kernel
theorem dX4_readThing_48 : decode cX4_readThing 48 = .ok (.getfield 143, 3) := by decide +kernel
theorem dX4_readThing_51 : decode cX4_readThing 51 = .ok (.aload_n 0, 1) := by decide +kernel
theorem dX4_readThing_52 : decode cX4_readThing 52 = .ok (.getfield 25, 3) := by decide +kernel
theorem dX4_readThing_55 : decode cX4_readThing 55 = .ok (.iaload, 1) := by decide +kernel
theorem dX4_readThing_56 : decode cX4_readThing 56 = .ok (.iastore, 1) := by decide +kernel
theorem dX4_readThing_57 : decode cX4_readThing 57 = .ok (.aload_n 0, 1) := by decide +kernel
theorem dX4_readThing_58 : decode cX4_readThing 58 = .ok (.invokevirtual 89, 3) := by decide +kernel
theorem dX4_readThing_61 : decode cX4_readThing 61 = .ok (.aload_n 0, 1) := by decide +kernel
theorem dX4_readThing_62 : decode cX4_readThing 62 = .ok (.aload_n 0, 1) := by decide +kernel
theorem dX4_readThing_63 : decode cX4_readThing 63 = .ok (.getfield 28, 3) := by decide +kernel
theorem dX4_readThing_66 : decode cX4_readThing 66 = .ok (.aload_n 0, 1) := by decide +kernel
theorem dX4_readThing_67 : decode cX4_readThing 67 = .ok (.getfield 12, 3) := by decide +kernel
theorem dX4_readThing_70 : decode cX4_readThing 70 = .ok (.getfield 137, 3) := by decide +kernel
theorem dX4_readThing_73 : decode cX4_readThing 73 = .ok (.invokevirtual 149, 3) := by decide +kernel
theorem dX4_readThing_76 : decode cX4_readThing 76 = .ok (.istore_n 2, 1) := by decide +kernel
theorem dX4_readThing_77 : decode cX4_readThing 77 = .ok (.iload_n 2, 1) := by decide +kernel
theorem dX4_readThing_78 : decode cX4_readThing 78 = .ok (.iconst (-1), 1) := by decide +kernel
theorem dX4_readThing_79 : decode cX4_readThing 79 = .ok (.if_icmp .ne 5, 3) := by decide +kernel
theorem dX4_readThing_82 : decode cX4_readThing 82 = .ok (.iconst 0, 1) := by decide +kernel
theorem dX4_readThing_83 : decode cX4_readThing 83 = .ok (.ireturn, 1) := by decide +kernel
theorem dX4_readThing_84 : decode cX4_readThing 84 = .ok (.aload_n 0, 1) := by decide +kernel
theorem dX4_readThing_85 : decode cX4_readThing 85 = .ok (.invokevirtual 89, 3) := by decide +kernel
theorem dX4_readThing_88 : decode cX4_readThing 88 = .ok (.aload_n 0, 1) := by decide +kernel
theorem dX4_readThing_89 : decode cX4_readThing 89 = .ok (.getfield 12, 3) := by decide +kernel
theorem dX4_readThing_92 : decode cX4_readThing 92 = .ok (.iload_n 2, 1) := by decide +kernel
theorem dX4_readThing_93 : decode cX4_readThing 93 = .ok (.invokevirtual 153, 3) := by decide +kernel
theorem dX4_readThing_96 : decode cX4_readThing 96 = .ok (.aload_n 0, 1) := by decide +kernel
theorem dX4_readThing_97 : decode cX4_readThing 97 = .ok (.iconst 0, 1) := by decide +kernel
theorem dX4_readThing_98 : decode cX4_readThing 98 = .ok (.putfield 42, 3) := by decide +kernel
theorem dX4_readThing_101 : decode cX4_readThing 101 = .ok (.aload_n 0, 1) := by decide +kernel
theorem dX4_readThing_102 : decode cX4_readThing 102 = .ok (.iload_n 1, 1) := by decide +kernel
theorem dX4_readThing_103 : decode cX4_readThing 103 = .ok (.iconst 1, 1) := by decide +kernel
theorem dX4_readThing_104 : decode cX4_readThing 104 = .ok (.iconst 0, 1) := by decide +kernel
theorem dX4_readThing_105 : decode cX4_readThing 105 = .ok (.sipush 3599, 3) := by decide +kernel
theorem dX4_readThing_108 : decode cX4_readThing 108 = .ok (.invokevirtual 156, 3) := by decide +kernel
theorem dX4_readThing_111 : decode cX4_readThing 111 = .ok (.ifCond .eq 20, 3) := by decide +kernel
theorem dX4_readThing_114 : decode cX4_readThing 114 = .ok (.aload_n 0, 1) := by decide +kernel
theorem dX4_readThing_115 : decode cX4_readThing 115 = .ok (.iload_n 1, 1) := by decide +kernel
theorem dX4_readThing_116 : decode cX4_readThing 116 = .ok (.iconst 2, 1) := by decide +kernel
theorem dX4_readThing_117 : decode cX4_readThing 117 = .ok (.iconst 0, 1) := by decide +kernel
theorem dX4_readThing_118 : decode cX4_readThing 118 = .ok (.sipush 3599, 3) := by decide +kernel
theorem dX4_readThing_121 : decode cX4_readThing 121 = .ok (.invokevirtual 156, 3) := by decide +kernel
theorem dX4_readThing_124 : decode cX4_readThing 124 = .ok (.ifCond .eq 7, 3) := by decide +kernel
theorem dX4_readThing_127 : decode cX4_readThing 127 = .ok (.iconst 1, 1) := by decide +kernel
theorem dX4_readThing_128 : decode cX4_readThing 128 = .ok (.goto 4, 3) := by decide +kernel
theorem dX4_readThing_131 : decode cX4_readThing 131 = .ok (.iconst 0, 1) := by decide +kernel
theorem dX4_readThing_132 : decode cX4_readThing 132 = .ok (.istore_n 3, 1) := by decide +kernel
theorem dX4_readThing_133 : decode cX4_readThing 133 = .ok (.iconst 0, 1) := by decide +kernel
theorem dX4_readThing_134 : decode cX4_readThing 134 = .ok (.istore 4, 2) := by decide +kernel
theorem dX4_readThing_136 : decode cX4_readThing 136 = .ok (.iload 4, 2) := by decide +kernel
theorem dX4_readThing_138 : decode cX4_readThing 138 = .ok (.sipush 1200, 3) := by decide +kernel
theorem dX4_readThing_141 : decode cX4_readThing 141 = .ok (.if_icmp .ge 47, 3) := by decide +kernel
theorem dX4_readThing_144 : decode cX4_readThing 144 = .ok (.iload_n 3, 1) := by decide +kernel
theorem dX4_readThing_145 : decode cX4_readThing 145 = .ok (.ifCond .eq 43, 3) := by decide +kernel
theorem dX4_readThing_148 : decode cX4_readThing 148 = .ok (.aload_n 0, 1) := by decide +kernel
theorem dX4_readThing_149 : decode cX4_readThing 149 = .ok (.getfield 53, 3) := by decide +kernel
theorem dX4_readThing_152 : decode cX4_readThing 152 = .ok (.getfield 64, 3) := by decide +kernel
theorem dX4_readThing_155 : decode cX4_readThing 155 = .ok (.aload_n 0, 1) := by decide +kernel
theorem dX4_readThing_156 : decode cX4_readThing 156 = .ok (.getfield 25, 3) := by decide +kernel
theorem dX4_readThing_159 : decode cX4_readThing 159 = .ok (.iaload, 1) := by decide +kernel
theorem dX4_readThing_160 : decode cX4_readThing 160 = .ok (.iconst 2, 1) := by decide +kernel
theorem dX4_readThing_161 : decode cX4_readThing 161 = .ok (.if_icmp .eq 27, 3) := by decide +kernel
theorem dX4_readThing_164 : decode cX4_readThing 164 = .ok (.aload_n 0, 1) := by decide +kernel
theorem dX4_readThing_165 : decode cX4_readThing 165 = .ok (.iload_n 1, 1) := by decide +kernel
theorem dX4_readThing_166 : decode cX4_readThing 166 = .ok (.aload_n 0, 1) := by decide +kernel
theorem dX4_readThing_167 : decode cX4_readThing 167 = .ok (.getfield 53, 3) := by decide +kernel
theorem dX4_readThing_170 : decode cX4_readThing 170 = .ok (.getfield 67, 3) := by decide +kernel
theorem dX4_readThing_173 : decode cX4_readThing 173 = .ok (.aload_n 0, 1) := by decide +kernel
theorem dX4_readThing_174 : decode cX4_readThing 174 = .ok (.getfield 25, 3) := by decide +kernel
theorem dX4_readThing_177 : decode cX4_readThing 177 = .ok (.aaload, 1) := by decide +kernel
theorem dX4_readThing_178 : decode cX4_readThing 178 = .ok (.invokevirtual 160, 3) := by decide +kernel
theorem dX4_readThing_181 : decode cX4_readThing 181 = .ok (.istore_n 3, 1) := by decide +kernel
theorem dX4_readThing_182 : decode cX4_readThing 182 = .ok (.iinc 4 1, 3) := by decide +kernel
theorem dX4_readThing_185 : decode cX4_readThing 185 = .ok (.goto (-49), 3) := by decide +kernel
theorem dX4_readThing_188 : decode cX4_readThing 188 = .ok (.iload_n 3, 1) := by decide +kernel
theorem dX4_readThing_189 : decode cX4_readThing 189 = .ok (.ireturn, 1) := by decide +kernel
theorem dX4_readPart_0 : decode cX4_readPart 0 = .ok (.aload_n 2, 1) := by decide +kernel
theorem dX4_readPart_1 : decode cX4_readPart 1 = .ok (.getstatic 164, 3) := by decide +kernel
theorem dX4_readPart_4 : decode cX4_readPart 4 = .ok (.if_acmp .ne 9, 3) := by decide +kernel
theorem dX4_readPart_7 : decode cX4_readPart 7 = .ok (.aload_n 0, 1) := by decide +kernel
theorem dX4_readPart_8 : decode cX4_readPart 8 = .ok (.iload_n 1, 1) := by decide +kernel
theorem dX4_readPart_9 : decode cX4_readPart 9 = .ok (.invokevirtual 167, 3) := by decide +kernel
theorem dX4_readPart_12 : decode cX4_readPart 12 = .ok (.ireturn, 1) := by decide +kernel
theorem dX4_readPart_13 : decode cX4_readPart 13 = .ok (.aload_n 2, 1) := by decide +kernel
theorem dX4_readPart_14 : decode cX4_readPart 14 = .ok (.getstatic 170, 3) := by decide +kernel
theorem dX4_readPart_17 : decode cX4_readPart 17 = .ok (.if_acmp .ne 9, 3) := by decide +kernel
theorem dX4_readPart_20 : decode cX4_readPart 20 = .ok (.aload_n 0, 1) := by decide +kernel
theorem dX4_readPart_21 : decode cX4_readPart 21 = .ok (.iload_n 1, 1) := by decide +kernel
theorem dX4_readPart_22 : decode cX4_readPart 22 = .ok (.invokevirtual 173, 3) := by decide +kernel
theorem dX4_readPart_25 : decode cX4_readPart 25 = .ok (.ireturn, 1) := by decide +kernel
theorem dX4_readPart_26 : decode cX4_readPart 26 = .ok (.aload_n 2, 1) := by decide +kernel
theorem dX4_readPart_27 : decode cX4_readPart 27 = .ok (.getstatic 176, 3) := by decide +kernel
theorem dX4_readPart_30 : decode cX4_readPart 30 = .ok (.if_acmp .ne 46, 3) := by decide +kernel
theorem dX4_readPart_33 : decode cX4_readPart 33 = .ok (.aload_n 0, 1) := by decide +kernel
theorem dX4_readPart_34 : decode cX4_readPart 34 = .ok (.bipush 8, 2) := by decide +kernel
theorem dX4_readPart_36 : decode cX4_readPart 36 = .ok (.invokevirtual 179, 3) := by decide +kernel
theorem dX4_readPart_39 : decode cX4_readPart 39 = .ok (.ifCond .eq 35, 3) := by decide +kernel
theorem dX4_readPart_42 : decode cX4_readPart 42 = .ok (.aload_n 0, 1) := by decide +kernel
theorem dX4_readPart_43 : decode cX4_readPart 43 = .ok (.iload_n 1, 1) := by decide +kernel
theorem dX4_readPart_44 : decode cX4_readPart 44 = .ok (.bipush 8, 2) := by decide +kernel
theorem dX4_readPart_46 : decode cX4_readPart 46 = .ok (.iconst 0, 1) := by decide +kernel
theorem dX4_readPart_47 : decode cX4_readPart 47 = .ok (.sipush 300, 3) := by decide +kernel
theorem dX4_readPart_50 : decode cX4_readPart 50 = .ok (.invokevirtual 156, 3) := by decide +kernel
theorem dX4_readPart_53 : decode cX4_readPart 53 = .ok (.ifCond .eq 21, 3) := by decide +kernel
theorem dX4_readPart_56 : decode cX4_readPart 56 = .ok (.aload_n 0, 1) := by decide +kernel
theorem dX4_readPart_57 : decode cX4_readPart 57 = .ok (.iload_n 1, 1) := by decide +kernel
theorem dX4_readPart_58 : decode cX4_readPart 58 = .ok (.bipush 9, 2) := by decide +kernel
theorem dX4_readPart_60 : decode cX4_readPart 60 = .ok (.iconst 4, 1) := by decide +kernel
theorem dX4_readPart_61 : decode cX4_readPart 61 = .ok (.sipush 999, 3) := by decide +kernel
theorem dX4_readPart_64 : decode cX4_readPart 64 = .ok (.invokevirtual 156, 3) := by decide +kernel
theorem dX4_readPart_67 : decode cX4_readPart 67 = .ok (.ifCond .eq 7, 3) := by decide +kernel
theorem dX4_readPart_70 : decode cX4_readPart 70 = .ok (.iconst 1, 1) := by decide +kernel
theorem dX4_readPart_71 : decode cX4_readPart 71 = .ok (.goto 4, 3) := by decide +kernel
theorem dX4_readPart_74 : decode cX4_readPart 74 = .ok (.iconst 0, 1) := by decide +kernel
theorem dX4_readPart_75 : decode cX4_readPart 75 = .ok (.ireturn, 1) := by decide +kernel
theorem dX4_readPart_76 : decode cX4_readPart 76 = .ok (.aload_n 2, 1) := by decide +kernel
theorem dX4_readPart_77 : decode cX4_readPart 77 = .ok (.ifnull 11, 3) := by decide +kernel
theorem dX4_readPart_80 : decode cX4_readPart 80 = .ok (.aload_n 2, 1) := by decide +kernel
theorem dX4_readPart_81 : decode cX4_readPart 81 = .ok (.getfield 182, 3) := by decide +kernel
theorem dX4_readPart_84 : decode cX4_readPart 84 = .ok (.iconst (-1), 1) := by decide +kernel
theorem dX4_readPart_85 : decode cX4_readPart 85 = .ok (.if_icmp .ne 9, 3) := by decide +kernel
theorem dX4_readPart_88 : decode cX4_readPart 88 = .ok (.aload_n 0, 1) := by decide +kernel
theorem dX4_readPart_89 : decode cX4_readPart 89 = .ok (.iconst 1, 1) := by decide +kernel
theorem dX4_readPart_90 : decode cX4_readPart 90 = .ok (.invokevirtual 79, 3) := by decide +kernel
theorem dX4_readPart_93 : decode cX4_readPart 93 = .ok (.ireturn, 1) := by decide +kernel
theorem dX4_readPart_94 : decode cX4_readPart 94 = .ok (.aload_n 0, 1) := by decide +kernel
theorem dX4_readPart_95 : decode cX4_readPart 95 = .ok (.aload_n 2, 1) := by decide +kernel
theorem dX4_readPart_96 : decode cX4_readPart 96 = .ok (.getfield 182, 3) := by decide +kernel
theorem dX4_readPart_99 : decode cX4_readPart 99 = .ok (.invokevirtual 179, 3) := by decide +kernel
theorem dX4_readPart_102 : decode cX4_readPart 102 = .ok (.ifCond .eq 27, 3) := by decide +kernel
theorem dX4_readPart_105 : decode cX4_readPart 105 = .ok (.aload_n 0, 1) := by decide +kernel
theorem dX4_readPart_106 : decode cX4_readPart 106 = .ok (.iload_n 1, 1) := by decide +kernel
theorem dX4_readPart_107 : decode cX4_readPart 107 = .ok (.aload_n 2, 1) := by decide +kernel
theorem dX4_readPart_108 : decode cX4_readPart 108 = .ok (.getfield 182, 3) := by decide +kernel
theorem dX4_readPart_111 : decode cX4_readPart 111 = .ok (.aload_n 2, 1) := by decide +kernel
theorem dX4_readPart_112 : decode cX4_readPart 112 = .ok (.getfield 185, 3) := by decide +kernel
theorem dX4_readPart_115 : decode cX4_readPart 115 = .ok (.aload_n 2, 1) := by decide +kernel
theorem dX4_readPart_116 : decode cX4_readPart 116 = .ok (.getfield 188, 3) := by decide +kernel
theorem dX4_readPart_119 : decode cX4_readPart 119 = .ok (.invokevirtual 156, 3) := by decide +kernel
theorem dX4_readPart_122 : decode cX4_readPart 122 = .ok (.ifCond .eq 7, 3) := by decide +kernel
theorem dX4_readPart_125 : decode cX4_readPart 125 = .ok (.iconst 1, 1) := by decide +kernel
theorem dX4_readPart_126 : decode cX4_readPart 126 = .ok (.goto 4, 3) := by decide +kernel
theorem dX4_readPart_129 : decode cX4_readPart 129 = .ok (.iconst 0, 1) := by decide +kernel
theorem dX4_readPart_130 : decode cX4_readPart 130 = .ok (.ireturn, 1) := by decide +kernel
theorem dX4_readGround_0 : decode cX4_readGround 0 = .ok (.aload_n 0, 1) := by decide +kernel
theorem dX4_readGround_1 : decode cX4_readGround 1 = .ok (.invokevirtual 89, 3) := by decide +kernel
theorem dX4_readGround_4 : decode cX4_readGround 4 = .ok (.aload_n 0, 1) := by decide +kernel
theorem dX4_readGround_5 : decode cX4_readGround 5 = .ok (.iconst 0, 1) := by decide +kernel
theorem dX4_readGround_6 : decode cX4_readGround 6 = .ok (.bipush 39, 2) := by decide +kernel
theorem dX4_readGround_8 : decode cX4_readGround 8 = .ok (.invokevirtual 191, 3) := by decide +kernel
theorem dX4_readGround_11 : decode cX4_readGround 11 = .ok (.ifCond .ne 5, 3) := by decide +kernel
theorem dX4_readGround_14 : decode cX4_readGround 14 = .ok (.iconst 0, 1) := by decide +kernel
theorem dX4_readGround_15 : decode cX4_readGround 15 = .ok (.ireturn, 1) := by decide +kernel
theorem dX4_readGround_16 : decode cX4_readGround 16 = .ok (.aload_n 0, 1) := by decide +kernel
theorem dX4_readGround_17 : decode cX4_readGround 17 = .ok (.getfield 45, 3) := by decide +kernel
theorem dX4_readGround_20 : decode cX4_readGround 20 = .ok (.istore_n 2, 1) := by decide +kernel
theorem dX4_readGround_21 : decode cX4_readGround 21 = .ok (.aload_n 0, 1) := by decide +kernel
theorem dX4_readGround_22 : decode cX4_readGround 22 = .ok (.invokevirtual 89, 3) := by decide +kernel
theorem dX4_readGround_25 : decode cX4_readGround 25 = .ok (.aload_n 0, 1) := by decide +kernel
theorem dX4_readGround_26 : decode cX4_readGround 26 = .ok (.iload_n 2, 1) := by decide +kernel
theorem dX4_readGround_27 : decode cX4_readGround 27 = .ok (.bipush 39, 2) := by decide +kernel
theorem dX4_readGround_29 : decode cX4_readGround 29 = .ok (.invokevirtual 191, 3) := by decide +kernel
theorem dX4_readGround_32 : decode cX4_readGround 32 = .ok (.ifCond .ne 5, 3) := by decide +kernel
theorem dX4_readGround_35 : decode cX4_readGround 35 = .ok (.iconst 0, 1) := by decide +kernel
theorem dX4_readGround_36 : decode cX4_readGround 36 = .ok (.ireturn, 1) := by decide +kernel
theorem dX4_readGround_37 : decode cX4_readGround 37 = .ok (.aload_n 0, 1) := by decide +kernel
theorem dX4_readGround_38 : decode cX4_readGround 38 = .ok (.invokevirtual 89, 3) := by decide +kernel
theorem dX4_readGround_41 : decode cX4_readGround 41 = .ok (.aload_n 0, 1) := by decide +kernel
theorem dX4_readGround_42 : decode cX4_readGround 42 = .ok (.getfield 12, 3) := by decide +kernel
theorem dX4_readGround_45 : decode cX4_readGround 45 = .ok (.iload_n 1, 1) := by decide +kernel
theorem dX4_readGround_46 : decode cX4_readGround 46 = .ok (.iload_n 2, 1) := by decide +kernel
theorem dX4_readGround_47 : decode cX4_readGround 47 = .ok (.aload_n 0, 1) := by decide +kernel
theorem dX4_readGround_48 : decode cX4_readGround 48 = .ok (.getfield 45, 3) := by decide +kernel
theorem dX4_readGround_51 : decode cX4_readGround 51 = .ok (.invokevirtual 195, 3) := by decide +kernel
theorem dX4_readGround_54 : decode cX4_readGround 54 = .ok (.iconst 1, 1) := by decide +kernel
theorem dX4_readGround_55 : decode cX4_readGround 55 = .ok (.ireturn, 1) := by decide +kernel
theorem dX4_readVoice_0 : decode cX4_readVoice 0 = .ok (.aload_n 0, 1) := by decide +kernel
theorem dX4_readVoice_1 : decode cX4_readVoice 1 = .ok (.invokevirtual 89, 3) := by decide +kernel
theorem dX4_readVoice_4 : decode cX4_readVoice 4 = .ok (.aload_n 0, 1) := by decide +kernel
theorem dX4_readVoice_5 : decode cX4_readVoice 5 = .ok (.iconst 0, 1) := by decide +kernel
theorem dX4_readVoice_6 : decode cX4_readVoice 6 = .ok (.iconst 3, 1) := by decide +kernel
theorem dX4_readVoice_7 : decode cX4_readVoice 7 = .ok (.invokevirtual 191, 3) := by decide +kernel
theorem dX4_readVoice_10 : decode cX4_readVoice 10 = .ok (.ifCond .ne 5, 3) := by decide +kernel
theorem dX4_readVoice_13 : decode cX4_readVoice 13 = .ok (.iconst 0, 1) := by decide +kernel
theorem dX4_readVoice_14 : decode cX4_readVoice 14 = .ok (.ireturn, 1) := by decide +kernel
theorem dX4_readVoice_15 : decode cX4_readVoice 15 = .ok (.aload_n 0, 1) := by decide +kernel
theorem dX4_readVoice_16 : decode cX4_readVoice 16 = .ok (.invokevirtual 89, 3) := by decide +kernel
theorem dX4_readVoice_19 : decode cX4_readVoice 19 = .ok (.aload_n 0, 1) := by decide +kernel
theorem dX4_readVoice_20 : decode cX4_readVoice 20 = .ok (.getfield 12, 3) := by decide +kernel
theorem dX4_readVoice_23 : decode cX4_readVoice 23 = .ok (.iload_n 1, 1) := by decide +kernel
theorem dX4_readVoice_24 : decode cX4_readVoice 24 = .ok (.aload_n 0, 1) := by decide +kernel
theorem dX4_readVoice_25 : decode cX4_readVoice 25 = .ok (.getfield 45, 3) := by decide +kernel
theorem dX4_readVoice_28 : decode cX4_readVoice 28 = .ok (.invokevirtual 199, 3) := by decide +kernel
theorem dX4_readVoice_31 : decode cX4_readVoice 31 = .ok (.iconst 1, 1) := by decide +kernel
theorem dX4_readVoice_32 : decode cX4_readVoice 32 = .ok (.ireturn, 1) := by decide +kernel
theorem dX4_readApart_0 : decode cX4_readApart 0 = .ok (.aload_n 0, 1) := by decide +kernel
theorem dX4_readApart_1 : decode cX4_readApart 1 = .ok (.getfield 35, 3) := by decide +kernel
theorem dX4_readApart_4 : decode cX4_readApart 4 = .ok (.ifCond .eq 9, 3) := by decide +kernel
theorem dX4_readApart_7 : decode cX4_readApart 7 = .ok (.aload_n 0, 1) := by decide +kernel
theorem dX4_readApart_8 : decode cX4_readApart 8 = .ok (.iconst 3, 1) := by decide +kernel
theorem dX4_readApart_9 : decode cX4_readApart 9 = .ok (.invokevirtual 79, 3) := by decide +kernel
theorem dX4_readApart_12 : decode cX4_readApart 12 = .ok (.ireturn, 1) := by decide +kernel
theorem dX4_readApart_13 : decode cX4_readApart 13 = .ok (.aload_n 0, 1) := by decide +kernel
theorem dX4_readApart_14 : decode cX4_readApart 14 = .ok (.iconst 1, 1) := by decide +kernel
theorem dX4_readApart_15 : decode cX4_readApart 15 = .ok (.putfield 35, 3) := by decide +kernel
theorem dX4_readApart_18 : decode cX4_readApart 18 = .ok (.aload_n 0, 1) := by decide +kernel
theorem dX4_readApart_19 : decode cX4_readApart 19 = .ok (.invokevirtual 89, 3) := by decide +kernel
theorem dX4_readApart_22 : decode cX4_readApart 22 = .ok (.aload_n 0, 1) := by decide +kernel
theorem dX4_readApart_23 : decode cX4_readApart 23 = .ok (.iconst 0, 1) := by decide +kernel
theorem dX4_readApart_24 : decode cX4_readApart 24 = .ok (.sipush 300, 3) := by decide +kernel
theorem dX4_readApart_27 : decode cX4_readApart 27 = .ok (.invokevirtual 191, 3) := by decide +kernel
theorem dX4_readApart_30 : decode cX4_readApart 30 = .ok (.ifCond .ne 5, 3) := by decide +kernel
theorem dX4_readApart_33 : decode cX4_readApart 33 = .ok (.iconst 0, 1) := by decide +kernel
theorem dX4_readApart_34 : decode cX4_readApart 34 = .ok (.ireturn, 1) := by decide +kernel
theorem dX4_readApart_35 : decode cX4_readApart 35 = .ok (.aload_n 0, 1) := by decide +kernel
theorem dX4_readApart_36 : decode cX4_readApart 36 = .ok (.invokevirtual 89, 3) := by decide +kernel
theorem dX4_readApart_39 : decode cX4_readApart 39 = .ok (.aload_n 0, 1) := by decide +kernel
theorem dX4_readApart_40 : decode cX4_readApart 40 = .ok (.getfield 12, 3) := by decide +kernel
theorem dX4_readApart_43 : decode cX4_readApart 43 = .ok (.aload_n 0, 1) := by decide +kernel
theorem dX4_readApart_44 : decode cX4_readApart 44 = .ok (.getfield 45, 3) := by decide +kernel
theorem dX4_readApart_47 : decode cX4_readApart 47 = .ok (.putfield 203, 3) := by decide +kernel
theorem dX4_readApart_50 : decode cX4_readApart 50 = .ok (.iconst 1, 1) := by decide +kernel
theorem dX4_readApart_51 : decode cX4_readApart 51 = .ok (.ireturn, 1) := by decide +kernel
theorem dX4_readPlace_0 : decode cX4_readPlace 0 = .ok (.aload_n 0, 1) := by decide +kernel
theorem dX4_readPlace_1 : decode cX4_readPlace 1 = .ok (.getfield 12, 3) := by decide +kernel
theorem dX4_readPlace_4 : decode cX4_readPlace 4 = .ok (.getfield 206, 3) := by decide +kernel
theorem dX4_readPlace_7 : decode cX4_readPlace 7 = .ok (.bipush 6, 2) := by decide +kernel
theorem dX4_readPlace_9 : decode cX4_readPlace 9 = .ok (.if_icmp .lt 9, 3) := by decide +kernel
theorem dX4_readPlace_12 : decode cX4_readPlace 12 = .ok (.aload_n 0, 1) := by decide +kernel
theorem dX4_readPlace_13 : decode cX4_readPlace 13 = .ok (.iconst 4, 1) := by decide +kernel
theorem dX4_readPlace_14 : decode cX4_readPlace 14 = .ok (.invokevirtual 79, 3) := by decide +kernel
theorem dX4_readPlace_17 : decode cX4_readPlace 17 = .ok (.ireturn, 1) := by decide +kernel
theorem dX4_readPlace_18 : decode cX4_readPlace 18 = .ok (.aload_n 0, 1) := by decide +kernel
theorem dX4_readPlace_19 : decode cX4_readPlace 19 = .ok (.invokevirtual 89, 3) := by decide +kernel
theorem dX4_readPlace_22 : decode cX4_readPlace 22 = .ok (.aload_n 0, 1) := by decide +kernel
theorem dX4_readPlace_23 : decode cX4_readPlace 23 = .ok (.iconst 0, 1) := by decide +kernel
theorem dX4_readPlace_24 : decode cX4_readPlace 24 = .ok (.sipush 3599, 3) := by decide +kernel
theorem dX4_readPlace_27 : decode cX4_readPlace 27 = .ok (.invokevirtual 191, 3) := by decide +kernel
theorem dX4_readPlace_30 : decode cX4_readPlace 30 = .ok (.ifCond .ne 5, 3) := by decide +kernel
theorem dX4_readPlace_33 : decode cX4_readPlace 33 = .ok (.iconst 0, 1) := by decide +kernel
theorem dX4_readPlace_34 : decode cX4_readPlace 34 = .ok (.ireturn, 1) := by decide +kernel
theorem dX4_readPlace_35 : decode cX4_readPlace 35 = .ok (.aload_n 0, 1) := by decide +kernel
theorem dX4_readPlace_36 : decode cX4_readPlace 36 = .ok (.getfield 12, 3) := by decide +kernel
theorem dX4_readPlace_39 : decode cX4_readPlace 39 = .ok (.aload_n 0, 1) := by decide +kernel
theorem dX4_readPlace_40 : decode cX4_readPlace 40 = .ok (.getfield 45, 3) := by decide +kernel
theorem dX4_readPlace_43 : decode cX4_readPlace 43 = .ok (.invokevirtual 209, 3) := by decide +kernel
theorem dX4_readPlace_46 : decode cX4_readPlace 46 = .ok (.ifCond .eq 9, 3) := by decide +kernel
theorem dX4_readPlace_49 : decode cX4_readPlace 49 = .ok (.aload_n 0, 1) := by decide +kernel
theorem dX4_readPlace_50 : decode cX4_readPlace 50 = .ok (.iconst 3, 1) := by decide +kernel
theorem dX4_readPlace_51 : decode cX4_readPlace 51 = .ok (.invokevirtual 79, 3) := by decide +kernel
theorem dX4_readPlace_54 : decode cX4_readPlace 54 = .ok (.ireturn, 1) := by decide +kernel
theorem dX4_readPlace_55 : decode cX4_readPlace 55 = .ok (.aload_n 0, 1) := by decide +kernel
theorem dX4_readPlace_56 : decode cX4_readPlace 56 = .ok (.invokevirtual 89, 3) := by decide +kernel
theorem dX4_readPlace_59 : decode cX4_readPlace 59 = .ok (.aload_n 0, 1) := by decide +kernel
theorem dX4_readPlace_60 : decode cX4_readPlace 60 = .ok (.getfield 12, 3) := by decide +kernel
theorem dX4_readPlace_63 : decode cX4_readPlace 63 = .ok (.getfield 212, 3) := by decide +kernel
theorem dX4_readPlace_66 : decode cX4_readPlace 66 = .ok (.aload_n 0, 1) := by decide +kernel
theorem dX4_readPlace_67 : decode cX4_readPlace 67 = .ok (.getfield 12, 3) := by decide +kernel
theorem dX4_readPlace_70 : decode cX4_readPlace 70 = .ok (.getfield 206, 3) := by decide +kernel
theorem dX4_readPlace_73 : decode cX4_readPlace 73 = .ok (.aload_n 0, 1) := by decide +kernel
theorem dX4_readPlace_74 : decode cX4_readPlace 74 = .ok (.getfield 45, 3) := by decide +kernel
theorem dX4_readPlace_77 : decode cX4_readPlace 77 = .ok (.iastore, 1) := by decide +kernel
theorem dX4_readPlace_78 : decode cX4_readPlace 78 = .ok (.aload_n 0, 1) := by decide +kernel
theorem dX4_readPlace_79 : decode cX4_readPlace 79 = .ok (.getfield 12, 3) := by decide +kernel
theorem dX4_readPlace_82 : decode cX4_readPlace 82 = .ok (.dup, 1) := by decide +kernel
theorem dX4_readPlace_83 : decode cX4_readPlace 83 = .ok (.getfield 206, 3) := by decide +kernel
theorem dX4_readPlace_86 : decode cX4_readPlace 86 = .ok (.iconst 1, 1) := by decide +kernel
theorem dX4_readPlace_87 : decode cX4_readPlace 87 = .ok (.iadd, 1) := by decide +kernel
theorem dX4_readPlace_88 : decode cX4_readPlace 88 = .ok (.putfield 206, 3) := by decide +kernel
theorem dX4_readPlace_91 : decode cX4_readPlace 91 = .ok (.iconst 1, 1) := by decide +kernel
theorem dX4_readPlace_92 : decode cX4_readPlace 92 = .ok (.ireturn, 1) := by decide +kernel
theorem dX4_readFirst_0 : decode cX4_readFirst 0 = .ok (.aload_n 0, 1) := by decide +kernel
theorem dX4_readFirst_1 : decode cX4_readFirst 1 = .ok (.getfield 39, 3) := by decide +kernel
theorem dX4_readFirst_4 : decode cX4_readFirst 4 = .ok (.ifCond .eq 9, 3) := by decide +kernel
theorem dX4_readFirst_7 : decode cX4_readFirst 7 = .ok (.aload_n 0, 1) := by decide +kernel
theorem dX4_readFirst_8 : decode cX4_readFirst 8 = .ok (.iconst 3, 1) := by decide +kernel
theorem dX4_readFirst_9 : decode cX4_readFirst 9 = .ok (.invokevirtual 79, 3) := by decide +kernel
theorem dX4_readFirst_12 : decode cX4_readFirst 12 = .ok (.ireturn, 1) := by decide +kernel
theorem dX4_readFirst_13 : decode cX4_readFirst 13 = .ok (.aload_n 0, 1) := by decide +kernel
theorem dX4_readFirst_14 : decode cX4_readFirst 14 = .ok (.iconst 1, 1) := by decide +kernel
theorem dX4_readFirst_15 : decode cX4_readFirst 15 = .ok (.putfield 39, 3) := by decide +kernel
theorem dX4_readFirst_18 : decode cX4_readFirst 18 = .ok (.aload_n 0, 1) := by decide +kernel
theorem dX4_readFirst_19 : decode cX4_readFirst 19 = .ok (.invokevirtual 89, 3) := by decide +kernel
theorem dX4_readFirst_22 : decode cX4_readFirst 22 = .ok (.aload_n 0, 1) := by decide +kernel
theorem dX4_readFirst_23 : decode cX4_readFirst 23 = .ok (.getfield 53, 3) := by decide +kernel
theorem dX4_readFirst_26 : decode cX4_readFirst 26 = .ok (.getfield 67, 3) := by decide +kernel
theorem dX4_readFirst_29 : decode cX4_readFirst 29 = .ok (.aload_n 0, 1) := by decide +kernel
theorem dX4_readFirst_30 : decode cX4_readFirst 30 = .ok (.getfield 25, 3) := by decide +kernel
theorem dX4_readFirst_33 : decode cX4_readFirst 33 = .ok (.aaload, 1) := by decide +kernel
theorem dX4_readFirst_34 : decode cX4_readFirst 34 = .ok (.astore_n 1, 1) := by decide +kernel
theorem dX4_readFirst_35 : decode cX4_readFirst 35 = .ok (.aload_n 1, 1) := by decide +kernel
theorem dX4_readFirst_36 : decode cX4_readFirst 36 = .ok (.getstatic 125, 3) := by decide +kernel
theorem dX4_readFirst_39 : decode cX4_readFirst 39 = .ok (.if_acmp .eq 16, 3) := by decide +kernel
theorem dX4_readFirst_42 : decode cX4_readFirst 42 = .ok (.aload_n 1, 1) := by decide +kernel
theorem dX4_readFirst_43 : decode cX4_readFirst 43 = .ok (.getstatic 215, 3) := by decide +kernel
theorem dX4_readFirst_46 : decode cX4_readFirst 46 = .ok (.if_acmp .eq 9, 3) := by decide +kernel
theorem dX4_readFirst_49 : decode cX4_readFirst 49 = .ok (.aload_n 0, 1) := by decide +kernel
theorem dX4_readFirst_50 : decode cX4_readFirst 50 = .ok (.iconst 1, 1) := by decide +kernel
theorem dX4_readFirst_51 : decode cX4_readFirst 51 = .ok (.invokevirtual 79, 3) := by decide +kernel
theorem dX4_readFirst_54 : decode cX4_readFirst 54 = .ok (.ireturn, 1) := by decide +kernel
theorem dX4_readFirst_55 : decode cX4_readFirst 55 = .ok (.aload_n 0, 1) := by decide +kernel
theorem dX4_readFirst_56 : decode cX4_readFirst 56 = .ok (.getfield 12, 3) := by decide +kernel
theorem dX4_readFirst_59 : decode cX4_readFirst 59 = .ok (.aload_n 1, 1) := by decide +kernel
theorem dX4_readFirst_60 : decode cX4_readFirst 60 = .ok (.getstatic 215, 3) := by decide +kernel
theorem dX4_readFirst_63 : decode cX4_readFirst 63 = .ok (.if_acmp .ne 7, 3) := by decide +kernel
theorem dX4_readFirst_66 : decode cX4_readFirst 66 = .ok (.iconst 1, 1) := by decide +kernel
theorem dX4_readFirst_67 : decode cX4_readFirst 67 = .ok (.goto 4, 3) := by decide +kernel
theorem dX4_readFirst_70 : decode cX4_readFirst 70 = .ok (.iconst 0, 1) := by decide +kernel
theorem dX4_readFirst_71 : decode cX4_readFirst 71 = .ok (.putfield 218, 3) := by decide +kernel
theorem dX4_readFirst_74 : decode cX4_readFirst 74 = .ok (.aload_n 0, 1) := by decide +kernel
theorem dX4_readFirst_75 : decode cX4_readFirst 75 = .ok (.invokevirtual 89, 3) := by decide +kernel
theorem dX4_readFirst_78 : decode cX4_readFirst 78 = .ok (.iconst 1, 1) := by decide +kernel
theorem dX4_readFirst_79 : decode cX4_readFirst 79 = .ok (.ireturn, 1) := by decide +kernel
theorem dX4_readPaper_0 : decode cX4_readPaper 0 = .ok (.aload_n 0, 1) := by decide +kernel
theorem dX4_readPaper_1 : decode cX4_readPaper 1 = .ok (.bipush 10, 2) := by decide +kernel
theorem dX4_readPaper_3 : decode cX4_readPaper 3 = .ok (.invokevirtual 221, 3) := by decide +kernel
theorem dX4_readPaper_6 : decode cX4_readPaper 6 = .ok (.istore_n 1, 1) := by decide +kernel
theorem dX4_readPaper_7 : decode cX4_readPaper 7 = .ok (.iload_n 1, 1) := by decide +kernel
theorem dX4_readPaper_8 : decode cX4_readPaper 8 = .ok (.iconst (-1), 1) := by decide +kernel
theorem dX4_readPaper_9 : decode cX4_readPaper 9 = .ok (.if_icmp .eq 40, 3) := by decide +kernel
theorem dX4_readPaper_12 : decode cX4_readPaper 12 = .ok (.aload_n 0, 1) := by decide +kernel
theorem dX4_readPaper_13 : decode cX4_readPaper 13 = .ok (.iload_n 1, 1) := by decide +kernel
theorem dX4_readPaper_14 : decode cX4_readPaper 14 = .ok (.bipush 10, 2) := by decide +kernel
theorem dX4_readPaper_16 : decode cX4_readPaper 16 = .ok (.iconst 0, 1) := by decide +kernel
theorem dX4_readPaper_17 : decode cX4_readPaper 17 = .ok (.sipush 999, 3) := by decide +kernel
theorem dX4_readPaper_20 : decode cX4_readPaper 20 = .ok (.invokevirtual 156, 3) := by decide +kernel
theorem dX4_readPaper_23 : decode cX4_readPaper 23 = .ok (.ifCond .eq 26, 3) := by decide +kernel
theorem dX4_readPaper_26 : decode cX4_readPaper 26 = .ok (.aload_n 0, 1) := by decide +kernel
theorem dX4_readPaper_27 : decode cX4_readPaper 27 = .ok (.iload_n 1, 1) := by decide +kernel
theorem dX4_readPaper_28 : decode cX4_readPaper 28 = .ok (.bipush 11, 2) := by decide +kernel
theorem dX4_readPaper_30 : decode cX4_readPaper 30 = .ok (.aload_n 0, 1) := by decide +kernel
theorem dX4_readPaper_31 : decode cX4_readPaper 31 = .ok (.getfield 12, 3) := by decide +kernel
theorem dX4_readPaper_34 : decode cX4_readPaper 34 = .ok (.iload_n 1, 1) := by decide +kernel
theorem dX4_readPaper_35 : decode cX4_readPaper 35 = .ok (.bipush 10, 2) := by decide +kernel
theorem dX4_readPaper_37 : decode cX4_readPaper 37 = .ok (.invokevirtual 225, 3) := by decide +kernel
theorem dX4_readPaper_40 : decode cX4_readPaper 40 = .ok (.sipush 999, 3) := by decide +kernel
theorem dX4_readPaper_43 : decode cX4_readPaper 43 = .ok (.invokevirtual 156, 3) := by decide +kernel
theorem dX4_readPaper_46 : decode cX4_readPaper 46 = .ok (.ifCond .ne 5, 3) := by decide +kernel
theorem dX4_readPaper_49 : decode cX4_readPaper 49 = .ok (.iconst 0, 1) := by decide +kernel
theorem dX4_readPaper_50 : decode cX4_readPaper 50 = .ok (.ireturn, 1) := by decide +kernel
theorem dX4_readPaper_51 : decode cX4_readPaper 51 = .ok (.aload_n 0, 1) := by decide +kernel
theorem dX4_readPaper_52 : decode cX4_readPaper 52 = .ok (.getfield 53, 3) := by decide +kernel
theorem dX4_readPaper_55 : decode cX4_readPaper 55 = .ok (.getfield 67, 3) := by decide +kernel
theorem dX4_readPaper_58 : decode cX4_readPaper 58 = .ok (.aload_n 0, 1) := by decide +kernel
theorem dX4_readPaper_59 : decode cX4_readPaper 59 = .ok (.getfield 25, 3) := by decide +kernel
theorem dX4_readPaper_62 : decode cX4_readPaper 62 = .ok (.aaload, 1) := by decide +kernel
theorem dX4_readPaper_63 : decode cX4_readPaper 63 = .ok (.getstatic 215, 3) := by decide +kernel
theorem dX4_readPaper_66 : decode cX4_readPaper 66 = .ok (.if_acmp .eq 5, 3) := by decide +kernel
theorem dX4_readPaper_69 : decode cX4_readPaper 69 = .ok (.iconst 1, 1) := by decide +kernel
theorem dX4_readPaper_70 : decode cX4_readPaper 70 = .ok (.ireturn, 1) := by decide +kernel
theorem dX4_readPaper_71 : decode cX4_readPaper 71 = .ok (.aload_n 0, 1) := by decide +kernel
theorem dX4_readPaper_72 : decode cX4_readPaper 72 = .ok (.invokevirtual 89, 3) := by decide +kernel
theorem dX4_readPaper_75 : decode cX4_readPaper 75 = .ok (.aload_n 0, 1) := by decide +kernel
theorem dX4_readPaper_76 : decode cX4_readPaper 76 = .ok (.iload_n 1, 1) := by decide +kernel
theorem dX4_readPaper_77 : decode cX4_readPaper 77 = .ok (.bipush 12, 2) := by decide +kernel
theorem dX4_readPaper_79 : decode cX4_readPaper 79 = .ok (.iconst 0, 1) := by decide +kernel
theorem dX4_readPaper_80 : decode cX4_readPaper 80 = .ok (.sipush 999, 3) := by decide +kernel
theorem dX4_readPaper_83 : decode cX4_readPaper 83 = .ok (.invokevirtual 156, 3) := by decide +kernel
theorem dX4_readPaper_86 : decode cX4_readPaper 86 = .ok (.ireturn, 1) := by decide +kernel
theorem dX4_readNarrow_0 : decode cX4_readNarrow 0 = .ok (.aload_n 0, 1) := by decide +kernel
theorem dX4_readNarrow_1 : decode cX4_readNarrow 1 = .ok (.bipush 13, 2) := by decide +kernel
theorem dX4_readNarrow_3 : decode cX4_readNarrow 3 = .ok (.invokevirtual 221, 3) := by decide +kernel
theorem dX4_readNarrow_6 : decode cX4_readNarrow 6 = .ok (.istore_n 1, 1) := by decide +kernel
theorem dX4_readNarrow_7 : decode cX4_readNarrow 7 = .ok (.iload_n 1, 1) := by decide +kernel
theorem dX4_readNarrow_8 : decode cX4_readNarrow 8 = .ok (.iconst (-1), 1) := by decide +kernel
theorem dX4_readNarrow_9 : decode cX4_readNarrow 9 = .ok (.if_icmp .eq 21, 3) := by decide +kernel
theorem dX4_readNarrow_12 : decode cX4_readNarrow 12 = .ok (.aload_n 0, 1) := by decide +kernel
theorem dX4_readNarrow_13 : decode cX4_readNarrow 13 = .ok (.iload_n 1, 1) := by decide +kernel
theorem dX4_readNarrow_14 : decode cX4_readNarrow 14 = .ok (.bipush 13, 2) := by decide +kernel
theorem dX4_readNarrow_16 : decode cX4_readNarrow 16 = .ok (.iconst 0, 1) := by decide +kernel
theorem dX4_readNarrow_17 : decode cX4_readNarrow 17 = .ok (.sipush 9999, 3) := by decide +kernel
theorem dX4_readNarrow_20 : decode cX4_readNarrow 20 = .ok (.invokevirtual 156, 3) := by decide +kernel
theorem dX4_readNarrow_23 : decode cX4_readNarrow 23 = .ok (.ifCond .eq 7, 3) := by decide +kernel
theorem dX4_readNarrow_26 : decode cX4_readNarrow 26 = .ok (.iconst 1, 1) := by decide +kernel
theorem dX4_readNarrow_27 : decode cX4_readNarrow 27 = .ok (.goto 4, 3) := by decide +kernel
theorem dX4_readNarrow_30 : decode cX4_readNarrow 30 = .ok (.iconst 0, 1) := by decide +kernel
theorem dX4_readNarrow_31 : decode cX4_readNarrow 31 = .ok (.ireturn, 1) := by decide +kernel
theorem dX4_passThing_0 : decode cX4_passThing 0 = .ok (.aload_n 0, 1) := by decide +kernel
theorem dX4_passThing_1 : decode cX4_passThing 1 = .ok (.invokevirtual 89, 3) := by decide +kernel
theorem dX4_passThing_4 : decode cX4_passThing 4 = .ok (.aload_n 0, 1) := by decide +kernel
theorem dX4_passThing_5 : decode cX4_passThing 5 = .ok (.aload_n 0, 1) := by decide +kernel
theorem dX4_passThing_6 : decode cX4_passThing 6 = .ok (.getfield 32, 3) := by decide +kernel
theorem dX4_passThing_9 : decode cX4_passThing 9 = .ok (.aload_n 0, 1) := by decide +kernel
theorem dX4_passThing_10 : decode cX4_passThing 10 = .ok (.getfield 12, 3) := by decide +kernel
theorem dX4_passThing_13 : decode cX4_passThing 13 = .ok (.getfield 146, 3) := by decide +kernel
theorem dX4_passThing_16 : decode cX4_passThing 16 = .ok (.invokevirtual 149, 3) := by decide +kernel
theorem dX4_passThing_19 : decode cX4_passThing 19 = .ok (.istore_n 2, 1) := by decide +kernel
theorem dX4_passThing_20 : decode cX4_passThing 20 = .ok (.iload_n 2, 1) := by decide +kernel
theorem dX4_passThing_21 : decode cX4_passThing 21 = .ok (.iconst (-1), 1) := by decide +kernel
theorem dX4_passThing_22 : decode cX4_passThing 22 = .ok (.if_icmp .ne 5, 3) := by decide +kernel
theorem dX4_passThing_25 : decode cX4_passThing 25 = .ok (.iconst (-1), 1) := by decide +kernel
theorem dX4_passThing_26 : decode cX4_passThing 26 = .ok (.ireturn, 1) := by decide +kernel
theorem dX4_passThing_27 : decode cX4_passThing 27 = .ok (.aload_n 0, 1) := by decide +kernel
theorem dX4_passThing_28 : decode cX4_passThing 28 = .ok (.getfield 12, 3) := by decide +kernel
theorem dX4_passThing_31 : decode cX4_passThing 31 = .ok (.iload_n 2, 1) := by decide +kernel
theorem dX4_passThing_32 : decode cX4_passThing 32 = .ok (.iload_n 1, 1) := by decide +kernel
theorem dX4_passThing_33 : decode cX4_passThing 33 = .ok (.invokevirtual 225, 3) := by decide +kernel
theorem dX4_passThing_36 : decode cX4_passThing 36 = .ok (.iconst (-1), 1) := by decide +kernel
theorem dX4_passThing_37 : decode cX4_passThing 37 = .ok (.if_icmp .eq 11, 3) := by decide +kernel
theorem dX4_passThing_40 : decode cX4_passThing 40 = .ok (.aload_n 0, 1) := by decide +kernel
theorem dX4_passThing_41 : decode cX4_passThing 41 = .ok (.iconst 3, 1) := by decide +kernel
theorem dX4_passThing_42 : decode cX4_passThing 42 = .ok (.invokevirtual 79, 3) := by decide +kernel
theorem dX4_passThing_45 : decode cX4_passThing 45 = .ok (.pop, 1) := by decide +kernel
theorem dX4_passThing_46 : decode cX4_passThing 46 = .ok (.iconst (-1), 1) := by decide +kernel
theorem dX4_passThing_47 : decode cX4_passThing 47 = .ok (.ireturn, 1) := by decide +kernel
theorem dX4_passThing_48 : decode cX4_passThing 48 = .ok (.aload_n 0, 1) := by decide +kernel
theorem dX4_passThing_49 : decode cX4_passThing 49 = .ok (.invokevirtual 89, 3) := by decide +kernel
theorem dX4_passThing_52 : decode cX4_passThing 52 = .ok (.iload_n 2, 1) := by decide +kernel
theorem dX4_passThing_53 : decode cX4_passThing 53 = .ok (.ireturn, 1) := by decide +kernel
theorem dX4_passOnce_0 : decode cX4_passOnce 0 = .ok (.aload_n 0, 1) := by decide +kernel
theorem dX4_passOnce_1 : decode cX4_passOnce 1 = .ok (.getfield 42, 3) := by decide +kernel
theorem dX4_passOnce_4 : decode cX4_passOnce 4 = .ok (.iload_n 1, 1) := by decide +kernel
theorem dX4_passOnce_5 : decode cX4_passOnce 5 = .ok (.ishr, 1) := by decide +kernel
theorem dX4_passOnce_6 : decode cX4_passOnce 6 = .ok (.iconst 1, 1) := by decide +kernel
theorem dX4_passOnce_7 : decode cX4_passOnce 7 = .ok (.iand, 1) := by decide +kernel
theorem dX4_passOnce_8 : decode cX4_passOnce 8 = .ok (.ifCond .eq 9, 3) := by decide +kernel
theorem dX4_passOnce_11 : decode cX4_passOnce 11 = .ok (.aload_n 0, 1) := by decide +kernel
theorem dX4_passOnce_12 : decode cX4_passOnce 12 = .ok (.iconst 3, 1) := by decide +kernel
theorem dX4_passOnce_13 : decode cX4_passOnce 13 = .ok (.invokevirtual 79, 3) := by decide +kernel
theorem dX4_passOnce_16 : decode cX4_passOnce 16 = .ok (.ireturn, 1) := by decide +kernel
theorem dX4_passOnce_17 : decode cX4_passOnce 17 = .ok (.aload_n 0, 1) := by decide +kernel
theorem dX4_passOnce_18 : decode cX4_passOnce 18 = .ok (.dup, 1) := by decide +kernel
theorem dX4_passOnce_19 : decode cX4_passOnce 19 = .ok (.getfield 42, 3) := by decide +kernel
theorem dX4_passOnce_22 : decode cX4_passOnce 22 = .ok (.iconst 1, 1) := by decide +kernel
theorem dX4_passOnce_23 : decode cX4_passOnce 23 = .ok (.iload_n 1, 1) := by decide +kernel
theorem dX4_passOnce_24 : decode cX4_passOnce 24 = .ok (.ishl, 1) := by decide +kernel
theorem dX4_passOnce_25 : decode cX4_passOnce 25 = .ok (.ior, 1) := by decide +kernel
theorem dX4_passOnce_26 : decode cX4_passOnce 26 = .ok (.putfield 42, 3) := by decide +kernel
theorem dX4_passOnce_29 : decode cX4_passOnce 29 = .ok (.aload_n 0, 1) := by decide +kernel
theorem dX4_passOnce_30 : decode cX4_passOnce 30 = .ok (.invokevirtual 89, 3) := by decide +kernel
theorem dX4_passOnce_33 : decode cX4_passOnce 33 = .ok (.iconst 1, 1) := by decide +kernel
theorem dX4_passOnce_34 : decode cX4_passOnce 34 = .ok (.ireturn, 1) := by decide +kernel
theorem dX4_isNewName_0 : decode cX4_isNewName 0 = .ok (.aload_n 0, 1) := by decide +kernel
theorem dX4_isNewName_1 : decode cX4_isNewName 1 = .ok (.getfield 53, 3) := by decide +kernel
theorem dX4_isNewName_4 : decode cX4_isNewName 4 = .ok (.getfield 64, 3) := by decide +kernel
theorem dX4_isNewName_7 : decode cX4_isNewName 7 = .ok (.aload_n 0, 1) := by decide +kernel
theorem dX4_isNewName_8 : decode cX4_isNewName 8 = .ok (.getfield 25, 3) := by decide +kernel
theorem dX4_isNewName_11 : decode cX4_isNewName 11 = .ok (.iaload, 1) := by decide +kernel
theorem dX4_isNewName_12 : decode cX4_isNewName 12 = .ok (.iconst 4, 1) := by decide +kernel
theorem dX4_isNewName_13 : decode cX4_isNewName 13 = .ok (.if_icmp .eq 9, 3) := by decide +kernel
theorem dX4_isNewName_16 : decode cX4_isNewName 16 = .ok (.aload_n 0, 1) := by decide +kernel
theorem dX4_isNewName_17 : decode cX4_isNewName 17 = .ok (.iconst 1, 1) := by decide +kernel
theorem dX4_isNewName_18 : decode cX4_isNewName 18 = .ok (.invokevirtual 79, 3) := by decide +kernel
theorem dX4_isNewName_21 : decode cX4_isNewName 21 = .ok (.ireturn, 1) := by decide +kernel
theorem dX4_isNewName_22 : decode cX4_isNewName 22 = .ok (.aload_n 0, 1) := by decide +kernel
theorem dX4_isNewName_23 : decode cX4_isNewName 23 = .ok (.aload_n 0, 1) := by decide +kernel
theorem dX4_isNewName_24 : decode cX4_isNewName 24 = .ok (.getfield 28, 3) := by decide +kernel
theorem dX4_isNewName_27 : decode cX4_isNewName 27 = .ok (.aload_n 0, 1) := by decide +kernel
theorem dX4_isNewName_28 : decode cX4_isNewName 28 = .ok (.getfield 12, 3) := by decide +kernel
theorem dX4_isNewName_31 : decode cX4_isNewName 31 = .ok (.getfield 137, 3) := by decide +kernel
theorem dX4_isNewName_34 : decode cX4_isNewName 34 = .ok (.invokevirtual 229, 3) := by decide +kernel
theorem dX4_isNewName_37 : decode cX4_isNewName 37 = .ok (.iconst (-1), 1) := by decide +kernel
theorem dX4_isNewName_38 : decode cX4_isNewName 38 = .ok (.if_icmp .ne 22, 3) := by decide +kernel
theorem dX4_isNewName_41 : decode cX4_isNewName 41 = .ok (.aload_n 0, 1) := by decide +kernel
theorem dX4_isNewName_42 : decode cX4_isNewName 42 = .ok (.aload_n 0, 1) := by decide +kernel
theorem dX4_isNewName_43 : decode cX4_isNewName 43 = .ok (.getfield 32, 3) := by decide +kernel
theorem dX4_isNewName_46 : decode cX4_isNewName 46 = .ok (.aload_n 0, 1) := by decide +kernel
theorem dX4_isNewName_47 : decode cX4_isNewName 47 = .ok (.getfield 12, 3) := by decide +kernel
theorem dX4_isNewName_50 : decode cX4_isNewName 50 = .ok (.getfield 146, 3) := by decide +kernel
theorem dX4_isNewName_53 : decode cX4_isNewName 53 = .ok (.invokevirtual 229, 3) := by decide +kernel
theorem dX4_isNewName_56 : decode cX4_isNewName 56 = .ok (.iconst (-1), 1) := by decide +kernel
theorem dX4_isNewName_57 : decode cX4_isNewName 57 = .ok (.if_icmp .eq 9, 3) := by decide +kernel
theorem dX4_isNewName_60 : decode cX4_isNewName 60 = .ok (.aload_n 0, 1) := by decide +kernel
theorem dX4_isNewName_61 : decode cX4_isNewName 61 = .ok (.iconst 3, 1) := by decide +kernel
theorem dX4_isNewName_62 : decode cX4_isNewName 62 = .ok (.invokevirtual 79, 3) := by decide +kernel
theorem dX4_isNewName_65 : decode cX4_isNewName 65 = .ok (.ireturn, 1) := by decide +kernel
theorem dX4_isNewName_66 : decode cX4_isNewName 66 = .ok (.iconst 1, 1) := by decide +kernel
theorem dX4_isNewName_67 : decode cX4_isNewName 67 = .ok (.ireturn, 1) := by decide +kernel
theorem dX4_indexOfName_0 : decode cX4_indexOfName 0 = .ok (.aload_n 0, 1) := by decide +kernel
theorem dX4_indexOfName_1 : decode cX4_indexOfName 1 = .ok (.getfield 53, 3) := by decide +kernel
theorem dX4_indexOfName_4 : decode cX4_indexOfName 4 = .ok (.getfield 64, 3) := by decide +kernel
theorem dX4_indexOfName_7 : decode cX4_indexOfName 7 = .ok (.aload_n 0, 1) := by decide +kernel
theorem dX4_indexOfName_8 : decode cX4_indexOfName 8 = .ok (.getfield 25, 3) := by decide +kernel
theorem dX4_indexOfName_11 : decode cX4_indexOfName 11 = .ok (.iaload, 1) := by decide +kernel
theorem dX4_indexOfName_12 : decode cX4_indexOfName 12 = .ok (.iconst 4, 1) := by decide +kernel
theorem dX4_indexOfName_13 : decode cX4_indexOfName 13 = .ok (.if_icmp .eq 11, 3) := by decide +kernel
theorem dX4_indexOfName_16 : decode cX4_indexOfName 16 = .ok (.aload_n 0, 1) := by decide +kernel
theorem dX4_indexOfName_17 : decode cX4_indexOfName 17 = .ok (.iconst 1, 1) := by decide +kernel
theorem dX4_indexOfName_18 : decode cX4_indexOfName 18 = .ok (.invokevirtual 79, 3) := by decide +kernel
theorem dX4_indexOfName_21 : decode cX4_indexOfName 21 = .ok (.pop, 1) := by decide +kernel
theorem dX4_indexOfName_22 : decode cX4_indexOfName 22 = .ok (.iconst (-1), 1) := by decide +kernel
theorem dX4_indexOfName_23 : decode cX4_indexOfName 23 = .ok (.ireturn, 1) := by decide +kernel
theorem dX4_indexOfName_24 : decode cX4_indexOfName 24 = .ok (.aload_n 0, 1) := by decide +kernel
theorem dX4_indexOfName_25 : decode cX4_indexOfName 25 = .ok (.aload_n 1, 1) := by decide +kernel
theorem dX4_indexOfName_26 : decode cX4_indexOfName 26 = .ok (.iload_n 2, 1) := by decide +kernel
theorem dX4_indexOfName_27 : decode cX4_indexOfName 27 = .ok (.invokevirtual 229, 3) := by decide +kernel
theorem dX4_indexOfName_30 : decode cX4_indexOfName 30 = .ok (.istore_n 3, 1) := by decide +kernel
theorem dX4_indexOfName_31 : decode cX4_indexOfName 31 = .ok (.iload_n 3, 1) := by decide +kernel
theorem dX4_indexOfName_32 : decode cX4_indexOfName 32 = .ok (.iconst (-1), 1) := by decide +kernel
theorem dX4_indexOfName_33 : decode cX4_indexOfName 33 = .ok (.if_icmp .ne 9, 3) := by decide +kernel
theorem dX4_indexOfName_36 : decode cX4_indexOfName 36 = .ok (.aload_n 0, 1) := by decide +kernel
theorem dX4_indexOfName_37 : decode cX4_indexOfName 37 = .ok (.iconst 3, 1) := by decide +kernel
theorem dX4_indexOfName_38 : decode cX4_indexOfName 38 = .ok (.invokevirtual 79, 3) := by decide +kernel
theorem dX4_indexOfName_41 : decode cX4_indexOfName 41 = .ok (.pop, 1) := by decide +kernel
theorem dX4_indexOfName_42 : decode cX4_indexOfName 42 = .ok (.iload_n 3, 1) := by decide +kernel
theorem dX4_indexOfName_43 : decode cX4_indexOfName 43 = .ok (.ireturn, 1) := by decide +kernel
theorem dX4_indexOf_0 : decode cX4_indexOf 0 = .ok (.iconst 0, 1) := by decide +kernel
theorem dX4_indexOf_1 : decode cX4_indexOf 1 = .ok (.istore_n 3, 1) := by decide +kernel
theorem dX4_indexOf_2 : decode cX4_indexOf 2 = .ok (.iload_n 3, 1) := by decide +kernel
theorem dX4_indexOf_3 : decode cX4_indexOf 3 = .ok (.iload_n 2, 1) := by decide +kernel
theorem dX4_indexOf_4 : decode cX4_indexOf 4 = .ok (.if_icmp .ge 35, 3) := by decide +kernel
theorem dX4_indexOf_7 : decode cX4_indexOf 7 = .ok (.iload_n 3, 1) := by decide +kernel
theorem dX4_indexOf_8 : decode cX4_indexOf 8 = .ok (.aload_n 1, 1) := by decide +kernel
theorem dX4_indexOf_9 : decode cX4_indexOf 9 = .ok (.arraylength, 1) := by decide +kernel
theorem dX4_indexOf_10 : decode cX4_indexOf 10 = .ok (.if_icmp .ge 29, 3) := by decide +kernel
theorem dX4_indexOf_13 : decode cX4_indexOf 13 = .ok (.aload_n 1, 1) := by decide +kernel
theorem dX4_indexOf_14 : decode cX4_indexOf 14 = .ok (.iload_n 3, 1) := by decide +kernel
theorem dX4_indexOf_15 : decode cX4_indexOf 15 = .ok (.iaload, 1) := by decide +kernel
theorem dX4_indexOf_16 : decode cX4_indexOf 16 = .ok (.aload_n 0, 1) := by decide +kernel
theorem dX4_indexOf_17 : decode cX4_indexOf 17 = .ok (.getfield 53, 3) := by decide +kernel
theorem dX4_indexOf_20 : decode cX4_indexOf 20 = .ok (.getfield 143, 3) := by decide +kernel
theorem dX4_indexOf_23 : decode cX4_indexOf 23 = .ok (.aload_n 0, 1) := by decide +kernel
theorem dX4_indexOf_24 : decode cX4_indexOf 24 = .ok (.getfield 25, 3) := by decide +kernel
theorem dX4_indexOf_27 : decode cX4_indexOf 27 = .ok (.iaload, 1) := by decide +kernel
theorem dX4_indexOf_28 : decode cX4_indexOf 28 = .ok (.if_icmp .ne 5, 3) := by decide +kernel
theorem dX4_indexOf_31 : decode cX4_indexOf 31 = .ok (.iload_n 3, 1) := by decide +kernel
theorem dX4_indexOf_32 : decode cX4_indexOf 32 = .ok (.ireturn, 1) := by decide +kernel
theorem dX4_indexOf_33 : decode cX4_indexOf 33 = .ok (.iinc 3 1, 3) := by decide +kernel
theorem dX4_indexOf_36 : decode cX4_indexOf 36 = .ok (.goto (-34), 3) := by decide +kernel
theorem dX4_indexOf_39 : decode cX4_indexOf 39 = .ok (.iconst (-1), 1) := by decide +kernel
theorem dX4_indexOf_40 : decode cX4_indexOf 40 = .ok (.ireturn, 1) := by decide +kernel
theorem dX4_readFact_0 : decode cX4_readFact 0 = .ok (.aload_n 0, 1) := by decide +kernel
theorem dX4_readFact_1 : decode cX4_readFact 1 = .ok (.iload_n 3, 1) := by decide +kernel
theorem dX4_readFact_2 : decode cX4_readFact 2 = .ok (.iload 4, 2) := by decide +kernel
theorem dX4_readFact_4 : decode cX4_readFact 4 = .ok (.invokevirtual 191, 3) := by decide +kernel
theorem dX4_readFact_7 : decode cX4_readFact 7 = .ok (.ifCond .ne 5, 3) := by decide +kernel
theorem dX4_readFact_10 : decode cX4_readFact 10 = .ok (.iconst 0, 1) := by decide +kernel
theorem dX4_readFact_11 : decode cX4_readFact 11 = .ok (.ireturn, 1) := by decide +kernel
theorem dX4_readFact_12 : decode cX4_readFact 12 = .ok (.aload_n 0, 1) := by decide +kernel
theorem dX4_readFact_13 : decode cX4_readFact 13 = .ok (.invokevirtual 89, 3) := by decide +kernel
theorem dX4_readFact_16 : decode cX4_readFact 16 = .ok (.aload_n 0, 1) := by decide +kernel
theorem dX4_readFact_17 : decode cX4_readFact 17 = .ok (.getfield 12, 3) := by decide +kernel
theorem dX4_readFact_20 : decode cX4_readFact 20 = .ok (.iload_n 1, 1) := by decide +kernel
theorem dX4_readFact_21 : decode cX4_readFact 21 = .ok (.iload_n 2, 1) := by decide +kernel
theorem dX4_readFact_22 : decode cX4_readFact 22 = .ok (.aload_n 0, 1) := by decide +kernel
theorem dX4_readFact_23 : decode cX4_readFact 23 = .ok (.getfield 45, 3) := by decide +kernel
theorem dX4_readFact_26 : decode cX4_readFact 26 = .ok (.invokevirtual 232, 3) := by decide +kernel
theorem dX4_readFact_29 : decode cX4_readFact 29 = .ok (.iconst 1, 1) := by decide +kernel
theorem dX4_readFact_30 : decode cX4_readFact 30 = .ok (.ireturn, 1) := by decide +kernel
theorem dX4_isNumber_0 : decode cX4_isNumber 0 = .ok (.aload_n 0, 1) := by decide +kernel
theorem dX4_isNumber_1 : decode cX4_isNumber 1 = .ok (.getfield 53, 3) := by decide +kernel
theorem dX4_isNumber_4 : decode cX4_isNumber 4 = .ok (.getfield 64, 3) := by decide +kernel
theorem dX4_isNumber_7 : decode cX4_isNumber 7 = .ok (.aload_n 0, 1) := by decide +kernel
theorem dX4_isNumber_8 : decode cX4_isNumber 8 = .ok (.getfield 25, 3) := by decide +kernel
theorem dX4_isNumber_11 : decode cX4_isNumber 11 = .ok (.iaload, 1) := by decide +kernel
theorem dX4_isNumber_12 : decode cX4_isNumber 12 = .ok (.iconst 3, 1) := by decide +kernel
theorem dX4_isNumber_13 : decode cX4_isNumber 13 = .ok (.if_icmp .eq 9, 3) := by decide +kernel
theorem dX4_isNumber_16 : decode cX4_isNumber 16 = .ok (.aload_n 0, 1) := by decide +kernel
theorem dX4_isNumber_17 : decode cX4_isNumber 17 = .ok (.iconst 1, 1) := by decide +kernel
theorem dX4_isNumber_18 : decode cX4_isNumber 18 = .ok (.invokevirtual 79, 3) := by decide +kernel
theorem dX4_isNumber_21 : decode cX4_isNumber 21 = .ok (.ireturn, 1) := by decide +kernel
theorem dX4_isNumber_22 : decode cX4_isNumber 22 = .ok (.aload_n 0, 1) := by decide +kernel
theorem dX4_isNumber_23 : decode cX4_isNumber 23 = .ok (.aload_n 0, 1) := by decide +kernel
theorem dX4_isNumber_24 : decode cX4_isNumber 24 = .ok (.getfield 53, 3) := by decide +kernel
theorem dX4_isNumber_27 : decode cX4_isNumber 27 = .ok (.getfield 143, 3) := by decide +kernel
theorem dX4_isNumber_30 : decode cX4_isNumber 30 = .ok (.aload_n 0, 1) := by decide +kernel
theorem dX4_isNumber_31 : decode cX4_isNumber 31 = .ok (.getfield 25, 3) := by decide +kernel
theorem dX4_isNumber_34 : decode cX4_isNumber 34 = .ok (.iaload, 1) := by decide +kernel
theorem dX4_isNumber_35 : decode cX4_isNumber 35 = .ok (.putfield 45, 3) := by decide +kernel
theorem dX4_isNumber_38 : decode cX4_isNumber 38 = .ok (.aload_n 0, 1) := by decide +kernel
theorem dX4_isNumber_39 : decode cX4_isNumber 39 = .ok (.getfield 45, 3) := by decide +kernel
theorem dX4_isNumber_42 : decode cX4_isNumber 42 = .ok (.iload_n 1, 1) := by decide +kernel
theorem dX4_isNumber_43 : decode cX4_isNumber 43 = .ok (.if_icmp .lt 11, 3) := by decide +kernel
theorem dX4_isNumber_46 : decode cX4_isNumber 46 = .ok (.aload_n 0, 1) := by decide +kernel
theorem dX4_isNumber_47 : decode cX4_isNumber 47 = .ok (.getfield 45, 3) := by decide +kernel
theorem dX4_isNumber_50 : decode cX4_isNumber 50 = .ok (.iload_n 2, 1) := by decide +kernel
theorem dX4_isNumber_51 : decode cX4_isNumber 51 = .ok (.if_icmp .le 11, 3) := by decide +kernel
theorem dX4_isNumber_54 : decode cX4_isNumber 54 = .ok (.aload_n 0, 1) := by decide +kernel
theorem dX4_isNumber_55 : decode cX4_isNumber 55 = .ok (.iconst 2, 1) := by decide +kernel
theorem dX4_isNumber_56 : decode cX4_isNumber 56 = .ok (.invokevirtual 79, 3) := by decide +kernel
theorem dX4_isNumber_59 : decode cX4_isNumber 59 = .ok (.ifCond .eq 7, 3) := by decide +kernel
theorem dX4_isNumber_62 : decode cX4_isNumber 62 = .ok (.iconst 1, 1) := by decide +kernel
theorem dX4_isNumber_63 : decode cX4_isNumber 63 = .ok (.goto 4, 3) := by decide +kernel
theorem dX4_isNumber_66 : decode cX4_isNumber 66 = .ok (.iconst 0, 1) := by decide +kernel
theorem dX4_isNumber_67 : decode cX4_isNumber 67 = .ok (.ireturn, 1) := by decide +kernel
theorem dX5_init_0 : decode cX5_init 0 = .ok (.aload_n 0, 1) := by decide +kernel
theorem dX5_init_1 : decode cX5_init 1 = .ok (.invokespecial 3, 3) := by decide +kernel
theorem dX5_init_4 : decode cX5_init 4 = .ok (.aload_n 0, 1) := by decide +kernel
theorem dX5_init_5 : decode cX5_init 5 = .ok (.bipush 16, 2) := by decide +kernel
theorem dX5_init_7 : decode cX5_init 7 = .ok (.newarray .long, 2) := by decide +kernel
theorem dX5_init_9 : decode cX5_init 9 = .ok (.putfield 9, 3) := by decide +kernel
theorem dX5_init_12 : decode cX5_init 12 = .ok (.aload_n 0, 1) := by decide +kernel
theorem dX5_init_13 : decode cX5_init 13 = .ok (.bipush 6, 2) := by decide +kernel
theorem dX5_init_15 : decode cX5_init 15 = .ok (.newarray .int, 2) := by decide +kernel
theorem dX5_init_17 : decode cX5_init 17 = .ok (.putfield 15, 3) := by decide +kernel
theorem dX5_init_20 : decode cX5_init 20 = .ok (.aload_n 0, 1) := by decide +kernel
theorem dX5_init_21 : decode cX5_init 21 = .ok (.iconst 0, 1) := by decide +kernel
theorem dX5_init_22 : decode cX5_init 22 = .ok (.putfield 19, 3) := by decide +kernel
theorem dX5_init_25 : decode cX5_init 25 = .ok (.aload_n 0, 1) := by decide +kernel
theorem dX5_init_26 : decode cX5_init 26 = .ok (.iconst 0, 1) := by decide +kernel
theorem dX5_init_27 : decode cX5_init 27 = .ok (.putfield 23, 3) := by decide +kernel
theorem dX5_init_30 : decode cX5_init 30 = .ok (.aload_n 0, 1) := by decide +kernel
theorem dX5_init_31 : decode cX5_init 31 = .ok (.iconst 0, 1) := by decide +kernel
theorem dX5_init_32 : decode cX5_init 32 = .ok (.putfield 26, 3) := by decide +kernel
theorem dX5_init_35 : decode cX5_init 35 = .ok (.aload_n 0, 1) := by decide +kernel
theorem dX5_init_36 : decode cX5_init 36 = .ok (.bipush 20, 2) := by decide +kernel
theorem dX5_init_38 : decode cX5_init 38 = .ok (.putfield 29, 3) := by decide +kernel
theorem dX5_init_41 : decode cX5_init 41 = .ok (.aload_n 0, 1) := by decide +kernel
theorem dX5_init_42 : decode cX5_init 42 = .ok (.iconst 0, 1) := by decide +kernel
theorem dX5_init_43 : decode cX5_init 43 = .ok (.putfield 32, 3) := by decide +kernel
theorem dX5_init_46 : decode cX5_init 46 = .ok (.aload_n 0, 1) := by decide +kernel
theorem dX5_init_47 : decode cX5_init 47 = .ok (.sipush 224, 3) := by decide +kernel
theorem dX5_init_50 : decode cX5_init 50 = .ok (.newarray .int, 2) := by decide +kernel
theorem dX5_init_52 : decode cX5_init 52 = .ok (.putfield 36, 3) := by decide +kernel
theorem dX5_init_55 : decode cX5_init 55 = .ok (.return_, 1) := by decide +kernel
theorem dX5_clear_0 : decode cX5_clear 0 = .ok (.aload_n 0, 1) := by decide +kernel
theorem dX5_clear_1 : decode cX5_clear 1 = .ok (.iconst 0, 1) := by decide +kernel
theorem dX5_clear_2 : decode cX5_clear 2 = .ok (.putfield 19, 3) := by decide +kernel
theorem dX5_clear_5 : decode cX5_clear 5 = .ok (.aload_n 0, 1) := by decide +kernel
theorem dX5_clear_6 : decode cX5_clear 6 = .ok (.iconst 0, 1) := by decide +kernel
theorem dX5_clear_7 : decode cX5_clear 7 = .ok (.putfield 23, 3) := by decide +kernel
theorem dX5_clear_10 : decode cX5_clear 10 = .ok (.aload_n 0, 1) := by decide +kernel
theorem dX5_clear_11 : decode cX5_clear 11 = .ok (.iconst 0, 1) := by decide +kernel
theorem dX5_clear_12 : decode cX5_clear 12 = .ok (.putfield 26, 3) := by decide +kernel
theorem dX5_clear_15 : decode cX5_clear 15 = .ok (.aload_n 0, 1) := by decide +kernel
theorem dX5_clear_16 : decode cX5_clear 16 = .ok (.bipush 20, 2) := by decide +kernel
theorem dX5_clear_18 : decode cX5_clear 18 = .ok (.putfield 29, 3) := by decide +kernel
theorem dX5_clear_21 : decode cX5_clear 21 = .ok (.aload_n 0, 1) := by decide +kernel
theorem dX5_clear_22 : decode cX5_clear 22 = .ok (.iconst 0, 1) := by decide +kernel
theorem dX5_clear_23 : decode cX5_clear 23 = .ok (.putfield 32, 3) := by decide +kernel
theorem dX5_clear_26 : decode cX5_clear 26 = .ok (.return_, 1) := by decide +kernel
theorem dX5_copyFrom_0 : decode cX5_copyFrom 0 = .ok (.aload_n 1, 1) := by decide +kernel
theorem dX5_copyFrom_1 : decode cX5_copyFrom 1 = .ok (.getfield 9, 3) := by decide +kernel
theorem dX5_copyFrom_4 : decode cX5_copyFrom 4 = .ok (.iconst 0, 1) := by decide +kernel
theorem dX5_copyFrom_5 : decode cX5_copyFrom 5 = .ok (.aload_n 0, 1) := by decide +kernel
theorem dX5_copyFrom_6 : decode cX5_copyFrom 6 = .ok (.getfield 9, 3) := by decide +kernel
theorem dX5_copyFrom_9 : decode cX5_copyFrom 9 = .ok (.iconst 0, 1) := by decide +kernel
theorem dX5_copyFrom_10 : decode cX5_copyFrom 10 = .ok (.bipush 16, 2) := by decide +kernel
theorem dX5_copyFrom_12 : decode cX5_copyFrom 12 = .ok (.invokestatic 39, 3) := by decide +kernel
theorem dX5_copyFrom_15 : decode cX5_copyFrom 15 = .ok (.aload_n 1, 1) := by decide +kernel
theorem dX5_copyFrom_16 : decode cX5_copyFrom 16 = .ok (.getfield 15, 3) := by decide +kernel
theorem dX5_copyFrom_19 : decode cX5_copyFrom 19 = .ok (.iconst 0, 1) := by decide +kernel
theorem dX5_copyFrom_20 : decode cX5_copyFrom 20 = .ok (.aload_n 0, 1) := by decide +kernel
theorem dX5_copyFrom_21 : decode cX5_copyFrom 21 = .ok (.getfield 15, 3) := by decide +kernel
theorem dX5_copyFrom_24 : decode cX5_copyFrom 24 = .ok (.iconst 0, 1) := by decide +kernel
theorem dX5_copyFrom_25 : decode cX5_copyFrom 25 = .ok (.bipush 6, 2) := by decide +kernel
theorem dX5_copyFrom_27 : decode cX5_copyFrom 27 = .ok (.invokestatic 39, 3) := by decide +kernel
theorem dX5_copyFrom_30 : decode cX5_copyFrom 30 = .ok (.aload_n 1, 1) := by decide +kernel
theorem dX5_copyFrom_31 : decode cX5_copyFrom 31 = .ok (.getfield 36, 3) := by decide +kernel
theorem dX5_copyFrom_34 : decode cX5_copyFrom 34 = .ok (.iconst 0, 1) := by decide +kernel
theorem dX5_copyFrom_35 : decode cX5_copyFrom 35 = .ok (.aload_n 0, 1) := by decide +kernel
theorem dX5_copyFrom_36 : decode cX5_copyFrom 36 = .ok (.getfield 36, 3) := by decide +kernel
theorem dX5_copyFrom_39 : decode cX5_copyFrom 39 = .ok (.iconst 0, 1) := by decide +kernel
theorem dX5_copyFrom_40 : decode cX5_copyFrom 40 = .ok (.sipush 224, 3) := by decide +kernel
theorem dX5_copyFrom_43 : decode cX5_copyFrom 43 = .ok (.invokestatic 39, 3) := by decide +kernel
theorem dX5_copyFrom_46 : decode cX5_copyFrom 46 = .ok (.aload_n 0, 1) := by decide +kernel
theorem dX5_copyFrom_47 : decode cX5_copyFrom 47 = .ok (.aload_n 1, 1) := by decide +kernel
theorem dX5_copyFrom_48 : decode cX5_copyFrom 48 = .ok (.getfield 19, 3) := by decide +kernel
theorem dX5_copyFrom_51 : decode cX5_copyFrom 51 = .ok (.putfield 19, 3) := by decide +kernel
theorem dX5_copyFrom_54 : decode cX5_copyFrom 54 = .ok (.aload_n 0, 1) := by decide +kernel
theorem dX5_copyFrom_55 : decode cX5_copyFrom 55 = .ok (.aload_n 1, 1) := by decide +kernel
theorem dX5_copyFrom_56 : decode cX5_copyFrom 56 = .ok (.getfield 23, 3) := by decide +kernel
theorem dX5_copyFrom_59 : decode cX5_copyFrom 59 = .ok (.putfield 23, 3) := by decide +kernel
theorem dX5_copyFrom_62 : decode cX5_copyFrom 62 = .ok (.aload_n 0, 1) := by decide +kernel
theorem dX5_copyFrom_63 : decode cX5_copyFrom 63 = .ok (.aload_n 1, 1) := by decide +kernel
theorem dX5_copyFrom_64 : decode cX5_copyFrom 64 = .ok (.getfield 26, 3) := by decide +kernel
theorem dX5_copyFrom_67 : decode cX5_copyFrom 67 = .ok (.putfield 26, 3) := by decide +kernel
theorem dX5_copyFrom_70 : decode cX5_copyFrom 70 = .ok (.aload_n 0, 1) := by decide +kernel
theorem dX5_copyFrom_71 : decode cX5_copyFrom 71 = .ok (.aload_n 1, 1) := by decide +kernel
theorem dX5_copyFrom_72 : decode cX5_copyFrom 72 = .ok (.getfield 29, 3) := by decide +kernel
theorem dX5_copyFrom_75 : decode cX5_copyFrom 75 = .ok (.putfield 29, 3) := by decide +kernel
theorem dX5_copyFrom_78 : decode cX5_copyFrom 78 = .ok (.aload_n 0, 1) := by decide +kernel
theorem dX5_copyFrom_79 : decode cX5_copyFrom 79 = .ok (.aload_n 1, 1) := by decide +kernel
theorem dX5_copyFrom_80 : decode cX5_copyFrom 80 = .ok (.getfield 32, 3) := by decide +kernel
theorem dX5_copyFrom_83 : decode cX5_copyFrom 83 = .ok (.putfield 32, 3) := by decide +kernel
theorem dX5_copyFrom_86 : decode cX5_copyFrom 86 = .ok (.return_, 1) := by decide +kernel
theorem dX5_has_0 : decode cX5_has 0 = .ok (.iload_n 1, 1) := by decide +kernel
theorem dX5_has_1 : decode cX5_has 1 = .ok (.ifCond .lt 15, 3) := by decide +kernel
theorem dX5_has_4 : decode cX5_has 4 = .ok (.iload_n 1, 1) := by decide +kernel
theorem dX5_has_5 : decode cX5_has 5 = .ok (.aload_n 0, 1) := by decide +kernel
theorem dX5_has_6 : decode cX5_has 6 = .ok (.getfield 23, 3) := by decide +kernel
theorem dX5_has_9 : decode cX5_has 9 = .ok (.if_icmp .ge 7, 3) := by decide +kernel
theorem dX5_has_12 : decode cX5_has 12 = .ok (.iconst 1, 1) := by decide +kernel
theorem dX5_has_13 : decode cX5_has 13 = .ok (.goto 4, 3) := by decide +kernel
theorem dX5_has_16 : decode cX5_has 16 = .ok (.iconst 0, 1) := by decide +kernel
theorem dX5_has_17 : decode cX5_has 17 = .ok (.ireturn, 1) := by decide +kernel
theorem dX5_told_0 : decode cX5_told 0 = .ok (.iload_n 1, 1) := by decide +kernel
theorem dX5_told_1 : decode cX5_told 1 = .ok (.bipush 14, 2) := by decide +kernel
theorem dX5_told_3 : decode cX5_told 3 = .ok (.imul, 1) := by decide +kernel
theorem dX5_told_4 : decode cX5_told 4 = .ok (.iload_n 2, 1) := by decide +kernel
theorem dX5_told_5 : decode cX5_told 5 = .ok (.iadd, 1) := by decide +kernel
theorem dX5_told_6 : decode cX5_told 6 = .ok (.istore_n 3, 1) := by decide +kernel
theorem dX5_told_7 : decode cX5_told 7 = .ok (.iload_n 3, 1) := by decide +kernel
theorem dX5_told_8 : decode cX5_told 8 = .ok (.ifCond .lt 21, 3) := by decide +kernel
theorem dX5_told_11 : decode cX5_told 11 = .ok (.iload_n 3, 1) := by decide +kernel
theorem dX5_told_12 : decode cX5_told 12 = .ok (.aload_n 0, 1) := by decide +kernel
theorem dX5_told_13 : decode cX5_told 13 = .ok (.getfield 36, 3) := by decide +kernel
theorem dX5_told_16 : decode cX5_told 16 = .ok (.arraylength, 1) := by decide +kernel
theorem dX5_told_17 : decode cX5_told 17 = .ok (.if_icmp .ge 12, 3) := by decide +kernel
theorem dX5_told_20 : decode cX5_told 20 = .ok (.aload_n 0, 1) := by decide +kernel
theorem dX5_told_21 : decode cX5_told 21 = .ok (.getfield 36, 3) := by decide +kernel
theorem dX5_told_24 : decode cX5_told 24 = .ok (.iload_n 3, 1) := by decide +kernel
theorem dX5_told_25 : decode cX5_told 25 = .ok (.iaload, 1) := by decide +kernel
theorem dX5_told_26 : decode cX5_told 26 = .ok (.goto 4, 3) := by decide +kernel
theorem dX5_told_29 : decode cX5_told 29 = .ok (.iconst (-1), 1) := by decide +kernel
theorem dX5_told_30 : decode cX5_told 30 = .ok (.ireturn, 1) := by decide +kernel
theorem dX5_tell_0 : decode cX5_tell 0 = .ok (.iload_n 1, 1) := by decide +kernel
theorem dX5_tell_1 : decode cX5_tell 1 = .ok (.bipush 14, 2) := by decide +kernel
theorem dX5_tell_3 : decode cX5_tell 3 = .ok (.imul, 1) := by decide +kernel
theorem dX5_tell_4 : decode cX5_tell 4 = .ok (.iload_n 2, 1) := by decide +kernel
theorem dX5_tell_5 : decode cX5_tell 5 = .ok (.iadd, 1) := by decide +kernel
theorem dX5_tell_6 : decode cX5_tell 6 = .ok (.istore 4, 2) := by decide +kernel
theorem dX5_tell_8 : decode cX5_tell 8 = .ok (.iload 4, 2) := by decide +kernel
theorem dX5_tell_10 : decode cX5_tell 10 = .ok (.ifCond .lt 21, 3) := by decide +kernel
theorem dX5_tell_13 : decode cX5_tell 13 = .ok (.iload 4, 2) := by decide +kernel
theorem dX5_tell_15 : decode cX5_tell 15 = .ok (.aload_n 0, 1) := by decide +kernel
theorem dX5_tell_16 : decode cX5_tell 16 = .ok (.getfield 36, 3) := by decide +kernel
theorem dX5_tell_19 : decode cX5_tell 19 = .ok (.arraylength, 1) := by decide +kernel
theorem dX5_tell_20 : decode cX5_tell 20 = .ok (.if_icmp .ge 11, 3) := by decide +kernel
theorem dX5_tell_23 : decode cX5_tell 23 = .ok (.aload_n 0, 1) := by decide +kernel
theorem dX5_tell_24 : decode cX5_tell 24 = .ok (.getfield 36, 3) := by decide +kernel
theorem dX5_tell_27 : decode cX5_tell 27 = .ok (.iload 4, 2) := by decide +kernel
theorem dX5_tell_29 : decode cX5_tell 29 = .ok (.iload_n 3, 1) := by decide +kernel
theorem dX5_tell_30 : decode cX5_tell 30 = .ok (.iastore, 1) := by decide +kernel
theorem dX5_tell_31 : decode cX5_tell 31 = .ok (.return_, 1) := by decide +kernel
theorem dX5_addThing_0 : decode cX5_addThing 0 = .ok (.aload_n 0, 1) := by decide +kernel
theorem dX5_addThing_1 : decode cX5_addThing 1 = .ok (.getfield 23, 3) := by decide +kernel
theorem dX5_addThing_4 : decode cX5_addThing 4 = .ok (.bipush 16, 2) := by decide +kernel
theorem dX5_addThing_6 : decode cX5_addThing 6 = .ok (.if_icmp .lt 4, 3) := by decide +kernel
theorem dX5_addThing_9 : decode cX5_addThing 9 = .ok (.return_, 1) := by decide +kernel
theorem dX5_addThing_10 : decode cX5_addThing 10 = .ok (.aload_n 0, 1) := by decide +kernel
theorem dX5_addThing_11 : decode cX5_addThing 11 = .ok (.getfield 23, 3) := by decide +kernel
theorem dX5_addThing_14 : decode cX5_addThing 14 = .ok (.istore_n 2, 1) := by decide +kernel
theorem dX5_addThing_15 : decode cX5_addThing 15 = .ok (.aload_n 0, 1) := by decide +kernel
theorem dX5_addThing_16 : decode cX5_addThing 16 = .ok (.dup, 1) := by decide +kernel
theorem dX5_addThing_17 : decode cX5_addThing 17 = .ok (.getfield 23, 3) := by decide +kernel
theorem dX5_addThing_20 : decode cX5_addThing 20 = .ok (.iconst 1, 1) := by decide +kernel
theorem dX5_addThing_21 : decode cX5_addThing 21 = .ok (.iadd, 1) := by decide +kernel
theorem dX5_addThing_22 : decode cX5_addThing 22 = .ok (.putfield 23, 3) := by decide +kernel
theorem dX5_addThing_25 : decode cX5_addThing 25 = .ok (.aload_n 0, 1) := by decide +kernel
theorem dX5_addThing_26 : decode cX5_addThing 26 = .ok (.getfield 9, 3) := by decide +kernel
theorem dX5_addThing_29 : decode cX5_addThing 29 = .ok (.iload_n 2, 1) := by decide +kernel
theorem dX5_addThing_30 : decode cX5_addThing 30 = .ok (.lconst 0, 1) := by decide +kernel
theorem dX5_addThing_31 : decode cX5_addThing 31 = .ok (.lastore, 1) := by decide +kernel
theorem dX5_addThing_32 : decode cX5_addThing 32 = .ok (.iconst 0, 1) := by decide +kernel
theorem dX5_addThing_33 : decode cX5_addThing 33 = .ok (.istore_n 3, 1) := by decide +kernel
theorem dX5_addThing_34 : decode cX5_addThing 34 = .ok (.iload_n 3, 1) := by decide +kernel
theorem dX5_addThing_35 : decode cX5_addThing 35 = .ok (.bipush 14, 2) := by decide +kernel
theorem dX5_addThing_37 : decode cX5_addThing 37 = .ok (.if_icmp .ge 16, 3) := by decide +kernel
theorem dX5_addThing_40 : decode cX5_addThing 40 = .ok (.aload_n 0, 1) := by decide +kernel
theorem dX5_addThing_41 : decode cX5_addThing 41 = .ok (.iload_n 2, 1) := by decide +kernel
theorem dX5_addThing_42 : decode cX5_addThing 42 = .ok (.iload_n 3, 1) := by decide +kernel
theorem dX5_addThing_43 : decode cX5_addThing 43 = .ok (.iconst (-1), 1) := by decide +kernel
theorem dX5_addThing_44 : decode cX5_addThing 44 = .ok (.invokevirtual 45, 3) := by decide +kernel
theorem dX5_addThing_47 : decode cX5_addThing 47 = .ok (.iinc 3 1, 3) := by decide +kernel
theorem dX5_addThing_50 : decode cX5_addThing 50 = .ok (.goto (-16), 3) := by decide +kernel
theorem dX5_addThing_53 : decode cX5_addThing 53 = .ok (.aload_n 0, 1) := by decide +kernel
theorem dX5_addThing_54 : decode cX5_addThing 54 = .ok (.iload_n 2, 1) := by decide +kernel
theorem dX5_addThing_55 : decode cX5_addThing 55 = .ok (.iconst 0, 1) := by decide +kernel
theorem dX5_addThing_56 : decode cX5_addThing 56 = .ok (.iload_n 1, 1) := by decide +kernel
theorem dX5_addThing_57 : decode cX5_addThing 57 = .ok (.invokevirtual 45, 3) := by decide +kernel
theorem dX5_addThing_60 : decode cX5_addThing 60 = .ok (.aload_n 0, 1) := by decide +kernel
theorem dX5_addThing_61 : decode cX5_addThing 61 = .ok (.iload_n 2, 1) := by decide +kernel
theorem dX5_addThing_62 : decode cX5_addThing 62 = .ok (.iconst 3, 1) := by decide +kernel
theorem dX5_addThing_63 : decode cX5_addThing 63 = .ok (.iconst 0, 1) := by decide +kernel
theorem dX5_addThing_64 : decode cX5_addThing 64 = .ok (.invokevirtual 45, 3) := by decide +kernel
theorem dX5_addThing_67 : decode cX5_addThing 67 = .ok (.aload_n 0, 1) := by decide +kernel
theorem dX5_addThing_68 : decode cX5_addThing 68 = .ok (.iload_n 2, 1) := by decide +kernel
theorem dX5_addThing_69 : decode cX5_addThing 69 = .ok (.iconst 4, 1) := by decide +kernel
theorem dX5_addThing_70 : decode cX5_addThing 70 = .ok (.bipush 100, 2) := by decide +kernel
theorem dX5_addThing_72 : decode cX5_addThing 72 = .ok (.invokevirtual 45, 3) := by decide +kernel
theorem dX5_addThing_75 : decode cX5_addThing 75 = .ok (.aload_n 0, 1) := by decide +kernel
theorem dX5_addThing_76 : decode cX5_addThing 76 = .ok (.iload_n 2, 1) := by decide +kernel
theorem dX5_addThing_77 : decode cX5_addThing 77 = .ok (.iconst 5, 1) := by decide +kernel
theorem dX5_addThing_78 : decode cX5_addThing 78 = .ok (.iconst 5, 1) := by decide +kernel
theorem dX5_addThing_79 : decode cX5_addThing 79 = .ok (.invokevirtual 45, 3) := by decide +kernel
theorem dX5_addThing_82 : decode cX5_addThing 82 = .ok (.aload_n 0, 1) := by decide +kernel
theorem dX5_addThing_83 : decode cX5_addThing 83 = .ok (.iload_n 2, 1) := by decide +kernel
theorem dX5_addThing_84 : decode cX5_addThing 84 = .ok (.bipush 6, 2) := by decide +kernel
theorem dX5_addThing_86 : decode cX5_addThing 86 = .ok (.bipush 50, 2) := by decide +kernel
theorem dX5_addThing_88 : decode cX5_addThing 88 = .ok (.invokevirtual 45, 3) := by decide +kernel
theorem dX5_addThing_91 : decode cX5_addThing 91 = .ok (.aload_n 0, 1) := by decide +kernel
theorem dX5_addThing_92 : decode cX5_addThing 92 = .ok (.iload_n 2, 1) := by decide +kernel
theorem dX5_addThing_93 : decode cX5_addThing 93 = .ok (.bipush 7, 2) := by decide +kernel
theorem dX5_addThing_95 : decode cX5_addThing 95 = .ok (.iconst 1, 1) := by decide +kernel
theorem dX5_addThing_96 : decode cX5_addThing 96 = .ok (.invokevirtual 45, 3) := by decide +kernel
theorem dX5_addThing_99 : decode cX5_addThing 99 = .ok (.return_, 1) := by decide +kernel
theorem dX5_addCells_0 : decode cX5_addCells 0 = .ok (.iload_n 2, 1) := by decide +kernel
theorem dX5_addCells_1 : decode cX5_addCells 1 = .ok (.istore 4, 2) := by decide +kernel
theorem dX5_addCells_3 : decode cX5_addCells 3 = .ok (.iload 4, 2) := by decide +kernel
theorem dX5_addCells_5 : decode cX5_addCells 5 = .ok (.iload_n 3, 1) := by decide +kernel
theorem dX5_addCells_6 : decode cX5_addCells 6 = .ok (.if_icmp .gt 22, 3) := by decide +kernel
theorem dX5_addCells_9 : decode cX5_addCells 9 = .ok (.aload_n 0, 1) := by decide +kernel
theorem dX5_addCells_10 : decode cX5_addCells 10 = .ok (.getfield 9, 3) := by decide +kernel
theorem dX5_addCells_13 : decode cX5_addCells 13 = .ok (.iload_n 1, 1) := by decide +kernel
theorem dX5_addCells_14 : decode cX5_addCells 14 = .ok (.dup2, 1) := by decide +kernel
theorem dX5_addCells_15 : decode cX5_addCells 15 = .ok (.laload, 1) := by decide +kernel
theorem dX5_addCells_16 : decode cX5_addCells 16 = .ok (.lconst 1, 1) := by decide +kernel
theorem dX5_addCells_17 : decode cX5_addCells 17 = .ok (.iload 4, 2) := by decide +kernel
theorem dX5_addCells_19 : decode cX5_addCells 19 = .ok (.lshl, 1) := by decide +kernel
theorem dX5_addCells_20 : decode cX5_addCells 20 = .ok (.lor, 1) := by decide +kernel
theorem dX5_addCells_21 : decode cX5_addCells 21 = .ok (.lastore, 1) := by decide +kernel
theorem dX5_addCells_22 : decode cX5_addCells 22 = .ok (.iinc 4 1, 3) := by decide +kernel
theorem dX5_addCells_25 : decode cX5_addCells 25 = .ok (.goto (-22), 3) := by decide +kernel
theorem dX5_addCells_28 : decode cX5_addCells 28 = .ok (.return_, 1) := by decide +kernel
theorem dX5_addVoice_0 : decode cX5_addVoice 0 = .ok (.aload_n 0, 1) := by decide +kernel
theorem dX5_addVoice_1 : decode cX5_addVoice 1 = .ok (.iload_n 1, 1) := by decide +kernel
theorem dX5_addVoice_2 : decode cX5_addVoice 2 = .ok (.iconst 3, 1) := by decide +kernel
theorem dX5_addVoice_3 : decode cX5_addVoice 3 = .ok (.aload_n 0, 1) := by decide +kernel
theorem dX5_addVoice_4 : decode cX5_addVoice 4 = .ok (.iload_n 1, 1) := by decide +kernel
theorem dX5_addVoice_5 : decode cX5_addVoice 5 = .ok (.iconst 3, 1) := by decide +kernel
theorem dX5_addVoice_6 : decode cX5_addVoice 6 = .ok (.invokevirtual 49, 3) := by decide +kernel
theorem dX5_addVoice_9 : decode cX5_addVoice 9 = .ok (.iconst 1, 1) := by decide +kernel
theorem dX5_addVoice_10 : decode cX5_addVoice 10 = .ok (.iload_n 2, 1) := by decide +kernel
theorem dX5_addVoice_11 : decode cX5_addVoice 11 = .ok (.ishl, 1) := by decide +kernel
theorem dX5_addVoice_12 : decode cX5_addVoice 12 = .ok (.ior, 1) := by decide +kernel
theorem dX5_addVoice_13 : decode cX5_addVoice 13 = .ok (.invokevirtual 45, 3) := by decide +kernel
theorem dX5_addVoice_16 : decode cX5_addVoice 16 = .ok (.return_, 1) := by decide +kernel
theorem dX5_hasPlaceAt_0 : decode cX5_hasPlaceAt 0 = .ok (.iconst 0, 1) := by decide +kernel
theorem dX5_hasPlaceAt_1 : decode cX5_hasPlaceAt 1 = .ok (.istore_n 2, 1) := by decide +kernel
theorem dX5_hasPlaceAt_2 : decode cX5_hasPlaceAt 2 = .ok (.iload_n 2, 1) := by decide +kernel
theorem dX5_hasPlaceAt_3 : decode cX5_hasPlaceAt 3 = .ok (.aload_n 0, 1) := by decide +kernel
theorem dX5_hasPlaceAt_4 : decode cX5_hasPlaceAt 4 = .ok (.getfield 26, 3) := by decide +kernel
theorem dX5_hasPlaceAt_7 : decode cX5_hasPlaceAt 7 = .ok (.if_icmp .ge 21, 3) := by decide +kernel
theorem dX5_hasPlaceAt_10 : decode cX5_hasPlaceAt 10 = .ok (.aload_n 0, 1) := by decide +kernel
theorem dX5_hasPlaceAt_11 : decode cX5_hasPlaceAt 11 = .ok (.getfield 15, 3) := by decide +kernel
theorem dX5_hasPlaceAt_14 : decode cX5_hasPlaceAt 14 = .ok (.iload_n 2, 1) := by decide +kernel
theorem dX5_hasPlaceAt_15 : decode cX5_hasPlaceAt 15 = .ok (.iaload, 1) := by decide +kernel
theorem dX5_hasPlaceAt_16 : decode cX5_hasPlaceAt 16 = .ok (.iload_n 1, 1) := by decide +kernel
theorem dX5_hasPlaceAt_17 : decode cX5_hasPlaceAt 17 = .ok (.if_icmp .ne 5, 3) := by decide +kernel
theorem dX5_hasPlaceAt_20 : decode cX5_hasPlaceAt 20 = .ok (.iconst 1, 1) := by decide +kernel
theorem dX5_hasPlaceAt_21 : decode cX5_hasPlaceAt 21 = .ok (.ireturn, 1) := by decide +kernel
theorem dX5_hasPlaceAt_22 : decode cX5_hasPlaceAt 22 = .ok (.iinc 2 1, 3) := by decide +kernel
theorem dX5_hasPlaceAt_25 : decode cX5_hasPlaceAt 25 = .ok (.goto (-23), 3) := by decide +kernel
theorem dX5_hasPlaceAt_28 : decode cX5_hasPlaceAt 28 = .ok (.iconst 0, 1) := by decide +kernel
theorem dX5_hasPlaceAt_29 : decode cX5_hasPlaceAt 29 = .ok (.ireturn, 1) := by decide +kernel
theorem dX5_isDead_0 : decode cX5_isDead 0 = .ok (.aload_n 0, 1) := by decide +kernel
theorem dX5_isDead_1 : decode cX5_isDead 1 = .ok (.getfield 36, 3) := by decide +kernel
theorem dX5_isDead_4 : decode cX5_isDead 4 = .ok (.iload_n 1, 1) := by decide +kernel
theorem dX5_isDead_5 : decode cX5_isDead 5 = .ok (.bipush 14, 2) := by decide +kernel
theorem dX5_isDead_7 : decode cX5_isDead 7 = .ok (.imul, 1) := by decide +kernel
theorem dX5_isDead_8 : decode cX5_isDead 8 = .ok (.bipush 8, 2) := by decide +kernel
theorem dX5_isDead_10 : decode cX5_isDead 10 = .ok (.iadd, 1) := by decide +kernel
theorem dX5_isDead_11 : decode cX5_isDead 11 = .ok (.iaload, 1) := by decide +kernel
theorem dX5_isDead_12 : decode cX5_isDead 12 = .ok (.iconst (-1), 1) := by decide +kernel
theorem dX5_isDead_13 : decode cX5_isDead 13 = .ok (.if_icmp .eq 7, 3) := by decide +kernel
theorem dX5_isDead_16 : decode cX5_isDead 16 = .ok (.iconst 1, 1) := by decide +kernel
theorem dX5_isDead_17 : decode cX5_isDead 17 = .ok (.goto 4, 3) := by decide +kernel
theorem dX5_isDead_20 : decode cX5_isDead 20 = .ok (.iconst 0, 1) := by decide +kernel
theorem dX5_isDead_21 : decode cX5_isDead 21 = .ok (.ireturn, 1) := by decide +kernel
theorem dX5_hasVoice_0 : decode cX5_hasVoice 0 = .ok (.aload_n 0, 1) := by decide +kernel
theorem dX5_hasVoice_1 : decode cX5_hasVoice 1 = .ok (.getfield 36, 3) := by decide +kernel
theorem dX5_hasVoice_4 : decode cX5_hasVoice 4 = .ok (.iload_n 1, 1) := by decide +kernel
theorem dX5_hasVoice_5 : decode cX5_hasVoice 5 = .ok (.bipush 14, 2) := by decide +kernel
theorem dX5_hasVoice_7 : decode cX5_hasVoice 7 = .ok (.imul, 1) := by decide +kernel
theorem dX5_hasVoice_8 : decode cX5_hasVoice 8 = .ok (.iconst 3, 1) := by decide +kernel
theorem dX5_hasVoice_9 : decode cX5_hasVoice 9 = .ok (.iadd, 1) := by decide +kernel
theorem dX5_hasVoice_10 : decode cX5_hasVoice 10 = .ok (.iaload, 1) := by decide +kernel
theorem dX5_hasVoice_11 : decode cX5_hasVoice 11 = .ok (.iload_n 2, 1) := by decide +kernel
theorem dX5_hasVoice_12 : decode cX5_hasVoice 12 = .ok (.ishr, 1) := by decide +kernel
theorem dX5_hasVoice_13 : decode cX5_hasVoice 13 = .ok (.iconst 1, 1) := by decide +kernel
theorem dX5_hasVoice_14 : decode cX5_hasVoice 14 = .ok (.iand, 1) := by decide +kernel
theorem dX5_hasVoice_15 : decode cX5_hasVoice 15 = .ok (.ifCond .eq 7, 3) := by decide +kernel
theorem dX5_hasVoice_18 : decode cX5_hasVoice 18 = .ok (.iconst 1, 1) := by decide +kernel
theorem dX5_hasVoice_19 : decode cX5_hasVoice 19 = .ok (.goto 4, 3) := by decide +kernel
theorem dX5_hasVoice_22 : decode cX5_hasVoice 22 = .ok (.iconst 0, 1) := by decide +kernel
theorem dX5_hasVoice_23 : decode cX5_hasVoice 23 = .ok (.ireturn, 1) := by decide +kernel
theorem dX5_shareCell_0 : decode cX5_shareCell 0 = .ok (.aload_n 0, 1) := by decide +kernel
theorem dX5_shareCell_1 : decode cX5_shareCell 1 = .ok (.getfield 9, 3) := by decide +kernel
theorem dX5_shareCell_4 : decode cX5_shareCell 4 = .ok (.iload_n 1, 1) := by decide +kernel
theorem dX5_shareCell_5 : decode cX5_shareCell 5 = .ok (.laload, 1) := by decide +kernel
theorem dX5_shareCell_6 : decode cX5_shareCell 6 = .ok (.aload_n 0, 1) := by decide +kernel
theorem dX5_shareCell_7 : decode cX5_shareCell 7 = .ok (.getfield 9, 3) := by decide +kernel
theorem dX5_shareCell_10 : decode cX5_shareCell 10 = .ok (.iload_n 2, 1) := by decide +kernel
theorem dX5_shareCell_11 : decode cX5_shareCell 11 = .ok (.laload, 1) := by decide +kernel
theorem dX5_shareCell_12 : decode cX5_shareCell 12 = .ok (.land, 1) := by decide +kernel
theorem dX5_shareCell_13 : decode cX5_shareCell 13 = .ok (.lconst 0, 1) := by decide +kernel
theorem dX5_shareCell_14 : decode cX5_shareCell 14 = .ok (.lcmp, 1) := by decide +kernel
theorem dX5_shareCell_15 : decode cX5_shareCell 15 = .ok (.ifCond .eq 7, 3) := by decide +kernel
theorem dX5_shareCell_18 : decode cX5_shareCell 18 = .ok (.iconst 1, 1) := by decide +kernel
theorem dX5_shareCell_19 : decode cX5_shareCell 19 = .ok (.goto 4, 3) := by decide +kernel
theorem dX5_shareCell_22 : decode cX5_shareCell 22 = .ok (.iconst 0, 1) := by decide +kernel
theorem dX5_shareCell_23 : decode cX5_shareCell 23 = .ok (.ireturn, 1) := by decide +kernel
theorem dX5_isInArc_0 : decode cX5_isInArc 0 = .ok (.aload_n 0, 1) := by decide +kernel
theorem dX5_isInArc_1 : decode cX5_isInArc 1 = .ok (.getfield 36, 3) := by decide +kernel
theorem dX5_isInArc_4 : decode cX5_isInArc 4 = .ok (.iload_n 1, 1) := by decide +kernel
theorem dX5_isInArc_5 : decode cX5_isInArc 5 = .ok (.bipush 14, 2) := by decide +kernel
theorem dX5_isInArc_7 : decode cX5_isInArc 7 = .ok (.imul, 1) := by decide +kernel
theorem dX5_isInArc_8 : decode cX5_isInArc 8 = .ok (.iconst 1, 1) := by decide +kernel
theorem dX5_isInArc_9 : decode cX5_isInArc 9 = .ok (.iadd, 1) := by decide +kernel
theorem dX5_isInArc_10 : decode cX5_isInArc 10 = .ok (.iaload, 1) := by decide +kernel
theorem dX5_isInArc_11 : decode cX5_isInArc 11 = .ok (.istore_n 3, 1) := by decide +kernel
theorem dX5_isInArc_12 : decode cX5_isInArc 12 = .ok (.aload_n 0, 1) := by decide +kernel
theorem dX5_isInArc_13 : decode cX5_isInArc 13 = .ok (.getfield 36, 3) := by decide +kernel
theorem dX5_isInArc_16 : decode cX5_isInArc 16 = .ok (.iload_n 1, 1) := by decide +kernel
theorem dX5_isInArc_17 : decode cX5_isInArc 17 = .ok (.bipush 14, 2) := by decide +kernel
theorem dX5_isInArc_19 : decode cX5_isInArc 19 = .ok (.imul, 1) := by decide +kernel
theorem dX5_isInArc_20 : decode cX5_isInArc 20 = .ok (.iconst 2, 1) := by decide +kernel
theorem dX5_isInArc_21 : decode cX5_isInArc 21 = .ok (.iadd, 1) := by decide +kernel
theorem dX5_isInArc_22 : decode cX5_isInArc 22 = .ok (.iaload, 1) := by decide +kernel
theorem dX5_isInArc_23 : decode cX5_isInArc 23 = .ok (.istore 4, 2) := by decide +kernel
theorem dX5_isInArc_25 : decode cX5_isInArc 25 = .ok (.iload_n 3, 1) := by decide +kernel
theorem dX5_isInArc_26 : decode cX5_isInArc 26 = .ok (.iload 4, 2) := by decide +kernel
theorem dX5_isInArc_28 : decode cX5_isInArc 28 = .ok (.if_icmp .gt 20, 3) := by decide +kernel
theorem dX5_isInArc_31 : decode cX5_isInArc 31 = .ok (.iload_n 2, 1) := by decide +kernel
theorem dX5_isInArc_32 : decode cX5_isInArc 32 = .ok (.iload_n 3, 1) := by decide +kernel
theorem dX5_isInArc_33 : decode cX5_isInArc 33 = .ok (.if_icmp .lt 13, 3) := by decide +kernel
theorem dX5_isInArc_36 : decode cX5_isInArc 36 = .ok (.iload_n 2, 1) := by decide +kernel
theorem dX5_isInArc_37 : decode cX5_isInArc 37 = .ok (.iload 4, 2) := by decide +kernel
theorem dX5_isInArc_39 : decode cX5_isInArc 39 = .ok (.if_icmp .gt 7, 3) := by decide +kernel
theorem dX5_isInArc_42 : decode cX5_isInArc 42 = .ok (.iconst 1, 1) := by decide +kernel
theorem dX5_isInArc_43 : decode cX5_isInArc 43 = .ok (.goto 4, 3) := by decide +kernel
theorem dX5_isInArc_46 : decode cX5_isInArc 46 = .ok (.iconst 0, 1) := by decide +kernel
theorem dX5_isInArc_47 : decode cX5_isInArc 47 = .ok (.ireturn, 1) := by decide +kernel
theorem dX5_isInArc_48 : decode cX5_isInArc 48 = .ok (.iload_n 2, 1) := by decide +kernel
theorem dX5_isInArc_49 : decode cX5_isInArc 49 = .ok (.iload_n 3, 1) := by decide +kernel
theorem dX5_isInArc_50 : decode cX5_isInArc 50 = .ok (.if_icmp .ge 9, 3) := by decide +kernel
theorem dX5_isInArc_53 : decode cX5_isInArc 53 = .ok (.iload_n 2, 1) := by decide +kernel
theorem dX5_isInArc_54 : decode cX5_isInArc 54 = .ok (.iload 4, 2) := by decide +kernel
theorem dX5_isInArc_56 : decode cX5_isInArc 56 = .ok (.if_icmp .gt 7, 3) := by decide +kernel
theorem dX5_isInArc_59 : decode cX5_isInArc 59 = .ok (.iconst 1, 1) := by decide +kernel
theorem dX5_isInArc_60 : decode cX5_isInArc 60 = .ok (.goto 4, 3) := by decide +kernel
theorem dX5_isInArc_63 : decode cX5_isInArc 63 = .ok (.iconst 0, 1) := by decide +kernel
theorem dX5_isInArc_64 : decode cX5_isInArc 64 = .ok (.ireturn, 1) := by decide +kernel
theorem dX5_middleOfArc_0 : decode cX5_middleOfArc 0 = .ok (.aload_n 0, 1) := by decide +kernel
theorem dX5_middleOfArc_1 : decode cX5_middleOfArc 1 = .ok (.iload_n 1, 1) := by decide +kernel
theorem dX5_middleOfArc_2 : decode cX5_middleOfArc 2 = .ok (.iconst 1, 1) := by decide +kernel
theorem dX5_middleOfArc_3 : decode cX5_middleOfArc 3 = .ok (.invokevirtual 49, 3) := by decide +kernel
theorem dX5_middleOfArc_6 : decode cX5_middleOfArc 6 = .ok (.istore_n 2, 1) := by decide +kernel
theorem dX5_middleOfArc_7 : decode cX5_middleOfArc 7 = .ok (.aload_n 0, 1) := by decide +kernel
theorem dX5_middleOfArc_8 : decode cX5_middleOfArc 8 = .ok (.iload_n 1, 1) := by decide +kernel
theorem dX5_middleOfArc_9 : decode cX5_middleOfArc 9 = .ok (.iconst 2, 1) := by decide +kernel
theorem dX5_middleOfArc_10 : decode cX5_middleOfArc 10 = .ok (.invokevirtual 49, 3) := by decide +kernel
theorem dX5_middleOfArc_13 : decode cX5_middleOfArc 13 = .ok (.iload_n 2, 1) := by decide +kernel
theorem dX5_middleOfArc_14 : decode cX5_middleOfArc 14 = .ok (.isub, 1) := by decide +kernel
theorem dX5_middleOfArc_15 : decode cX5_middleOfArc 15 = .ok (.sipush 3600, 3) := by decide +kernel
theorem dX5_middleOfArc_18 : decode cX5_middleOfArc 18 = .ok (.invokestatic 53, 3) := by decide +kernel
theorem dX5_middleOfArc_21 : decode cX5_middleOfArc 21 = .ok (.istore_n 3, 1) := by decide +kernel
theorem dX5_middleOfArc_22 : decode cX5_middleOfArc 22 = .ok (.iload_n 2, 1) := by decide +kernel
theorem dX5_middleOfArc_23 : decode cX5_middleOfArc 23 = .ok (.iload_n 3, 1) := by decide +kernel
theorem dX5_middleOfArc_24 : decode cX5_middleOfArc 24 = .ok (.iconst 2, 1) := by decide +kernel
theorem dX5_middleOfArc_25 : decode cX5_middleOfArc 25 = .ok (.idiv, 1) := by decide +kernel
theorem dX5_middleOfArc_26 : decode cX5_middleOfArc 26 = .ok (.iadd, 1) := by decide +kernel
theorem dX5_middleOfArc_27 : decode cX5_middleOfArc 27 = .ok (.sipush 3600, 3) := by decide +kernel
theorem dX5_middleOfArc_30 : decode cX5_middleOfArc 30 = .ok (.irem, 1) := by decide +kernel
theorem dX5_middleOfArc_31 : decode cX5_middleOfArc 31 = .ok (.ireturn, 1) := by decide +kernel
theorem dX5_needOf_0 : decode cX5_needOf 0 = .ok (.aload_n 0, 1) := by decide +kernel
theorem dX5_needOf_1 : decode cX5_needOf 1 = .ok (.iload_n 1, 1) := by decide +kernel
theorem dX5_needOf_2 : decode cX5_needOf 2 = .ok (.iload_n 2, 1) := by decide +kernel
theorem dX5_needOf_3 : decode cX5_needOf 3 = .ok (.invokevirtual 58, 3) := by decide +kernel
theorem dX5_needOf_6 : decode cX5_needOf 6 = .ok (.ifCond .ne 5, 3) := by decide +kernel
theorem dX5_needOf_9 : decode cX5_needOf 9 = .ok (.iconst 0, 1) := by decide +kernel
theorem dX5_needOf_10 : decode cX5_needOf 10 = .ok (.ireturn, 1) := by decide +kernel
theorem dX5_needOf_11 : decode cX5_needOf 11 = .ok (.aload_n 0, 1) := by decide +kernel
theorem dX5_needOf_12 : decode cX5_needOf 12 = .ok (.getfield 29, 3) := by decide +kernel
theorem dX5_needOf_15 : decode cX5_needOf 15 = .ok (.aload_n 0, 1) := by decide +kernel
theorem dX5_needOf_16 : decode cX5_needOf 16 = .ok (.iload_n 1, 1) := by decide +kernel
theorem dX5_needOf_17 : decode cX5_needOf 17 = .ok (.iload_n 2, 1) := by decide +kernel
theorem dX5_needOf_18 : decode cX5_needOf 18 = .ok (.invokevirtual 62, 3) := by decide +kernel
theorem dX5_needOf_21 : decode cX5_needOf 21 = .ok (.aload_n 0, 1) := by decide +kernel
theorem dX5_needOf_22 : decode cX5_needOf 22 = .ok (.iload_n 2, 1) := by decide +kernel
theorem dX5_needOf_23 : decode cX5_needOf 23 = .ok (.iload_n 1, 1) := by decide +kernel
theorem dX5_needOf_24 : decode cX5_needOf 24 = .ok (.invokevirtual 62, 3) := by decide +kernel
theorem dX5_needOf_27 : decode cX5_needOf 27 = .ok (.invokestatic 65, 3) := by decide +kernel
theorem dX5_needOf_30 : decode cX5_needOf 30 = .ok (.invokestatic 65, 3) := by decide +kernel
theorem dX5_needOf_33 : decode cX5_needOf 33 = .ok (.istore_n 3, 1) := by decide +kernel
theorem dX5_needOf_34 : decode cX5_needOf 34 = .ok (.iload_n 3, 1) := by decide +kernel
theorem dX5_needOf_35 : decode cX5_needOf 35 = .ok (.sipush 1800, 3) := by decide +kernel
theorem dX5_needOf_38 : decode cX5_needOf 38 = .ok (.if_icmp .gt 7, 3) := by decide +kernel
theorem dX5_needOf_41 : decode cX5_needOf 41 = .ok (.iload_n 3, 1) := by decide +kernel
theorem dX5_needOf_42 : decode cX5_needOf 42 = .ok (.goto 4, 3) := by decide +kernel
theorem dX5_needOf_45 : decode cX5_needOf 45 = .ok (.iconst (-1), 1) := by decide +kernel
theorem dX5_needOf_46 : decode cX5_needOf 46 = .ok (.ireturn, 1) := by decide +kernel
theorem dX5_quietFrom_0 : decode cX5_quietFrom 0 = .ok (.aload_n 0, 1) := by decide +kernel
theorem dX5_quietFrom_1 : decode cX5_quietFrom 1 = .ok (.iload_n 1, 1) := by decide +kernel
theorem dX5_quietFrom_2 : decode cX5_quietFrom 2 = .ok (.iconst 4, 1) := by decide +kernel
theorem dX5_quietFrom_3 : decode cX5_quietFrom 3 = .ok (.invokevirtual 49, 3) := by decide +kernel
theorem dX5_quietFrom_6 : decode cX5_quietFrom 6 = .ok (.sipush 1000, 3) := by decide +kernel
theorem dX5_quietFrom_9 : decode cX5_quietFrom 9 = .ok (.imul, 1) := by decide +kernel
theorem dX5_quietFrom_10 : decode cX5_quietFrom 10 = .ok (.iconst 1, 1) := by decide +kernel
theorem dX5_quietFrom_11 : decode cX5_quietFrom 11 = .ok (.aload_n 0, 1) := by decide +kernel
theorem dX5_quietFrom_12 : decode cX5_quietFrom 12 = .ok (.iload_n 2, 1) := by decide +kernel
theorem dX5_quietFrom_13 : decode cX5_quietFrom 13 = .ok (.bipush 6, 2) := by decide +kernel
theorem dX5_quietFrom_15 : decode cX5_quietFrom 15 = .ok (.invokevirtual 49, 3) := by decide +kernel
theorem dX5_quietFrom_18 : decode cX5_quietFrom 18 = .ok (.iconst 1, 1) := by decide +kernel
theorem dX5_quietFrom_19 : decode cX5_quietFrom 19 = .ok (.iadd, 1) := by decide +kernel
theorem dX5_quietFrom_20 : decode cX5_quietFrom 20 = .ok (.invokestatic 65, 3) := by decide +kernel
theorem dX5_quietFrom_23 : decode cX5_quietFrom 23 = .ok (.idiv, 1) := by decide +kernel
theorem dX5_quietFrom_24 : decode cX5_quietFrom 24 = .ok (.istore_n 3, 1) := by decide +kernel
theorem dX5_quietFrom_25 : decode cX5_quietFrom 25 = .ok (.iconst 1, 1) := by decide +kernel
theorem dX5_quietFrom_26 : decode cX5_quietFrom 26 = .ok (.aload_n 0, 1) := by decide +kernel
theorem dX5_quietFrom_27 : decode cX5_quietFrom 27 = .ok (.iload_n 1, 1) := by decide +kernel
theorem dX5_quietFrom_28 : decode cX5_quietFrom 28 = .ok (.iconst 5, 1) := by decide +kernel
theorem dX5_quietFrom_29 : decode cX5_quietFrom 29 = .ok (.invokevirtual 49, 3) := by decide +kernel
theorem dX5_quietFrom_32 : decode cX5_quietFrom 32 = .ok (.invokestatic 65, 3) := by decide +kernel
theorem dX5_quietFrom_35 : decode cX5_quietFrom 35 = .ok (.istore 4, 2) := by decide +kernel
theorem dX5_quietFrom_37 : decode cX5_quietFrom 37 = .ok (.iload_n 3, 1) := by decide +kernel
theorem dX5_quietFrom_38 : decode cX5_quietFrom 38 = .ok (.iconst 1, 1) := by decide +kernel
theorem dX5_quietFrom_39 : decode cX5_quietFrom 39 = .ok (.iadd, 1) := by decide +kernel
theorem dX5_quietFrom_40 : decode cX5_quietFrom 40 = .ok (.bipush 10, 2) := by decide +kernel
theorem dX5_quietFrom_42 : decode cX5_quietFrom 42 = .ok (.isub, 1) := by decide +kernel
theorem dX5_quietFrom_43 : decode cX5_quietFrom 43 = .ok (.istore 5, 2) := by decide +kernel
theorem dX5_quietFrom_45 : decode cX5_quietFrom 45 = .ok (.iload 5, 2) := by decide +kernel
theorem dX5_quietFrom_47 : decode cX5_quietFrom 47 = .ok (.ifCond .gt 7, 3) := by decide +kernel
theorem dX5_quietFrom_50 : decode cX5_quietFrom 50 = .ok (.iconst 0, 1) := by decide +kernel
theorem dX5_quietFrom_51 : decode cX5_quietFrom 51 = .ok (.goto 13, 3) := by decide +kernel
theorem dX5_quietFrom_54 : decode cX5_quietFrom 54 = .ok (.iload 5, 2) := by decide +kernel
theorem dX5_quietFrom_56 : decode cX5_quietFrom 56 = .ok (.iload 4, 2) := by decide +kernel
theorem dX5_quietFrom_58 : decode cX5_quietFrom 58 = .ok (.iadd, 1) := by decide +kernel
theorem dX5_quietFrom_59 : decode cX5_quietFrom 59 = .ok (.iconst 1, 1) := by decide +kernel
theorem dX5_quietFrom_60 : decode cX5_quietFrom 60 = .ok (.isub, 1) := by decide +kernel
theorem dX5_quietFrom_61 : decode cX5_quietFrom 61 = .ok (.iload 4, 2) := by decide +kernel
theorem dX5_quietFrom_63 : decode cX5_quietFrom 63 = .ok (.idiv, 1) := by decide +kernel
theorem dX5_quietFrom_64 : decode cX5_quietFrom 64 = .ok (.ireturn, 1) := by decide +kernel
theorem dX5_driftOf_0 : decode cX5_driftOf 0 = .ok (.aload_n 0, 1) := by decide +kernel
theorem dX5_driftOf_1 : decode cX5_driftOf 1 = .ok (.iload_n 1, 1) := by decide +kernel
theorem dX5_driftOf_2 : decode cX5_driftOf 2 = .ok (.bipush 8, 2) := by decide +kernel
theorem dX5_driftOf_4 : decode cX5_driftOf 4 = .ok (.invokevirtual 49, 3) := by decide +kernel
theorem dX5_driftOf_7 : decode cX5_driftOf 7 = .ok (.istore 4, 2) := by decide +kernel
theorem dX5_driftOf_9 : decode cX5_driftOf 9 = .ok (.iconst 1, 1) := by decide +kernel
theorem dX5_driftOf_10 : decode cX5_driftOf 10 = .ok (.aload_n 0, 1) := by decide +kernel
theorem dX5_driftOf_11 : decode cX5_driftOf 11 = .ok (.iload_n 1, 1) := by decide +kernel
theorem dX5_driftOf_12 : decode cX5_driftOf 12 = .ok (.bipush 9, 2) := by decide +kernel
theorem dX5_driftOf_14 : decode cX5_driftOf 14 = .ok (.invokevirtual 49, 3) := by decide +kernel
theorem dX5_driftOf_17 : decode cX5_driftOf 17 = .ok (.invokestatic 65, 3) := by decide +kernel
theorem dX5_driftOf_20 : decode cX5_driftOf 20 = .ok (.istore 5, 2) := by decide +kernel
theorem dX5_driftOf_22 : decode cX5_driftOf 22 = .ok (.iconst 4, 1) := by decide +kernel
theorem dX5_driftOf_23 : decode cX5_driftOf 23 = .ok (.iload 4, 2) := by decide +kernel
theorem dX5_driftOf_25 : decode cX5_driftOf 25 = .ok (.imul, 1) := by decide +kernel
theorem dX5_driftOf_26 : decode cX5_driftOf 26 = .ok (.iload_n 3, 1) := by decide +kernel
theorem dX5_driftOf_27 : decode cX5_driftOf 27 = .ok (.iload 5, 2) := by decide +kernel
theorem dX5_driftOf_29 : decode cX5_driftOf 29 = .ok (.irem, 1) := by decide +kernel
theorem dX5_driftOf_30 : decode cX5_driftOf 30 = .ok (.imul, 1) := by decide +kernel
theorem dX5_driftOf_31 : decode cX5_driftOf 31 = .ok (.iload 5, 2) := by decide +kernel
theorem dX5_driftOf_33 : decode cX5_driftOf 33 = .ok (.idiv, 1) := by decide +kernel
theorem dX5_driftOf_34 : decode cX5_driftOf 34 = .ok (.istore 6, 2) := by decide +kernel
theorem dX5_driftOf_36 : decode cX5_driftOf 36 = .ok (.iload 6, 2) := by decide +kernel
theorem dX5_driftOf_38 : decode cX5_driftOf 38 = .ok (.iload 4, 2) := by decide +kernel
theorem dX5_driftOf_40 : decode cX5_driftOf 40 = .ok (.if_icmp .gt 10, 3) := by decide +kernel
theorem dX5_driftOf_43 : decode cX5_driftOf 43 = .ok (.iload 6, 2) := by decide +kernel
theorem dX5_driftOf_45 : decode cX5_driftOf 45 = .ok (.istore 7, 2) := by decide +kernel
theorem dX5_driftOf_47 : decode cX5_driftOf 47 = .ok (.goto 33, 3) := by decide +kernel
theorem dX5_driftOf_50 : decode cX5_driftOf 50 = .ok (.iload 6, 2) := by decide +kernel
theorem dX5_driftOf_52 : decode cX5_driftOf 52 = .ok (.iconst 3, 1) := by decide +kernel
theorem dX5_driftOf_53 : decode cX5_driftOf 53 = .ok (.iload 4, 2) := by decide +kernel
theorem dX5_driftOf_55 : decode cX5_driftOf 55 = .ok (.imul, 1) := by decide +kernel
theorem dX5_driftOf_56 : decode cX5_driftOf 56 = .ok (.if_icmp .gt 15, 3) := by decide +kernel
theorem dX5_driftOf_59 : decode cX5_driftOf 59 = .ok (.iconst 2, 1) := by decide +kernel
theorem dX5_driftOf_60 : decode cX5_driftOf 60 = .ok (.iload 4, 2) := by decide +kernel
theorem dX5_driftOf_62 : decode cX5_driftOf 62 = .ok (.imul, 1) := by decide +kernel
theorem dX5_driftOf_63 : decode cX5_driftOf 63 = .ok (.iload 6, 2) := by decide +kernel
theorem dX5_driftOf_65 : decode cX5_driftOf 65 = .ok (.isub, 1) := by decide +kernel
theorem dX5_driftOf_66 : decode cX5_driftOf 66 = .ok (.istore 7, 2) := by decide +kernel
theorem dX5_driftOf_68 : decode cX5_driftOf 68 = .ok (.goto 12, 3) := by decide +kernel
theorem dX5_driftOf_71 : decode cX5_driftOf 71 = .ok (.iload 6, 2) := by decide +kernel
theorem dX5_driftOf_73 : decode cX5_driftOf 73 = .ok (.iconst 4, 1) := by decide +kernel
theorem dX5_driftOf_74 : decode cX5_driftOf 74 = .ok (.iload 4, 2) := by decide +kernel
theorem dX5_driftOf_76 : decode cX5_driftOf 76 = .ok (.imul, 1) := by decide +kernel
theorem dX5_driftOf_77 : decode cX5_driftOf 77 = .ok (.isub, 1) := by decide +kernel
theorem dX5_driftOf_78 : decode cX5_driftOf 78 = .ok (.istore 7, 2) := by decide +kernel
theorem dX5_driftOf_80 : decode cX5_driftOf 80 = .ok (.iload_n 2, 1) := by decide +kernel
theorem dX5_driftOf_81 : decode cX5_driftOf 81 = .ok (.iload 7, 2) := by decide +kernel
theorem dX5_driftOf_83 : decode cX5_driftOf 83 = .ok (.iadd, 1) := by decide +kernel
theorem dX5_driftOf_84 : decode cX5_driftOf 84 = .ok (.sipush 3600, 3) := by decide +kernel
theorem dX5_driftOf_87 : decode cX5_driftOf 87 = .ok (.invokestatic 53, 3) := by decide +kernel
theorem dX5_driftOf_90 : decode cX5_driftOf 90 = .ok (.ireturn, 1) := by decide +kernel
theorem dX6_init_0 : decode cX6_init 0 = .ok (.aload_n 0, 1) := by decide +kernel
theorem dX6_init_1 : decode cX6_init 1 = .ok (.invokespecial 3, 3) := by decide +kernel
theorem dX6_init_4 : decode cX6_init 4 = .ok (.aload_n 0, 1) := by decide +kernel
theorem dX6_init_5 : decode cX6_init 5 = .ok (.iconst 4, 1) := by decide +kernel
theorem dX6_init_6 : decode cX6_init 6 = .ok (.newarray .int, 2) := by decide +kernel
theorem dX6_init_8 : decode cX6_init 8 = .ok (.putfield 9, 3) := by decide +kernel
theorem dX6_init_11 : decode cX6_init 11 = .ok (.aload_n 0, 1) := by decide +kernel
theorem dX6_init_12 : decode cX6_init 12 = .ok (.iconst 0, 1) := by decide +kernel
theorem dX6_init_13 : decode cX6_init 13 = .ok (.putfield 15, 3) := by decide +kernel
theorem dX6_init_16 : decode cX6_init 16 = .ok (.aload_n 0, 1) := by decide +kernel
theorem dX6_init_17 : decode cX6_init 17 = .ok (.iconst 0, 1) := by decide +kernel
theorem dX6_init_18 : decode cX6_init 18 = .ok (.putfield 19, 3) := by decide +kernel
theorem dX6_init_21 : decode cX6_init 21 = .ok (.aload_n 0, 1) := by decide +kernel
theorem dX6_init_22 : decode cX6_init 22 = .ok (.iconst (-1), 1) := by decide +kernel
theorem dX6_init_23 : decode cX6_init 23 = .ok (.putfield 23, 3) := by decide +kernel
theorem dX6_init_26 : decode cX6_init 26 = .ok (.aload_n 0, 1) := by decide +kernel
theorem dX6_init_27 : decode cX6_init 27 = .ok (.iconst 4, 1) := by decide +kernel
theorem dX6_init_28 : decode cX6_init 28 = .ok (.newarray .int, 2) := by decide +kernel
theorem dX6_init_30 : decode cX6_init 30 = .ok (.putfield 26, 3) := by decide +kernel
theorem dX6_init_33 : decode cX6_init 33 = .ok (.aload_n 0, 1) := by decide +kernel
theorem dX6_init_34 : decode cX6_init 34 = .ok (.iconst 4, 1) := by decide +kernel
theorem dX6_init_35 : decode cX6_init 35 = .ok (.newarray .int, 2) := by decide +kernel
theorem dX6_init_37 : decode cX6_init 37 = .ok (.putfield 29, 3) := by decide +kernel
theorem dX6_init_40 : decode cX6_init 40 = .ok (.aload_n 0, 1) := by decide +kernel
theorem dX6_init_41 : decode cX6_init 41 = .ok (.aload_n 1, 1) := by decide +kernel
theorem dX6_init_42 : decode cX6_init 42 = .ok (.getfield 32, 3) := by decide +kernel
theorem dX6_init_45 : decode cX6_init 45 = .ok (.putfield 38, 3) := by decide +kernel
theorem dX6_init_48 : decode cX6_init 48 = .ok (.aload_n 0, 1) := by decide +kernel
theorem dX6_init_49 : decode cX6_init 49 = .ok (.aload_n 1, 1) := by decide +kernel
theorem dX6_init_50 : decode cX6_init 50 = .ok (.putfield 39, 3) := by decide +kernel
theorem dX6_init_53 : decode cX6_init 53 = .ok (.aload_n 0, 1) := by decide +kernel
theorem dX6_init_54 : decode cX6_init 54 = .ok (.aload_n 2, 1) := by decide +kernel
theorem dX6_init_55 : decode cX6_init 55 = .ok (.putfield 43, 3) := by decide +kernel
theorem dX6_init_58 : decode cX6_init 58 = .ok (.return_, 1) := by decide +kernel
theorem dX6_findFirst_0 : decode cX6_findFirst 0 = .ok (.aload_n 0, 1) := by decide +kernel
theorem dX6_findFirst_1 : decode cX6_findFirst 1 = .ok (.aload_n 1, 1) := by decide +kernel
theorem dX6_findFirst_2 : decode cX6_findFirst 2 = .ok (.iload_n 2, 1) := by decide +kernel
theorem dX6_findFirst_3 : decode cX6_findFirst 3 = .ok (.invokevirtual 46, 3) := by decide +kernel
theorem dX6_findFirst_6 : decode cX6_findFirst 6 = .ok (.aload_n 0, 1) := by decide +kernel
theorem dX6_findFirst_7 : decode cX6_findFirst 7 = .ok (.invokevirtual 50, 3) := by decide +kernel
theorem dX6_findFirst_10 : decode cX6_findFirst 10 = .ok (.ifCond .eq 11, 3) := by decide +kernel
theorem dX6_findFirst_13 : decode cX6_findFirst 13 = .ok (.aload_n 0, 1) := by decide +kernel
theorem dX6_findFirst_14 : decode cX6_findFirst 14 = .ok (.iconst 0, 1) := by decide +kernel
theorem dX6_findFirst_15 : decode cX6_findFirst 15 = .ok (.invokevirtual 54, 3) := by decide +kernel
theorem dX6_findFirst_18 : decode cX6_findFirst 18 = .ok (.ifCond .ne 5, 3) := by decide +kernel
theorem dX6_findFirst_21 : decode cX6_findFirst 21 = .ok (.iconst 0, 1) := by decide +kernel
theorem dX6_findFirst_22 : decode cX6_findFirst 22 = .ok (.ireturn, 1) := by decide +kernel
theorem dX6_findFirst_23 : decode cX6_findFirst 23 = .ok (.aload_n 0, 1) := by decide +kernel
theorem dX6_findFirst_24 : decode cX6_findFirst 24 = .ok (.getfield 39, 3) := by decide +kernel
theorem dX6_findFirst_27 : decode cX6_findFirst 27 = .ok (.aload_n 0, 1) := by decide +kernel
theorem dX6_findFirst_28 : decode cX6_findFirst 28 = .ok (.getfield 43, 3) := by decide +kernel
theorem dX6_findFirst_31 : decode cX6_findFirst 31 = .ok (.invokevirtual 58, 3) := by decide +kernel
theorem dX6_findFirst_34 : decode cX6_findFirst 34 = .ok (.iconst 1, 1) := by decide +kernel
theorem dX6_findFirst_35 : decode cX6_findFirst 35 = .ok (.ireturn, 1) := by decide +kernel
theorem dX6_countWays_0 : decode cX6_countWays 0 = .ok (.aload_n 0, 1) := by decide +kernel
theorem dX6_countWays_1 : decode cX6_countWays 1 = .ok (.aload_n 1, 1) := by decide +kernel
theorem dX6_countWays_2 : decode cX6_countWays 2 = .ok (.iload_n 2, 1) := by decide +kernel
theorem dX6_countWays_3 : decode cX6_countWays 3 = .ok (.invokevirtual 46, 3) := by decide +kernel
theorem dX6_countWays_6 : decode cX6_countWays 6 = .ok (.aload_n 0, 1) := by decide +kernel
theorem dX6_countWays_7 : decode cX6_countWays 7 = .ok (.invokevirtual 50, 3) := by decide +kernel
theorem dX6_countWays_10 : decode cX6_countWays 10 = .ok (.ifCond .eq 11, 3) := by decide +kernel
theorem dX6_countWays_13 : decode cX6_countWays 13 = .ok (.aload_n 0, 1) := by decide +kernel
theorem dX6_countWays_14 : decode cX6_countWays 14 = .ok (.iconst 0, 1) := by decide +kernel
theorem dX6_countWays_15 : decode cX6_countWays 15 = .ok (.invokevirtual 62, 3) := by decide +kernel
theorem dX6_countWays_18 : decode cX6_countWays 18 = .ok (.goto 4, 3) := by decide +kernel
theorem dX6_countWays_21 : decode cX6_countWays 21 = .ok (.iconst 0, 1) := by decide +kernel
theorem dX6_countWays_22 : decode cX6_countWays 22 = .ok (.ireturn, 1) := by decide +kernel
theorem dX6_findMost_0 : decode cX6_findMost 0 = .ok (.aload_n 0, 1) := by decide +kernel
theorem dX6_findMost_1 : decode cX6_findMost 1 = .ok (.aload_n 1, 1) := by decide +kernel
theorem dX6_findMost_2 : decode cX6_findMost 2 = .ok (.iload_n 2, 1) := by decide +kernel
theorem dX6_findMost_3 : decode cX6_findMost 3 = .ok (.invokevirtual 46, 3) := by decide +kernel
theorem dX6_findMost_6 : decode cX6_findMost 6 = .ok (.aload_n 0, 1) := by decide +kernel
theorem dX6_findMost_7 : decode cX6_findMost 7 = .ok (.invokevirtual 50, 3) := by decide +kernel
theorem dX6_findMost_10 : decode cX6_findMost 10 = .ok (.ifCond .ne 5, 3) := by decide +kernel
theorem dX6_findMost_13 : decode cX6_findMost 13 = .ok (.iconst (-1), 1) := by decide +kernel
theorem dX6_findMost_14 : decode cX6_findMost 14 = .ok (.ireturn, 1) := by decide +kernel
theorem dX6_findMost_15 : decode cX6_findMost 15 = .ok (.aload_n 0, 1) := by decide +kernel
theorem dX6_findMost_16 : decode cX6_findMost 16 = .ok (.iconst (-1), 1) := by decide +kernel
theorem dX6_findMost_17 : decode cX6_findMost 17 = .ok (.putfield 23, 3) := by decide +kernel
theorem dX6_findMost_20 : decode cX6_findMost 20 = .ok (.aload_n 0, 1) := by decide +kernel
theorem dX6_findMost_21 : decode cX6_findMost 21 = .ok (.iconst 0, 1) := by decide +kernel
theorem dX6_findMost_22 : decode cX6_findMost 22 = .ok (.iconst 0, 1) := by decide +kernel
theorem dX6_findMost_23 : decode cX6_findMost 23 = .ok (.invokevirtual 66, 3) := by decide +kernel
theorem dX6_findMost_26 : decode cX6_findMost 26 = .ok (.iconst 0, 1) := by decide +kernel
theorem dX6_findMost_27 : decode cX6_findMost 27 = .ok (.istore_n 3, 1) := by decide +kernel
theorem dX6_findMost_28 : decode cX6_findMost 28 = .ok (.iload_n 3, 1) := by decide +kernel
theorem dX6_findMost_29 : decode cX6_findMost 29 = .ok (.aload_n 0, 1) := by decide +kernel
theorem dX6_findMost_30 : decode cX6_findMost 30 = .ok (.getfield 15, 3) := by decide +kernel
theorem dX6_findMost_33 : decode cX6_findMost 33 = .ok (.if_icmp .ge 44, 3) := by decide +kernel
theorem dX6_findMost_36 : decode cX6_findMost 36 = .ok (.aload_n 0, 1) := by decide +kernel
theorem dX6_findMost_37 : decode cX6_findMost 37 = .ok (.getfield 26, 3) := by decide +kernel
theorem dX6_findMost_40 : decode cX6_findMost 40 = .ok (.iload_n 3, 1) := by decide +kernel
theorem dX6_findMost_41 : decode cX6_findMost 41 = .ok (.iaload, 1) := by decide +kernel
theorem dX6_findMost_42 : decode cX6_findMost 42 = .ok (.iconst (-1), 1) := by decide +kernel
theorem dX6_findMost_43 : decode cX6_findMost 43 = .ok (.if_icmp .eq 28, 3) := by decide +kernel
theorem dX6_findMost_46 : decode cX6_findMost 46 = .ok (.aload_n 0, 1) := by decide +kernel
theorem dX6_findMost_47 : decode cX6_findMost 47 = .ok (.getfield 43, 3) := by decide +kernel
theorem dX6_findMost_50 : decode cX6_findMost 50 = .ok (.aload_n 0, 1) := by decide +kernel
theorem dX6_findMost_51 : decode cX6_findMost 51 = .ok (.getfield 9, 3) := by decide +kernel
theorem dX6_findMost_54 : decode cX6_findMost 54 = .ok (.iload_n 3, 1) := by decide +kernel
theorem dX6_findMost_55 : decode cX6_findMost 55 = .ok (.iaload, 1) := by decide +kernel
theorem dX6_findMost_56 : decode cX6_findMost 56 = .ok (.aload_n 0, 1) := by decide +kernel
theorem dX6_findMost_57 : decode cX6_findMost 57 = .ok (.getfield 26, 3) := by decide +kernel
theorem dX6_findMost_60 : decode cX6_findMost 60 = .ok (.iload_n 3, 1) := by decide +kernel
theorem dX6_findMost_61 : decode cX6_findMost 61 = .ok (.iaload, 1) := by decide +kernel
theorem dX6_findMost_62 : decode cX6_findMost 62 = .ok (.aload_n 0, 1) := by decide +kernel
theorem dX6_findMost_63 : decode cX6_findMost 63 = .ok (.getfield 29, 3) := by decide +kernel
theorem dX6_findMost_66 : decode cX6_findMost 66 = .ok (.iload_n 3, 1) := by decide +kernel
theorem dX6_findMost_67 : decode cX6_findMost 67 = .ok (.iaload, 1) := by decide +kernel
theorem dX6_findMost_68 : decode cX6_findMost 68 = .ok (.invokevirtual 70, 3) := by decide +kernel
theorem dX6_findMost_71 : decode cX6_findMost 71 = .ok (.iinc 3 1, 3) := by decide +kernel
theorem dX6_findMost_74 : decode cX6_findMost 74 = .ok (.goto (-46), 3) := by decide +kernel
theorem dX6_findMost_77 : decode cX6_findMost 77 = .ok (.aload_n 0, 1) := by decide +kernel
theorem dX6_findMost_78 : decode cX6_findMost 78 = .ok (.getfield 39, 3) := by decide +kernel
theorem dX6_findMost_81 : decode cX6_findMost 81 = .ok (.aload_n 0, 1) := by decide +kernel
theorem dX6_findMost_82 : decode cX6_findMost 82 = .ok (.getfield 43, 3) := by decide +kernel
theorem dX6_findMost_85 : decode cX6_findMost 85 = .ok (.invokevirtual 58, 3) := by decide +kernel
theorem dX6_findMost_88 : decode cX6_findMost 88 = .ok (.aload_n 0, 1) := by decide +kernel
theorem dX6_findMost_89 : decode cX6_findMost 89 = .ok (.getfield 23, 3) := by decide +kernel
theorem dX6_findMost_92 : decode cX6_findMost 92 = .ok (.ireturn, 1) := by decide +kernel
theorem dX6_admit_0 : decode cX6_admit 0 = .ok (.aload_n 0, 1) := by decide +kernel
theorem dX6_admit_1 : decode cX6_admit 1 = .ok (.iload_n 1, 1) := by decide +kernel
theorem dX6_admit_2 : decode cX6_admit 2 = .ok (.iconst (-1), 1) := by decide +kernel
theorem dX6_admit_3 : decode cX6_admit 3 = .ok (.iconst (-1), 1) := by decide +kernel
theorem dX6_admit_4 : decode cX6_admit 4 = .ok (.invokevirtual 74, 3) := by decide +kernel
theorem dX6_admit_7 : decode cX6_admit 7 = .ok (.ifCond .eq 5, 3) := by decide +kernel
theorem dX6_admit_10 : decode cX6_admit 10 = .ok (.iconst 0, 1) := by decide +kernel
theorem dX6_admit_11 : decode cX6_admit 11 = .ok (.ireturn, 1) := by decide +kernel
theorem dX6_admit_12 : decode cX6_admit 12 = .ok (.iconst 0, 1) := by decide +kernel
theorem dX6_admit_13 : decode cX6_admit 13 = .ok (.istore_n 2, 1) := by decide +kernel
theorem dX6_admit_14 : decode cX6_admit 14 = .ok (.iload_n 2, 1) := by decide +kernel
theorem dX6_admit_15 : decode cX6_admit 15 = .ok (.aload_n 0, 1) := by decide +kernel
theorem dX6_admit_16 : decode cX6_admit 16 = .ok (.getfield 38, 3) := by decide +kernel
theorem dX6_admit_19 : decode cX6_admit 19 = .ok (.getfield 78, 3) := by decide +kernel
theorem dX6_admit_22 : decode cX6_admit 22 = .ok (.if_icmp .ge 32, 3) := by decide +kernel
theorem dX6_admit_25 : decode cX6_admit 25 = .ok (.aload_n 0, 1) := by decide +kernel
theorem dX6_admit_26 : decode cX6_admit 26 = .ok (.getfield 39, 3) := by decide +kernel
theorem dX6_admit_29 : decode cX6_admit 29 = .ok (.iload_n 2, 1) := by decide +kernel
theorem dX6_admit_30 : decode cX6_admit 30 = .ok (.invokevirtual 83, 3) := by decide +kernel
theorem dX6_admit_33 : decode cX6_admit 33 = .ok (.ifCond .eq 15, 3) := by decide +kernel
theorem dX6_admit_36 : decode cX6_admit 36 = .ok (.aload_n 0, 1) := by decide +kernel
theorem dX6_admit_37 : decode cX6_admit 37 = .ok (.iload_n 1, 1) := by decide +kernel
theorem dX6_admit_38 : decode cX6_admit 38 = .ok (.iload_n 2, 1) := by decide +kernel
theorem dX6_admit_39 : decode cX6_admit 39 = .ok (.iconst (-1), 1) := by decide +kernel
theorem dX6_admit_40 : decode cX6_admit 40 = .ok (.invokevirtual 74, 3) := by decide +kernel
theorem dX6_admit_43 : decode cX6_admit 43 = .ok (.ifCond .eq 5, 3) := by decide +kernel
theorem dX6_admit_46 : decode cX6_admit 46 = .ok (.iconst 1, 1) := by decide +kernel
theorem dX6_admit_47 : decode cX6_admit 47 = .ok (.ireturn, 1) := by decide +kernel
theorem dX6_admit_48 : decode cX6_admit 48 = .ok (.iinc 2 1, 3) := by decide +kernel
theorem dX6_admit_51 : decode cX6_admit 51 = .ok (.goto (-37), 3) := by decide +kernel
theorem dX6_admit_54 : decode cX6_admit 54 = .ok (.iconst 0, 1) := by decide +kernel
theorem dX6_admit_55 : decode cX6_admit 55 = .ok (.istore_n 2, 1) := by decide +kernel
theorem dX6_admit_56 : decode cX6_admit 56 = .ok (.iload_n 2, 1) := by decide +kernel
theorem dX6_admit_57 : decode cX6_admit 57 = .ok (.aload_n 0, 1) := by decide +kernel
theorem dX6_admit_58 : decode cX6_admit 58 = .ok (.getfield 38, 3) := by decide +kernel
theorem dX6_admit_61 : decode cX6_admit 61 = .ok (.getfield 78, 3) := by decide +kernel
theorem dX6_admit_64 : decode cX6_admit 64 = .ok (.if_icmp .ge 56, 3) := by decide +kernel
theorem dX6_admit_67 : decode cX6_admit 67 = .ok (.iconst 0, 1) := by decide +kernel
theorem dX6_admit_68 : decode cX6_admit 68 = .ok (.istore_n 3, 1) := by decide +kernel
theorem dX6_admit_69 : decode cX6_admit 69 = .ok (.iload_n 3, 1) := by decide +kernel
theorem dX6_admit_70 : decode cX6_admit 70 = .ok (.iload_n 2, 1) := by decide +kernel
theorem dX6_admit_71 : decode cX6_admit 71 = .ok (.if_icmp .ge 43, 3) := by decide +kernel
theorem dX6_admit_74 : decode cX6_admit 74 = .ok (.aload_n 0, 1) := by decide +kernel
theorem dX6_admit_75 : decode cX6_admit 75 = .ok (.getfield 39, 3) := by decide +kernel
theorem dX6_admit_78 : decode cX6_admit 78 = .ok (.iload_n 3, 1) := by decide +kernel
theorem dX6_admit_79 : decode cX6_admit 79 = .ok (.invokevirtual 83, 3) := by decide +kernel
theorem dX6_admit_82 : decode cX6_admit 82 = .ok (.ifCond .eq 26, 3) := by decide +kernel
theorem dX6_admit_85 : decode cX6_admit 85 = .ok (.aload_n 0, 1) := by decide +kernel
theorem dX6_admit_86 : decode cX6_admit 86 = .ok (.getfield 39, 3) := by decide +kernel
theorem dX6_admit_89 : decode cX6_admit 89 = .ok (.iload_n 2, 1) := by decide +kernel
theorem dX6_admit_90 : decode cX6_admit 90 = .ok (.invokevirtual 83, 3) := by decide +kernel
theorem dX6_admit_93 : decode cX6_admit 93 = .ok (.ifCond .eq 15, 3) := by decide +kernel
theorem dX6_admit_96 : decode cX6_admit 96 = .ok (.aload_n 0, 1) := by decide +kernel
theorem dX6_admit_97 : decode cX6_admit 97 = .ok (.iload_n 1, 1) := by decide +kernel
theorem dX6_admit_98 : decode cX6_admit 98 = .ok (.iload_n 3, 1) := by decide +kernel
theorem dX6_admit_99 : decode cX6_admit 99 = .ok (.iload_n 2, 1) := by decide +kernel
theorem dX6_admit_100 : decode cX6_admit 100 = .ok (.invokevirtual 74, 3) := by decide +kernel
theorem dX6_admit_103 : decode cX6_admit 103 = .ok (.ifCond .eq 5, 3) := by decide +kernel
theorem dX6_admit_106 : decode cX6_admit 106 = .ok (.iconst 2, 1) := by decide +kernel
theorem dX6_admit_107 : decode cX6_admit 107 = .ok (.ireturn, 1) := by decide +kernel
theorem dX6_admit_108 : decode cX6_admit 108 = .ok (.iinc 3 1, 3) := by decide +kernel
theorem dX6_admit_111 : decode cX6_admit 111 = .ok (.goto (-42), 3) := by decide +kernel
theorem dX6_admit_114 : decode cX6_admit 114 = .ok (.iinc 2 1, 3) := by decide +kernel
theorem dX6_admit_117 : decode cX6_admit 117 = .ok (.goto (-61), 3) := by decide +kernel
theorem dX6_admit_120 : decode cX6_admit 120 = .ok (.iconst (-1), 1) := by decide +kernel
theorem dX6_admit_121 : decode cX6_admit 121 = .ok (.ireturn, 1) := by decide +kernel
theorem dX6_admitMoving_0 : decode cX6_admitMoving 0 = .ok (.aload_n 0, 1) := by decide +kernel
theorem dX6_admitMoving_1 : decode cX6_admitMoving 1 = .ok (.getfield 43, 3) := by decide +kernel
theorem dX6_admitMoving_4 : decode cX6_admitMoving 4 = .ok (.aload_n 0, 1) := by decide +kernel
theorem dX6_admitMoving_5 : decode cX6_admitMoving 5 = .ok (.getfield 39, 3) := by decide +kernel
theorem dX6_admitMoving_8 : decode cX6_admitMoving 8 = .ok (.invokevirtual 58, 3) := by decide +kernel
theorem dX6_admitMoving_11 : decode cX6_admitMoving 11 = .ok (.aload_n 0, 1) := by decide +kernel
theorem dX6_admitMoving_12 : decode cX6_admitMoving 12 = .ok (.iconst 1, 1) := by decide +kernel
theorem dX6_admitMoving_13 : decode cX6_admitMoving 13 = .ok (.putfield 19, 3) := by decide +kernel
theorem dX6_admitMoving_16 : decode cX6_admitMoving 16 = .ok (.aload_n 0, 1) := by decide +kernel
theorem dX6_admitMoving_17 : decode cX6_admitMoving 17 = .ok (.iconst 0, 1) := by decide +kernel
theorem dX6_admitMoving_18 : decode cX6_admitMoving 18 = .ok (.putfield 15, 3) := by decide +kernel
theorem dX6_admitMoving_21 : decode cX6_admitMoving 21 = .ok (.aload_n 0, 1) := by decide +kernel
theorem dX6_admitMoving_22 : decode cX6_admitMoving 22 = .ok (.iload_n 1, 1) := by decide +kernel
theorem dX6_admitMoving_23 : decode cX6_admitMoving 23 = .ok (.invokevirtual 86, 3) := by decide +kernel
theorem dX6_admitMoving_26 : decode cX6_admitMoving 26 = .ok (.aload_n 0, 1) := by decide +kernel
theorem dX6_admitMoving_27 : decode cX6_admitMoving 27 = .ok (.iload_n 2, 1) := by decide +kernel
theorem dX6_admitMoving_28 : decode cX6_admitMoving 28 = .ok (.invokevirtual 86, 3) := by decide +kernel
theorem dX6_admitMoving_31 : decode cX6_admitMoving 31 = .ok (.aload_n 0, 1) := by decide +kernel
theorem dX6_admitMoving_32 : decode cX6_admitMoving 32 = .ok (.iload_n 3, 1) := by decide +kernel
theorem dX6_admitMoving_33 : decode cX6_admitMoving 33 = .ok (.invokevirtual 86, 3) := by decide +kernel
theorem dX6_admitMoving_36 : decode cX6_admitMoving 36 = .ok (.aload_n 0, 1) := by decide +kernel
theorem dX6_admitMoving_37 : decode cX6_admitMoving 37 = .ok (.invokevirtual 50, 3) := by decide +kernel
theorem dX6_admitMoving_40 : decode cX6_admitMoving 40 = .ok (.ifCond .eq 11, 3) := by decide +kernel
theorem dX6_admitMoving_43 : decode cX6_admitMoving 43 = .ok (.aload_n 0, 1) := by decide +kernel
theorem dX6_admitMoving_44 : decode cX6_admitMoving 44 = .ok (.iconst 0, 1) := by decide +kernel
theorem dX6_admitMoving_45 : decode cX6_admitMoving 45 = .ok (.invokevirtual 54, 3) := by decide +kernel
theorem dX6_admitMoving_48 : decode cX6_admitMoving 48 = .ok (.ifCond .ne 5, 3) := by decide +kernel
theorem dX6_admitMoving_51 : decode cX6_admitMoving 51 = .ok (.iconst 0, 1) := by decide +kernel
theorem dX6_admitMoving_52 : decode cX6_admitMoving 52 = .ok (.ireturn, 1) := by decide +kernel
theorem dX6_admitMoving_53 : decode cX6_admitMoving 53 = .ok (.aload_n 0, 1) := by decide +kernel
theorem dX6_admitMoving_54 : decode cX6_admitMoving 54 = .ok (.getfield 39, 3) := by decide +kernel
theorem dX6_admitMoving_57 : decode cX6_admitMoving 57 = .ok (.aload_n 0, 1) := by decide +kernel
theorem dX6_admitMoving_58 : decode cX6_admitMoving 58 = .ok (.getfield 43, 3) := by decide +kernel
theorem dX6_admitMoving_61 : decode cX6_admitMoving 61 = .ok (.invokevirtual 58, 3) := by decide +kernel
theorem dX6_admitMoving_64 : decode cX6_admitMoving 64 = .ok (.iconst 1, 1) := by decide +kernel
theorem dX6_admitMoving_65 : decode cX6_admitMoving 65 = .ok (.ireturn, 1) := by decide +kernel
theorem dX6_begin_0 : decode cX6_begin 0 = .ok (.aload_n 0, 1) := by decide +kernel
theorem dX6_begin_1 : decode cX6_begin 1 = .ok (.getfield 43, 3) := by decide +kernel
theorem dX6_begin_4 : decode cX6_begin 4 = .ok (.aload_n 0, 1) := by decide +kernel
theorem dX6_begin_5 : decode cX6_begin 5 = .ok (.getfield 39, 3) := by decide +kernel
theorem dX6_begin_8 : decode cX6_begin 8 = .ok (.invokevirtual 58, 3) := by decide +kernel
theorem dX6_begin_11 : decode cX6_begin 11 = .ok (.aload_n 0, 1) := by decide +kernel
theorem dX6_begin_12 : decode cX6_begin 12 = .ok (.iconst 0, 1) := by decide +kernel
theorem dX6_begin_13 : decode cX6_begin 13 = .ok (.putfield 19, 3) := by decide +kernel
theorem dX6_begin_16 : decode cX6_begin 16 = .ok (.aload_n 0, 1) := by decide +kernel
theorem dX6_begin_17 : decode cX6_begin 17 = .ok (.iconst 0, 1) := by decide +kernel
theorem dX6_begin_18 : decode cX6_begin 18 = .ok (.putfield 15, 3) := by decide +kernel
theorem dX6_begin_21 : decode cX6_begin 21 = .ok (.iconst 0, 1) := by decide +kernel
theorem dX6_begin_22 : decode cX6_begin 22 = .ok (.istore_n 3, 1) := by decide +kernel
theorem dX6_begin_23 : decode cX6_begin 23 = .ok (.iload_n 3, 1) := by decide +kernel
theorem dX6_begin_24 : decode cX6_begin 24 = .ok (.iload_n 2, 1) := by decide +kernel
theorem dX6_begin_25 : decode cX6_begin 25 = .ok (.if_icmp .ge 16, 3) := by decide +kernel
theorem dX6_begin_28 : decode cX6_begin 28 = .ok (.aload_n 0, 1) := by decide +kernel
theorem dX6_begin_29 : decode cX6_begin 29 = .ok (.aload_n 1, 1) := by decide +kernel
theorem dX6_begin_30 : decode cX6_begin 30 = .ok (.iload_n 3, 1) := by decide +kernel
theorem dX6_begin_31 : decode cX6_begin 31 = .ok (.iaload, 1) := by decide +kernel
theorem dX6_begin_32 : decode cX6_begin 32 = .ok (.invokevirtual 86, 3) := by decide +kernel
theorem dX6_begin_35 : decode cX6_begin 35 = .ok (.iinc 3 1, 3) := by decide +kernel
theorem dX6_begin_38 : decode cX6_begin 38 = .ok (.goto (-15), 3) := by decide +kernel
theorem dX6_begin_41 : decode cX6_begin 41 = .ok (.return_, 1) := by decide +kernel
theorem dX6_want_0 : decode cX6_want 0 = .ok (.aload_n 0, 1) := by decide +kernel
theorem dX6_want_1 : decode cX6_want 1 = .ok (.getfield 38, 3) := by decide +kernel
theorem dX6_want_4 : decode cX6_want 4 = .ok (.iload_n 1, 1) := by decide +kernel
theorem dX6_want_5 : decode cX6_want 5 = .ok (.invokevirtual 90, 3) := by decide +kernel
theorem dX6_want_8 : decode cX6_want 8 = .ok (.ifCond .eq 11, 3) := by decide +kernel
theorem dX6_want_11 : decode cX6_want 11 = .ok (.aload_n 0, 1) := by decide +kernel
theorem dX6_want_12 : decode cX6_want 12 = .ok (.getfield 15, 3) := by decide +kernel
theorem dX6_want_15 : decode cX6_want 15 = .ok (.iconst 4, 1) := by decide +kernel
theorem dX6_want_16 : decode cX6_want 16 = .ok (.if_icmp .lt 4, 3) := by decide +kernel
theorem dX6_want_19 : decode cX6_want 19 = .ok (.return_, 1) := by decide +kernel
theorem dX6_want_20 : decode cX6_want 20 = .ok (.aload_n 0, 1) := by decide +kernel
theorem dX6_want_21 : decode cX6_want 21 = .ok (.getfield 9, 3) := by decide +kernel
theorem dX6_want_24 : decode cX6_want 24 = .ok (.aload_n 0, 1) := by decide +kernel
theorem dX6_want_25 : decode cX6_want 25 = .ok (.getfield 15, 3) := by decide +kernel
theorem dX6_want_28 : decode cX6_want 28 = .ok (.iload_n 1, 1) := by decide +kernel
theorem dX6_want_29 : decode cX6_want 29 = .ok (.iastore, 1) := by decide +kernel
theorem dX6_want_30 : decode cX6_want 30 = .ok (.aload_n 0, 1) := by decide +kernel
theorem dX6_want_31 : decode cX6_want 31 = .ok (.dup, 1) := by decide +kernel
theorem dX6_want_32 : decode cX6_want 32 = .ok (.getfield 15, 3) := by decide +kernel
theorem dX6_want_35 : decode cX6_want 35 = .ok (.iconst 1, 1) := by decide +kernel
theorem dX6_want_36 : decode cX6_want 36 = .ok (.iadd, 1) := by decide +kernel
theorem dX6_want_37 : decode cX6_want 37 = .ok (.putfield 15, 3) := by decide +kernel
theorem dX6_want_40 : decode cX6_want 40 = .ok (.aload_n 0, 1) := by decide +kernel
theorem dX6_want_41 : decode cX6_want 41 = .ok (.getfield 43, 3) := by decide +kernel
theorem dX6_want_44 : decode cX6_want 44 = .ok (.iload_n 1, 1) := by decide +kernel
theorem dX6_want_45 : decode cX6_want 45 = .ok (.invokevirtual 93, 3) := by decide +kernel
theorem dX6_want_48 : decode cX6_want 48 = .ok (.ifCond .eq 11, 3) := by decide +kernel
theorem dX6_want_51 : decode cX6_want 51 = .ok (.aload_n 0, 1) := by decide +kernel
theorem dX6_want_52 : decode cX6_want 52 = .ok (.getfield 43, 3) := by decide +kernel
theorem dX6_want_55 : decode cX6_want 55 = .ok (.iload_n 1, 1) := by decide +kernel
theorem dX6_want_56 : decode cX6_want 56 = .ok (.invokevirtual 96, 3) := by decide +kernel
theorem dX6_want_59 : decode cX6_want 59 = .ok (.return_, 1) := by decide +kernel
theorem dX6_isRight_0 : decode cX6_isRight 0 = .ok (.aload_n 0, 1) := by decide +kernel
theorem dX6_isRight_1 : decode cX6_isRight 1 = .ok (.getfield 43, 3) := by decide +kernel
theorem dX6_isRight_4 : decode cX6_isRight 4 = .ok (.invokevirtual 99, 3) := by decide +kernel
theorem dX6_isRight_7 : decode cX6_isRight 7 = .ok (.iconst (-1), 1) := by decide +kernel
theorem dX6_isRight_8 : decode cX6_isRight 8 = .ok (.if_icmp .ne 7, 3) := by decide +kernel
theorem dX6_isRight_11 : decode cX6_isRight 11 = .ok (.iconst 1, 1) := by decide +kernel
theorem dX6_isRight_12 : decode cX6_isRight 12 = .ok (.goto 4, 3) := by decide +kernel
theorem dX6_isRight_15 : decode cX6_isRight 15 = .ok (.iconst 0, 1) := by decide +kernel
theorem dX6_isRight_16 : decode cX6_isRight 16 = .ok (.ireturn, 1) := by decide +kernel
theorem dX6_putRightly_0 : decode cX6_putRightly 0 = .ok (.aload_n 0, 1) := by decide +kernel
theorem dX6_putRightly_1 : decode cX6_putRightly 1 = .ok (.getfield 38, 3) := by decide +kernel
theorem dX6_putRightly_4 : decode cX6_putRightly 4 = .ok (.getfield 103, 3) := by decide +kernel
theorem dX6_putRightly_7 : decode cX6_putRightly 7 = .ok (.iload_n 2, 1) := by decide +kernel
theorem dX6_putRightly_8 : decode cX6_putRightly 8 = .ok (.iaload, 1) := by decide +kernel
theorem dX6_putRightly_9 : decode cX6_putRightly 9 = .ok (.istore 4, 2) := by decide +kernel
theorem dX6_putRightly_11 : decode cX6_putRightly 11 = .ok (.aload_n 0, 1) := by decide +kernel
theorem dX6_putRightly_12 : decode cX6_putRightly 12 = .ok (.getfield 38, 3) := by decide +kernel
theorem dX6_putRightly_15 : decode cX6_putRightly 15 = .ok (.iload_n 1, 1) := by decide +kernel
theorem dX6_putRightly_16 : decode cX6_putRightly 16 = .ok (.iload_n 3, 1) := by decide +kernel
theorem dX6_putRightly_17 : decode cX6_putRightly 17 = .ok (.invokevirtual 106, 3) := by decide +kernel
theorem dX6_putRightly_20 : decode cX6_putRightly 20 = .ok (.ifCond .eq 16, 3) := by decide +kernel
theorem dX6_putRightly_23 : decode cX6_putRightly 23 = .ok (.aload_n 0, 1) := by decide +kernel
theorem dX6_putRightly_24 : decode cX6_putRightly 24 = .ok (.getfield 38, 3) := by decide +kernel
theorem dX6_putRightly_27 : decode cX6_putRightly 27 = .ok (.iload_n 1, 1) := by decide +kernel
theorem dX6_putRightly_28 : decode cX6_putRightly 28 = .ok (.iload 4, 2) := by decide +kernel
theorem dX6_putRightly_30 : decode cX6_putRightly 30 = .ok (.invokevirtual 110, 3) := by decide +kernel
theorem dX6_putRightly_33 : decode cX6_putRightly 33 = .ok (.ifCond .ne 5, 3) := by decide +kernel
theorem dX6_putRightly_36 : decode cX6_putRightly 36 = .ok (.iconst 0, 1) := by decide +kernel
theorem dX6_putRightly_37 : decode cX6_putRightly 37 = .ok (.ireturn, 1) := by decide +kernel
theorem dX6_putRightly_38 : decode cX6_putRightly 38 = .ok (.aload_n 0, 1) := by decide +kernel
theorem dX6_putRightly_39 : decode cX6_putRightly 39 = .ok (.getfield 19, 3) := by decide +kernel
theorem dX6_putRightly_42 : decode cX6_putRightly 42 = .ok (.ifCond .eq 32, 3) := by decide +kernel
theorem dX6_putRightly_45 : decode cX6_putRightly 45 = .ok (.aload_n 0, 1) := by decide +kernel
theorem dX6_putRightly_46 : decode cX6_putRightly 46 = .ok (.getfield 39, 3) := by decide +kernel
theorem dX6_putRightly_49 : decode cX6_putRightly 49 = .ok (.getfield 113, 3) := by decide +kernel
theorem dX6_putRightly_52 : decode cX6_putRightly 52 = .ok (.iload_n 1, 1) := by decide +kernel
theorem dX6_putRightly_53 : decode cX6_putRightly 53 = .ok (.iaload, 1) := by decide +kernel
theorem dX6_putRightly_54 : decode cX6_putRightly 54 = .ok (.iload 4, 2) := by decide +kernel
theorem dX6_putRightly_56 : decode cX6_putRightly 56 = .ok (.if_icmp .ne 18, 3) := by decide +kernel
theorem dX6_putRightly_59 : decode cX6_putRightly 59 = .ok (.aload_n 0, 1) := by decide +kernel
theorem dX6_putRightly_60 : decode cX6_putRightly 60 = .ok (.getfield 39, 3) := by decide +kernel
theorem dX6_putRightly_63 : decode cX6_putRightly 63 = .ok (.getfield 116, 3) := by decide +kernel
theorem dX6_putRightly_66 : decode cX6_putRightly 66 = .ok (.iload_n 1, 1) := by decide +kernel
theorem dX6_putRightly_67 : decode cX6_putRightly 67 = .ok (.iaload, 1) := by decide +kernel
theorem dX6_putRightly_68 : decode cX6_putRightly 68 = .ok (.iload_n 3, 1) := by decide +kernel
theorem dX6_putRightly_69 : decode cX6_putRightly 69 = .ok (.if_icmp .ne 5, 3) := by decide +kernel
theorem dX6_putRightly_72 : decode cX6_putRightly 72 = .ok (.iconst 0, 1) := by decide +kernel
theorem dX6_putRightly_73 : decode cX6_putRightly 73 = .ok (.ireturn, 1) := by decide +kernel
theorem dX6_putRightly_74 : decode cX6_putRightly 74 = .ok (.aload_n 0, 1) := by decide +kernel
theorem dX6_putRightly_75 : decode cX6_putRightly 75 = .ok (.getfield 43, 3) := by decide +kernel
theorem dX6_putRightly_78 : decode cX6_putRightly 78 = .ok (.iload_n 1, 1) := by decide +kernel
theorem dX6_putRightly_79 : decode cX6_putRightly 79 = .ok (.iload 4, 2) := by decide +kernel
theorem dX6_putRightly_81 : decode cX6_putRightly 81 = .ok (.iload_n 3, 1) := by decide +kernel
theorem dX6_putRightly_82 : decode cX6_putRightly 82 = .ok (.invokevirtual 70, 3) := by decide +kernel
theorem dX6_putRightly_85 : decode cX6_putRightly 85 = .ok (.aload_n 0, 1) := by decide +kernel
theorem dX6_putRightly_86 : decode cX6_putRightly 86 = .ok (.getfield 43, 3) := by decide +kernel
theorem dX6_putRightly_89 : decode cX6_putRightly 89 = .ok (.invokevirtual 99, 3) := by decide +kernel
theorem dX6_putRightly_92 : decode cX6_putRightly 92 = .ok (.iconst (-1), 1) := by decide +kernel
theorem dX6_putRightly_93 : decode cX6_putRightly 93 = .ok (.if_icmp .ne 5, 3) := by decide +kernel
theorem dX6_putRightly_96 : decode cX6_putRightly 96 = .ok (.iconst 1, 1) := by decide +kernel
theorem dX6_putRightly_97 : decode cX6_putRightly 97 = .ok (.ireturn, 1) := by decide +kernel
theorem dX6_putRightly_98 : decode cX6_putRightly 98 = .ok (.aload_n 0, 1) := by decide +kernel
theorem dX6_putRightly_99 : decode cX6_putRightly 99 = .ok (.getfield 43, 3) := by decide +kernel
theorem dX6_putRightly_102 : decode cX6_putRightly 102 = .ok (.iload_n 1, 1) := by decide +kernel
theorem dX6_putRightly_103 : decode cX6_putRightly 103 = .ok (.invokevirtual 96, 3) := by decide +kernel
theorem dX6_putRightly_106 : decode cX6_putRightly 106 = .ok (.iconst 0, 1) := by decide +kernel
theorem dX6_putRightly_107 : decode cX6_putRightly 107 = .ok (.ireturn, 1) := by decide +kernel
theorem dX6_placeFrom_0 : decode cX6_placeFrom 0 = .ok (.iload_n 1, 1) := by decide +kernel
theorem dX6_placeFrom_1 : decode cX6_placeFrom 1 = .ok (.aload_n 0, 1) := by decide +kernel
theorem dX6_placeFrom_2 : decode cX6_placeFrom 2 = .ok (.getfield 15, 3) := by decide +kernel
theorem dX6_placeFrom_5 : decode cX6_placeFrom 5 = .ok (.if_icmp .lt 5, 3) := by decide +kernel
theorem dX6_placeFrom_8 : decode cX6_placeFrom 8 = .ok (.iconst 1, 1) := by decide +kernel
theorem dX6_placeFrom_9 : decode cX6_placeFrom 9 = .ok (.ireturn, 1) := by decide +kernel
theorem dX6_placeFrom_10 : decode cX6_placeFrom 10 = .ok (.aload_n 0, 1) := by decide +kernel
theorem dX6_placeFrom_11 : decode cX6_placeFrom 11 = .ok (.getfield 9, 3) := by decide +kernel
theorem dX6_placeFrom_14 : decode cX6_placeFrom 14 = .ok (.iload_n 1, 1) := by decide +kernel
theorem dX6_placeFrom_15 : decode cX6_placeFrom 15 = .ok (.iaload, 1) := by decide +kernel
theorem dX6_placeFrom_16 : decode cX6_placeFrom 16 = .ok (.istore_n 2, 1) := by decide +kernel
theorem dX6_placeFrom_17 : decode cX6_placeFrom 17 = .ok (.iconst 0, 1) := by decide +kernel
theorem dX6_placeFrom_18 : decode cX6_placeFrom 18 = .ok (.istore_n 3, 1) := by decide +kernel
theorem dX6_placeFrom_19 : decode cX6_placeFrom 19 = .ok (.iload_n 3, 1) := by decide +kernel
