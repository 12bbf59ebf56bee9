theorem dX6_placeFrom_20 : decode cX6_placeFrom 20 = .ok (.aload_n 0, 1) := by decide +kernel
theorem dX6_placeFrom_21 : decode cX6_placeFrom 21 = .ok (.getfield 38, 3) := by decide +kernel
theorem dX6_placeFrom_24 : decode cX6_placeFrom 24 = .ok (.getfield 119, 3) := by decide +kernel
theorem dX6_placeFrom_27 : decode cX6_placeFrom 27 = .ok (.if_icmp .ge 58, 3) := by decide +kernel
theorem dX6_placeFrom_30 : decode cX6_placeFrom 30 = .ok (.iconst 0, 1) := by decide +kernel
theorem dX6_placeFrom_31 : decode cX6_placeFrom 31 = .ok (.istore 4, 2) := by decide +kernel
theorem dX6_placeFrom_33 : decode cX6_placeFrom 33 = .ok (.iload 4, 2) := by decide +kernel
theorem dX6_placeFrom_35 : decode cX6_placeFrom 35 = .ok (.iconst 4, 1) := by decide +kernel
theorem dX6_placeFrom_36 : decode cX6_placeFrom 36 = .ok (.if_icmp .ge 43, 3) := by decide +kernel
theorem dX6_placeFrom_39 : decode cX6_placeFrom 39 = .ok (.aload_n 0, 1) := by decide +kernel
theorem dX6_placeFrom_40 : decode cX6_placeFrom 40 = .ok (.iload_n 2, 1) := by decide +kernel
theorem dX6_placeFrom_41 : decode cX6_placeFrom 41 = .ok (.iload_n 3, 1) := by decide +kernel
theorem dX6_placeFrom_42 : decode cX6_placeFrom 42 = .ok (.iload 4, 2) := by decide +kernel
theorem dX6_placeFrom_44 : decode cX6_placeFrom 44 = .ok (.invokevirtual 122, 3) := by decide +kernel
theorem dX6_placeFrom_47 : decode cX6_placeFrom 47 = .ok (.ifCond .ne 6, 3) := by decide +kernel
theorem dX6_placeFrom_50 : decode cX6_placeFrom 50 = .ok (.goto 23, 3) := by decide +kernel
theorem dX6_placeFrom_53 : decode cX6_placeFrom 53 = .ok (.aload_n 0, 1) := by decide +kernel
theorem dX6_placeFrom_54 : decode cX6_placeFrom 54 = .ok (.iload_n 1, 1) := by decide +kernel
theorem dX6_placeFrom_55 : decode cX6_placeFrom 55 = .ok (.iconst 1, 1) := by decide +kernel
theorem dX6_placeFrom_56 : decode cX6_placeFrom 56 = .ok (.iadd, 1) := by decide +kernel
theorem dX6_placeFrom_57 : decode cX6_placeFrom 57 = .ok (.invokevirtual 54, 3) := by decide +kernel
theorem dX6_placeFrom_60 : decode cX6_placeFrom 60 = .ok (.ifCond .eq 5, 3) := by decide +kernel
theorem dX6_placeFrom_63 : decode cX6_placeFrom 63 = .ok (.iconst 1, 1) := by decide +kernel
theorem dX6_placeFrom_64 : decode cX6_placeFrom 64 = .ok (.ireturn, 1) := by decide +kernel
theorem dX6_placeFrom_65 : decode cX6_placeFrom 65 = .ok (.aload_n 0, 1) := by decide +kernel
theorem dX6_placeFrom_66 : decode cX6_placeFrom 66 = .ok (.getfield 43, 3) := by decide +kernel
theorem dX6_placeFrom_69 : decode cX6_placeFrom 69 = .ok (.iload_n 2, 1) := by decide +kernel
theorem dX6_placeFrom_70 : decode cX6_placeFrom 70 = .ok (.invokevirtual 96, 3) := by decide +kernel
theorem dX6_placeFrom_73 : decode cX6_placeFrom 73 = .ok (.iinc 4 1, 3) := by decide +kernel
theorem dX6_placeFrom_76 : decode cX6_placeFrom 76 = .ok (.goto (-43), 3) := by decide +kernel
theorem dX6_placeFrom_79 : decode cX6_placeFrom 79 = .ok (.iinc 3 1, 3) := by decide +kernel
theorem dX6_placeFrom_82 : decode cX6_placeFrom 82 = .ok (.goto (-63), 3) := by decide +kernel
theorem dX6_placeFrom_85 : decode cX6_placeFrom 85 = .ok (.iconst 0, 1) := by decide +kernel
theorem dX6_placeFrom_86 : decode cX6_placeFrom 86 = .ok (.ireturn, 1) := by decide +kernel
theorem dX6_waysFrom_0 : decode cX6_waysFrom 0 = .ok (.iload_n 1, 1) := by decide +kernel
theorem dX6_waysFrom_1 : decode cX6_waysFrom 1 = .ok (.aload_n 0, 1) := by decide +kernel
theorem dX6_waysFrom_2 : decode cX6_waysFrom 2 = .ok (.getfield 15, 3) := by decide +kernel
theorem dX6_waysFrom_5 : decode cX6_waysFrom 5 = .ok (.if_icmp .lt 5, 3) := by decide +kernel
theorem dX6_waysFrom_8 : decode cX6_waysFrom 8 = .ok (.iconst 1, 1) := by decide +kernel
theorem dX6_waysFrom_9 : decode cX6_waysFrom 9 = .ok (.ireturn, 1) := by decide +kernel
theorem dX6_waysFrom_10 : decode cX6_waysFrom 10 = .ok (.aload_n 0, 1) := by decide +kernel
theorem dX6_waysFrom_11 : decode cX6_waysFrom 11 = .ok (.getfield 9, 3) := by decide +kernel
theorem dX6_waysFrom_14 : decode cX6_waysFrom 14 = .ok (.iload_n 1, 1) := by decide +kernel
theorem dX6_waysFrom_15 : decode cX6_waysFrom 15 = .ok (.iaload, 1) := by decide +kernel
theorem dX6_waysFrom_16 : decode cX6_waysFrom 16 = .ok (.istore_n 2, 1) := by decide +kernel
theorem dX6_waysFrom_17 : decode cX6_waysFrom 17 = .ok (.iconst 0, 1) := by decide +kernel
theorem dX6_waysFrom_18 : decode cX6_waysFrom 18 = .ok (.istore_n 3, 1) := by decide +kernel
theorem dX6_waysFrom_19 : decode cX6_waysFrom 19 = .ok (.iconst 0, 1) := by decide +kernel
theorem dX6_waysFrom_20 : decode cX6_waysFrom 20 = .ok (.istore 4, 2) := by decide +kernel
theorem dX6_waysFrom_22 : decode cX6_waysFrom 22 = .ok (.iload 4, 2) := by decide +kernel
theorem dX6_waysFrom_24 : decode cX6_waysFrom 24 = .ok (.aload_n 0, 1) := by decide +kernel
theorem dX6_waysFrom_25 : decode cX6_waysFrom 25 = .ok (.getfield 38, 3) := by decide +kernel
theorem dX6_waysFrom_28 : decode cX6_waysFrom 28 = .ok (.getfield 119, 3) := by decide +kernel
theorem dX6_waysFrom_31 : decode cX6_waysFrom 31 = .ok (.if_icmp .ge 54, 3) := by decide +kernel
theorem dX6_waysFrom_34 : decode cX6_waysFrom 34 = .ok (.iconst 0, 1) := by decide +kernel
theorem dX6_waysFrom_35 : decode cX6_waysFrom 35 = .ok (.istore 5, 2) := by decide +kernel
theorem dX6_waysFrom_37 : decode cX6_waysFrom 37 = .ok (.iload 5, 2) := by decide +kernel
theorem dX6_waysFrom_39 : decode cX6_waysFrom 39 = .ok (.iconst 4, 1) := by decide +kernel
theorem dX6_waysFrom_40 : decode cX6_waysFrom 40 = .ok (.if_icmp .ge 39, 3) := by decide +kernel
theorem dX6_waysFrom_43 : decode cX6_waysFrom 43 = .ok (.aload_n 0, 1) := by decide +kernel
theorem dX6_waysFrom_44 : decode cX6_waysFrom 44 = .ok (.iload_n 2, 1) := by decide +kernel
theorem dX6_waysFrom_45 : decode cX6_waysFrom 45 = .ok (.iload 4, 2) := by decide +kernel
theorem dX6_waysFrom_47 : decode cX6_waysFrom 47 = .ok (.iload 5, 2) := by decide +kernel
theorem dX6_waysFrom_49 : decode cX6_waysFrom 49 = .ok (.invokevirtual 122, 3) := by decide +kernel
theorem dX6_waysFrom_52 : decode cX6_waysFrom 52 = .ok (.ifCond .eq 21, 3) := by decide +kernel
theorem dX6_waysFrom_55 : decode cX6_waysFrom 55 = .ok (.iload_n 3, 1) := by decide +kernel
theorem dX6_waysFrom_56 : decode cX6_waysFrom 56 = .ok (.aload_n 0, 1) := by decide +kernel
theorem dX6_waysFrom_57 : decode cX6_waysFrom 57 = .ok (.iload_n 1, 1) := by decide +kernel
theorem dX6_waysFrom_58 : decode cX6_waysFrom 58 = .ok (.iconst 1, 1) := by decide +kernel
theorem dX6_waysFrom_59 : decode cX6_waysFrom 59 = .ok (.iadd, 1) := by decide +kernel
theorem dX6_waysFrom_60 : decode cX6_waysFrom 60 = .ok (.invokevirtual 62, 3) := by decide +kernel
theorem dX6_waysFrom_63 : decode cX6_waysFrom 63 = .ok (.iadd, 1) := by decide +kernel
theorem dX6_waysFrom_64 : decode cX6_waysFrom 64 = .ok (.istore_n 3, 1) := by decide +kernel
theorem dX6_waysFrom_65 : decode cX6_waysFrom 65 = .ok (.aload_n 0, 1) := by decide +kernel
theorem dX6_waysFrom_66 : decode cX6_waysFrom 66 = .ok (.getfield 43, 3) := by decide +kernel
theorem dX6_waysFrom_69 : decode cX6_waysFrom 69 = .ok (.iload_n 2, 1) := by decide +kernel
theorem dX6_waysFrom_70 : decode cX6_waysFrom 70 = .ok (.invokevirtual 96, 3) := by decide +kernel
theorem dX6_waysFrom_73 : decode cX6_waysFrom 73 = .ok (.iinc 5 1, 3) := by decide +kernel
theorem dX6_waysFrom_76 : decode cX6_waysFrom 76 = .ok (.goto (-39), 3) := by decide +kernel
theorem dX6_waysFrom_79 : decode cX6_waysFrom 79 = .ok (.iinc 4 1, 3) := by decide +kernel
theorem dX6_waysFrom_82 : decode cX6_waysFrom 82 = .ok (.goto (-60), 3) := by decide +kernel
theorem dX6_waysFrom_85 : decode cX6_waysFrom 85 = .ok (.iload_n 3, 1) := by decide +kernel
theorem dX6_waysFrom_86 : decode cX6_waysFrom 86 = .ok (.ireturn, 1) := by decide +kernel
theorem dX6_mostFrom_0 : decode cX6_mostFrom 0 = .ok (.iload_n 2, 1) := by decide +kernel
theorem dX6_mostFrom_1 : decode cX6_mostFrom 1 = .ok (.aload_n 0, 1) := by decide +kernel
theorem dX6_mostFrom_2 : decode cX6_mostFrom 2 = .ok (.iload_n 1, 1) := by decide +kernel
theorem dX6_mostFrom_3 : decode cX6_mostFrom 3 = .ok (.invokevirtual 125, 3) := by decide +kernel
theorem dX6_mostFrom_6 : decode cX6_mostFrom 6 = .ok (.iadd, 1) := by decide +kernel
theorem dX6_mostFrom_7 : decode cX6_mostFrom 7 = .ok (.aload_n 0, 1) := by decide +kernel
theorem dX6_mostFrom_8 : decode cX6_mostFrom 8 = .ok (.getfield 23, 3) := by decide +kernel
theorem dX6_mostFrom_11 : decode cX6_mostFrom 11 = .ok (.if_icmp .gt 4, 3) := by decide +kernel
theorem dX6_mostFrom_14 : decode cX6_mostFrom 14 = .ok (.return_, 1) := by decide +kernel
theorem dX6_mostFrom_15 : decode cX6_mostFrom 15 = .ok (.iload_n 1, 1) := by decide +kernel
theorem dX6_mostFrom_16 : decode cX6_mostFrom 16 = .ok (.aload_n 0, 1) := by decide +kernel
theorem dX6_mostFrom_17 : decode cX6_mostFrom 17 = .ok (.getfield 15, 3) := by decide +kernel
theorem dX6_mostFrom_20 : decode cX6_mostFrom 20 = .ok (.if_icmp .lt 9, 3) := by decide +kernel
theorem dX6_mostFrom_23 : decode cX6_mostFrom 23 = .ok (.aload_n 0, 1) := by decide +kernel
theorem dX6_mostFrom_24 : decode cX6_mostFrom 24 = .ok (.iload_n 2, 1) := by decide +kernel
theorem dX6_mostFrom_25 : decode cX6_mostFrom 25 = .ok (.invokevirtual 128, 3) := by decide +kernel
theorem dX6_mostFrom_28 : decode cX6_mostFrom 28 = .ok (.return_, 1) := by decide +kernel
theorem dX6_mostFrom_29 : decode cX6_mostFrom 29 = .ok (.aload_n 0, 1) := by decide +kernel
theorem dX6_mostFrom_30 : decode cX6_mostFrom 30 = .ok (.getfield 9, 3) := by decide +kernel
theorem dX6_mostFrom_33 : decode cX6_mostFrom 33 = .ok (.iload_n 1, 1) := by decide +kernel
theorem dX6_mostFrom_34 : decode cX6_mostFrom 34 = .ok (.iaload, 1) := by decide +kernel
theorem dX6_mostFrom_35 : decode cX6_mostFrom 35 = .ok (.istore_n 3, 1) := by decide +kernel
theorem dX6_mostFrom_36 : decode cX6_mostFrom 36 = .ok (.iconst 0, 1) := by decide +kernel
theorem dX6_mostFrom_37 : decode cX6_mostFrom 37 = .ok (.istore 4, 2) := by decide +kernel
theorem dX6_mostFrom_39 : decode cX6_mostFrom 39 = .ok (.iload 4, 2) := by decide +kernel
theorem dX6_mostFrom_41 : decode cX6_mostFrom 41 = .ok (.aload_n 0, 1) := by decide +kernel
theorem dX6_mostFrom_42 : decode cX6_mostFrom 42 = .ok (.getfield 38, 3) := by decide +kernel
theorem dX6_mostFrom_45 : decode cX6_mostFrom 45 = .ok (.getfield 119, 3) := by decide +kernel
theorem dX6_mostFrom_48 : decode cX6_mostFrom 48 = .ok (.if_icmp .ge 63, 3) := by decide +kernel
theorem dX6_mostFrom_51 : decode cX6_mostFrom 51 = .ok (.iconst 0, 1) := by decide +kernel
theorem dX6_mostFrom_52 : decode cX6_mostFrom 52 = .ok (.istore 5, 2) := by decide +kernel
theorem dX6_mostFrom_54 : decode cX6_mostFrom 54 = .ok (.iload 5, 2) := by decide +kernel
theorem dX6_mostFrom_56 : decode cX6_mostFrom 56 = .ok (.iconst 4, 1) := by decide +kernel
theorem dX6_mostFrom_57 : decode cX6_mostFrom 57 = .ok (.if_icmp .ge 48, 3) := by decide +kernel
theorem dX6_mostFrom_60 : decode cX6_mostFrom 60 = .ok (.aload_n 0, 1) := by decide +kernel
theorem dX6_mostFrom_61 : decode cX6_mostFrom 61 = .ok (.iload_n 3, 1) := by decide +kernel
theorem dX6_mostFrom_62 : decode cX6_mostFrom 62 = .ok (.iload 4, 2) := by decide +kernel
theorem dX6_mostFrom_64 : decode cX6_mostFrom 64 = .ok (.iload 5, 2) := by decide +kernel
theorem dX6_mostFrom_66 : decode cX6_mostFrom 66 = .ok (.invokevirtual 122, 3) := by decide +kernel
theorem dX6_mostFrom_69 : decode cX6_mostFrom 69 = .ok (.ifCond .eq 30, 3) := by decide +kernel
theorem dX6_mostFrom_72 : decode cX6_mostFrom 72 = .ok (.aload_n 0, 1) := by decide +kernel
theorem dX6_mostFrom_73 : decode cX6_mostFrom 73 = .ok (.iload_n 1, 1) := by decide +kernel
theorem dX6_mostFrom_74 : decode cX6_mostFrom 74 = .ok (.iconst 1, 1) := by decide +kernel
theorem dX6_mostFrom_75 : decode cX6_mostFrom 75 = .ok (.iadd, 1) := by decide +kernel
theorem dX6_mostFrom_76 : decode cX6_mostFrom 76 = .ok (.iload_n 2, 1) := by decide +kernel
theorem dX6_mostFrom_77 : decode cX6_mostFrom 77 = .ok (.aload_n 0, 1) := by decide +kernel
theorem dX6_mostFrom_78 : decode cX6_mostFrom 78 = .ok (.getfield 38, 3) := by decide +kernel
theorem dX6_mostFrom_81 : decode cX6_mostFrom 81 = .ok (.iload_n 3, 1) := by decide +kernel
theorem dX6_mostFrom_82 : decode cX6_mostFrom 82 = .ok (.bipush 7, 2) := by decide +kernel
theorem dX6_mostFrom_84 : decode cX6_mostFrom 84 = .ok (.invokevirtual 131, 3) := by decide +kernel
theorem dX6_mostFrom_87 : decode cX6_mostFrom 87 = .ok (.iadd, 1) := by decide +kernel
theorem dX6_mostFrom_88 : decode cX6_mostFrom 88 = .ok (.invokevirtual 66, 3) := by decide +kernel
theorem dX6_mostFrom_91 : decode cX6_mostFrom 91 = .ok (.aload_n 0, 1) := by decide +kernel
theorem dX6_mostFrom_92 : decode cX6_mostFrom 92 = .ok (.getfield 43, 3) := by decide +kernel
theorem dX6_mostFrom_95 : decode cX6_mostFrom 95 = .ok (.iload_n 3, 1) := by decide +kernel
theorem dX6_mostFrom_96 : decode cX6_mostFrom 96 = .ok (.invokevirtual 96, 3) := by decide +kernel
theorem dX6_mostFrom_99 : decode cX6_mostFrom 99 = .ok (.iinc 5 1, 3) := by decide +kernel
theorem dX6_mostFrom_102 : decode cX6_mostFrom 102 = .ok (.goto (-48), 3) := by decide +kernel
theorem dX6_mostFrom_105 : decode cX6_mostFrom 105 = .ok (.iinc 4 1, 3) := by decide +kernel
theorem dX6_mostFrom_108 : decode cX6_mostFrom 108 = .ok (.goto (-69), 3) := by decide +kernel
theorem dX6_mostFrom_111 : decode cX6_mostFrom 111 = .ok (.aload_n 0, 1) := by decide +kernel
theorem dX6_mostFrom_112 : decode cX6_mostFrom 112 = .ok (.iload_n 1, 1) := by decide +kernel
theorem dX6_mostFrom_113 : decode cX6_mostFrom 113 = .ok (.iconst 1, 1) := by decide +kernel
theorem dX6_mostFrom_114 : decode cX6_mostFrom 114 = .ok (.iadd, 1) := by decide +kernel
theorem dX6_mostFrom_115 : decode cX6_mostFrom 115 = .ok (.iload_n 2, 1) := by decide +kernel
theorem dX6_mostFrom_116 : decode cX6_mostFrom 116 = .ok (.invokevirtual 66, 3) := by decide +kernel
theorem dX6_mostFrom_119 : decode cX6_mostFrom 119 = .ok (.return_, 1) := by decide +kernel
theorem dX6_worthFrom_0 : decode cX6_worthFrom 0 = .ok (.iconst 0, 1) := by decide +kernel
theorem dX6_worthFrom_1 : decode cX6_worthFrom 1 = .ok (.istore_n 2, 1) := by decide +kernel
theorem dX6_worthFrom_2 : decode cX6_worthFrom 2 = .ok (.iload_n 1, 1) := by decide +kernel
theorem dX6_worthFrom_3 : decode cX6_worthFrom 3 = .ok (.istore_n 3, 1) := by decide +kernel
theorem dX6_worthFrom_4 : decode cX6_worthFrom 4 = .ok (.iload_n 3, 1) := by decide +kernel
theorem dX6_worthFrom_5 : decode cX6_worthFrom 5 = .ok (.aload_n 0, 1) := by decide +kernel
theorem dX6_worthFrom_6 : decode cX6_worthFrom 6 = .ok (.getfield 15, 3) := by decide +kernel
theorem dX6_worthFrom_9 : decode cX6_worthFrom 9 = .ok (.if_icmp .ge 27, 3) := by decide +kernel
theorem dX6_worthFrom_12 : decode cX6_worthFrom 12 = .ok (.iload_n 2, 1) := by decide +kernel
theorem dX6_worthFrom_13 : decode cX6_worthFrom 13 = .ok (.aload_n 0, 1) := by decide +kernel
theorem dX6_worthFrom_14 : decode cX6_worthFrom 14 = .ok (.getfield 38, 3) := by decide +kernel
theorem dX6_worthFrom_17 : decode cX6_worthFrom 17 = .ok (.aload_n 0, 1) := by decide +kernel
theorem dX6_worthFrom_18 : decode cX6_worthFrom 18 = .ok (.getfield 9, 3) := by decide +kernel
theorem dX6_worthFrom_21 : decode cX6_worthFrom 21 = .ok (.iload_n 3, 1) := by decide +kernel
theorem dX6_worthFrom_22 : decode cX6_worthFrom 22 = .ok (.iaload, 1) := by decide +kernel
theorem dX6_worthFrom_23 : decode cX6_worthFrom 23 = .ok (.bipush 7, 2) := by decide +kernel
theorem dX6_worthFrom_25 : decode cX6_worthFrom 25 = .ok (.invokevirtual 131, 3) := by decide +kernel
theorem dX6_worthFrom_28 : decode cX6_worthFrom 28 = .ok (.iadd, 1) := by decide +kernel
theorem dX6_worthFrom_29 : decode cX6_worthFrom 29 = .ok (.istore_n 2, 1) := by decide +kernel
theorem dX6_worthFrom_30 : decode cX6_worthFrom 30 = .ok (.iinc 3 1, 3) := by decide +kernel
theorem dX6_worthFrom_33 : decode cX6_worthFrom 33 = .ok (.goto (-29), 3) := by decide +kernel
theorem dX6_worthFrom_36 : decode cX6_worthFrom 36 = .ok (.iload_n 2, 1) := by decide +kernel
theorem dX6_worthFrom_37 : decode cX6_worthFrom 37 = .ok (.ireturn, 1) := by decide +kernel
theorem dX6_keepBest_0 : decode cX6_keepBest 0 = .ok (.aload_n 0, 1) := by decide +kernel
theorem dX6_keepBest_1 : decode cX6_keepBest 1 = .ok (.iload_n 1, 1) := by decide +kernel
theorem dX6_keepBest_2 : decode cX6_keepBest 2 = .ok (.putfield 23, 3) := by decide +kernel
theorem dX6_keepBest_5 : decode cX6_keepBest 5 = .ok (.iconst 0, 1) := by decide +kernel
theorem dX6_keepBest_6 : decode cX6_keepBest 6 = .ok (.istore_n 2, 1) := by decide +kernel
theorem dX6_keepBest_7 : decode cX6_keepBest 7 = .ok (.iload_n 2, 1) := by decide +kernel
theorem dX6_keepBest_8 : decode cX6_keepBest 8 = .ok (.aload_n 0, 1) := by decide +kernel
theorem dX6_keepBest_9 : decode cX6_keepBest 9 = .ok (.getfield 15, 3) := by decide +kernel
theorem dX6_keepBest_12 : decode cX6_keepBest 12 = .ok (.if_icmp .ge 49, 3) := by decide +kernel
theorem dX6_keepBest_15 : decode cX6_keepBest 15 = .ok (.aload_n 0, 1) := by decide +kernel
theorem dX6_keepBest_16 : decode cX6_keepBest 16 = .ok (.getfield 26, 3) := by decide +kernel
theorem dX6_keepBest_19 : decode cX6_keepBest 19 = .ok (.iload_n 2, 1) := by decide +kernel
theorem dX6_keepBest_20 : decode cX6_keepBest 20 = .ok (.aload_n 0, 1) := by decide +kernel
theorem dX6_keepBest_21 : decode cX6_keepBest 21 = .ok (.getfield 43, 3) := by decide +kernel
theorem dX6_keepBest_24 : decode cX6_keepBest 24 = .ok (.getfield 113, 3) := by decide +kernel
theorem dX6_keepBest_27 : decode cX6_keepBest 27 = .ok (.aload_n 0, 1) := by decide +kernel
theorem dX6_keepBest_28 : decode cX6_keepBest 28 = .ok (.getfield 9, 3) := by decide +kernel
theorem dX6_keepBest_31 : decode cX6_keepBest 31 = .ok (.iload_n 2, 1) := by decide +kernel
theorem dX6_keepBest_32 : decode cX6_keepBest 32 = .ok (.iaload, 1) := by decide +kernel
theorem dX6_keepBest_33 : decode cX6_keepBest 33 = .ok (.iaload, 1) := by decide +kernel
theorem dX6_keepBest_34 : decode cX6_keepBest 34 = .ok (.iastore, 1) := by decide +kernel
theorem dX6_keepBest_35 : decode cX6_keepBest 35 = .ok (.aload_n 0, 1) := by decide +kernel
theorem dX6_keepBest_36 : decode cX6_keepBest 36 = .ok (.getfield 29, 3) := by decide +kernel
theorem dX6_keepBest_39 : decode cX6_keepBest 39 = .ok (.iload_n 2, 1) := by decide +kernel
theorem dX6_keepBest_40 : decode cX6_keepBest 40 = .ok (.aload_n 0, 1) := by decide +kernel
theorem dX6_keepBest_41 : decode cX6_keepBest 41 = .ok (.getfield 43, 3) := by decide +kernel
theorem dX6_keepBest_44 : decode cX6_keepBest 44 = .ok (.getfield 116, 3) := by decide +kernel
theorem dX6_keepBest_47 : decode cX6_keepBest 47 = .ok (.aload_n 0, 1) := by decide +kernel
theorem dX6_keepBest_48 : decode cX6_keepBest 48 = .ok (.getfield 9, 3) := by decide +kernel
theorem dX6_keepBest_51 : decode cX6_keepBest 51 = .ok (.iload_n 2, 1) := by decide +kernel
theorem dX6_keepBest_52 : decode cX6_keepBest 52 = .ok (.iaload, 1) := by decide +kernel
theorem dX6_keepBest_53 : decode cX6_keepBest 53 = .ok (.iaload, 1) := by decide +kernel
theorem dX6_keepBest_54 : decode cX6_keepBest 54 = .ok (.iastore, 1) := by decide +kernel
theorem dX6_keepBest_55 : decode cX6_keepBest 55 = .ok (.iinc 2 1, 3) := by decide +kernel
theorem dX6_keepBest_58 : decode cX6_keepBest 58 = .ok (.goto (-51), 3) := by decide +kernel
theorem dX6_keepBest_61 : decode cX6_keepBest 61 = .ok (.return_, 1) := by decide +kernel
theorem dX7_init_0 : decode cX7_init 0 = .ok (.aload_n 0, 1) := by decide +kernel
theorem dX7_init_1 : decode cX7_init 1 = .ok (.invokespecial 3, 3) := by decide +kernel
theorem dX7_init_4 : decode cX7_init 4 = .ok (.aload_n 0, 1) := by decide +kernel
theorem dX7_init_5 : decode cX7_init 5 = .ok (.iconst 0, 1) := by decide +kernel
theorem dX7_init_6 : decode cX7_init 6 = .ok (.putfield 9, 3) := by decide +kernel
theorem dX7_init_9 : decode cX7_init 9 = .ok (.aload_n 0, 1) := by decide +kernel
theorem dX7_init_10 : decode cX7_init 10 = .ok (.iconst 0, 1) := by decide +kernel
theorem dX7_init_11 : decode cX7_init 11 = .ok (.putfield 15, 3) := by decide +kernel
theorem dX7_init_14 : decode cX7_init 14 = .ok (.aload_n 0, 1) := by decide +kernel
theorem dX7_init_15 : decode cX7_init 15 = .ok (.bipush 64, 2) := by decide +kernel
theorem dX7_init_17 : decode cX7_init 17 = .ok (.newarray .int, 2) := by decide +kernel
theorem dX7_init_19 : decode cX7_init 19 = .ok (.putfield 18, 3) := by decide +kernel
theorem dX7_init_22 : decode cX7_init 22 = .ok (.aload_n 0, 1) := by decide +kernel
theorem dX7_init_23 : decode cX7_init 23 = .ok (.bipush 6, 2) := by decide +kernel
theorem dX7_init_25 : decode cX7_init 25 = .ok (.newarray .int, 2) := by decide +kernel
theorem dX7_init_27 : decode cX7_init 27 = .ok (.putfield 22, 3) := by decide +kernel
theorem dX7_init_30 : decode cX7_init 30 = .ok (.aload_n 0, 1) := by decide +kernel
theorem dX7_init_31 : decode cX7_init 31 = .ok (.aload_n 1, 1) := by decide +kernel
theorem dX7_init_32 : decode cX7_init 32 = .ok (.getfield 25, 3) := by decide +kernel
theorem dX7_init_35 : decode cX7_init 35 = .ok (.putfield 31, 3) := by decide +kernel
theorem dX7_init_38 : decode cX7_init 38 = .ok (.aload_n 0, 1) := by decide +kernel
theorem dX7_init_39 : decode cX7_init 39 = .ok (.aload_n 1, 1) := by decide +kernel
theorem dX7_init_40 : decode cX7_init 40 = .ok (.putfield 32, 3) := by decide +kernel
theorem dX7_init_43 : decode cX7_init 43 = .ok (.return_, 1) := by decide +kernel
theorem dX7_divide_0 : decode cX7_divide 0 = .ok (.iconst 0, 1) := by decide +kernel
theorem dX7_divide_1 : decode cX7_divide 1 = .ok (.istore_n 1, 1) := by decide +kernel
theorem dX7_divide_2 : decode cX7_divide 2 = .ok (.iload_n 1, 1) := by decide +kernel
theorem dX7_divide_3 : decode cX7_divide 3 = .ok (.bipush 64, 2) := by decide +kernel
theorem dX7_divide_5 : decode cX7_divide 5 = .ok (.if_icmp .ge 24, 3) := by decide +kernel
theorem dX7_divide_8 : decode cX7_divide 8 = .ok (.aload_n 0, 1) := by decide +kernel
theorem dX7_divide_9 : decode cX7_divide 9 = .ok (.getfield 18, 3) := by decide +kernel
theorem dX7_divide_12 : decode cX7_divide 12 = .ok (.iload_n 1, 1) := by decide +kernel
theorem dX7_divide_13 : decode cX7_divide 13 = .ok (.iload_n 1, 1) := by decide +kernel
theorem dX7_divide_14 : decode cX7_divide 14 = .ok (.ifCond .ne 7, 3) := by decide +kernel
theorem dX7_divide_17 : decode cX7_divide 17 = .ok (.iconst 0, 1) := by decide +kernel
theorem dX7_divide_18 : decode cX7_divide 18 = .ok (.goto 4, 3) := by decide +kernel
theorem dX7_divide_21 : decode cX7_divide 21 = .ok (.iconst (-1), 1) := by decide +kernel
theorem dX7_divide_22 : decode cX7_divide 22 = .ok (.iastore, 1) := by decide +kernel
theorem dX7_divide_23 : decode cX7_divide 23 = .ok (.iinc 1 1, 3) := by decide +kernel
theorem dX7_divide_26 : decode cX7_divide 26 = .ok (.goto (-24), 3) := by decide +kernel
theorem dX7_divide_29 : decode cX7_divide 29 = .ok (.iconst 0, 1) := by decide +kernel
theorem dX7_divide_30 : decode cX7_divide 30 = .ok (.istore_n 1, 1) := by decide +kernel
theorem dX7_divide_31 : decode cX7_divide 31 = .ok (.iload_n 1, 1) := by decide +kernel
theorem dX7_divide_32 : decode cX7_divide 32 = .ok (.aload_n 0, 1) := by decide +kernel
theorem dX7_divide_33 : decode cX7_divide 33 = .ok (.getfield 31, 3) := by decide +kernel
theorem dX7_divide_36 : decode cX7_divide 36 = .ok (.getfield 36, 3) := by decide +kernel
theorem dX7_divide_39 : decode cX7_divide 39 = .ok (.if_icmp .ge 44, 3) := by decide +kernel
theorem dX7_divide_42 : decode cX7_divide 42 = .ok (.iconst 0, 1) := by decide +kernel
theorem dX7_divide_43 : decode cX7_divide 43 = .ok (.istore_n 2, 1) := by decide +kernel
theorem dX7_divide_44 : decode cX7_divide 44 = .ok (.iload_n 2, 1) := by decide +kernel
theorem dX7_divide_45 : decode cX7_divide 45 = .ok (.aload_n 0, 1) := by decide +kernel
theorem dX7_divide_46 : decode cX7_divide 46 = .ok (.getfield 31, 3) := by decide +kernel
theorem dX7_divide_49 : decode cX7_divide 49 = .ok (.getfield 39, 3) := by decide +kernel
theorem dX7_divide_52 : decode cX7_divide 52 = .ok (.if_icmp .ge 21, 3) := by decide +kernel
theorem dX7_divide_55 : decode cX7_divide 55 = .ok (.aload_n 0, 1) := by decide +kernel
theorem dX7_divide_56 : decode cX7_divide 56 = .ok (.getfield 22, 3) := by decide +kernel
theorem dX7_divide_59 : decode cX7_divide 59 = .ok (.iload_n 2, 1) := by decide +kernel
theorem dX7_divide_60 : decode cX7_divide 60 = .ok (.aload_n 0, 1) := by decide +kernel
theorem dX7_divide_61 : decode cX7_divide 61 = .ok (.iload_n 1, 1) := by decide +kernel
theorem dX7_divide_62 : decode cX7_divide 62 = .ok (.iload_n 2, 1) := by decide +kernel
theorem dX7_divide_63 : decode cX7_divide 63 = .ok (.invokevirtual 42, 3) := by decide +kernel
theorem dX7_divide_66 : decode cX7_divide 66 = .ok (.iastore, 1) := by decide +kernel
theorem dX7_divide_67 : decode cX7_divide 67 = .ok (.iinc 2 1, 3) := by decide +kernel
theorem dX7_divide_70 : decode cX7_divide 70 = .ok (.goto (-26), 3) := by decide +kernel
theorem dX7_divide_73 : decode cX7_divide 73 = .ok (.aload_n 0, 1) := by decide +kernel
theorem dX7_divide_74 : decode cX7_divide 74 = .ok (.invokevirtual 46, 3) := by decide +kernel
theorem dX7_divide_77 : decode cX7_divide 77 = .ok (.iinc 1 1, 3) := by decide +kernel
theorem dX7_divide_80 : decode cX7_divide 80 = .ok (.goto (-49), 3) := by decide +kernel
theorem dX7_divide_83 : decode cX7_divide 83 = .ok (.aload_n 0, 1) := by decide +kernel
theorem dX7_divide_84 : decode cX7_divide 84 = .ok (.invokevirtual 49, 3) := by decide +kernel
theorem dX7_divide_87 : decode cX7_divide 87 = .ok (.return_, 1) := by decide +kernel
theorem dX7_addLand_0 : decode cX7_addLand 0 = .ok (.bipush 63, 2) := by decide +kernel
theorem dX7_addLand_2 : decode cX7_addLand 2 = .ok (.istore_n 1, 1) := by decide +kernel
theorem dX7_addLand_3 : decode cX7_addLand 3 = .ok (.iload_n 1, 1) := by decide +kernel
theorem dX7_addLand_4 : decode cX7_addLand 4 = .ok (.ifCond .le 52, 3) := by decide +kernel
theorem dX7_addLand_7 : decode cX7_addLand 7 = .ok (.iconst 0, 1) := by decide +kernel
theorem dX7_addLand_8 : decode cX7_addLand 8 = .ok (.istore_n 2, 1) := by decide +kernel
theorem dX7_addLand_9 : decode cX7_addLand 9 = .ok (.iload_n 2, 1) := by decide +kernel
theorem dX7_addLand_10 : decode cX7_addLand 10 = .ok (.aload_n 0, 1) := by decide +kernel
theorem dX7_addLand_11 : decode cX7_addLand 11 = .ok (.getfield 31, 3) := by decide +kernel
theorem dX7_addLand_14 : decode cX7_addLand 14 = .ok (.getfield 39, 3) := by decide +kernel
theorem dX7_addLand_17 : decode cX7_addLand 17 = .ok (.if_icmp .ge 33, 3) := by decide +kernel
theorem dX7_addLand_20 : decode cX7_addLand 20 = .ok (.iload_n 1, 1) := by decide +kernel
theorem dX7_addLand_21 : decode cX7_addLand 21 = .ok (.iload_n 2, 1) := by decide +kernel
theorem dX7_addLand_22 : decode cX7_addLand 22 = .ok (.ishr, 1) := by decide +kernel
theorem dX7_addLand_23 : decode cX7_addLand 23 = .ok (.iconst 1, 1) := by decide +kernel
theorem dX7_addLand_24 : decode cX7_addLand 24 = .ok (.iand, 1) := by decide +kernel
theorem dX7_addLand_25 : decode cX7_addLand 25 = .ok (.ifCond .eq 19, 3) := by decide +kernel
theorem dX7_addLand_28 : decode cX7_addLand 28 = .ok (.aload_n 0, 1) := by decide +kernel
theorem dX7_addLand_29 : decode cX7_addLand 29 = .ok (.iload_n 1, 1) := by decide +kernel
theorem dX7_addLand_30 : decode cX7_addLand 30 = .ok (.iload_n 1, 1) := by decide +kernel
theorem dX7_addLand_31 : decode cX7_addLand 31 = .ok (.iconst 1, 1) := by decide +kernel
theorem dX7_addLand_32 : decode cX7_addLand 32 = .ok (.iload_n 2, 1) := by decide +kernel
theorem dX7_addLand_33 : decode cX7_addLand 33 = .ok (.ishl, 1) := by decide +kernel
theorem dX7_addLand_34 : decode cX7_addLand 34 = .ok (.ixor, 1) := by decide +kernel
theorem dX7_addLand_35 : decode cX7_addLand 35 = .ok (.aload_n 0, 1) := by decide +kernel
theorem dX7_addLand_36 : decode cX7_addLand 36 = .ok (.getfield 22, 3) := by decide +kernel
theorem dX7_addLand_39 : decode cX7_addLand 39 = .ok (.iload_n 2, 1) := by decide +kernel
theorem dX7_addLand_40 : decode cX7_addLand 40 = .ok (.iaload, 1) := by decide +kernel
theorem dX7_addLand_41 : decode cX7_addLand 41 = .ok (.invokevirtual 52, 3) := by decide +kernel
theorem dX7_addLand_44 : decode cX7_addLand 44 = .ok (.iinc 2 1, 3) := by decide +kernel
theorem dX7_addLand_47 : decode cX7_addLand 47 = .ok (.goto (-38), 3) := by decide +kernel
theorem dX7_addLand_50 : decode cX7_addLand 50 = .ok (.iinc 1 (-1), 3) := by decide +kernel
theorem dX7_addLand_53 : decode cX7_addLand 53 = .ok (.goto (-50), 3) := by decide +kernel
theorem dX7_addLand_56 : decode cX7_addLand 56 = .ok (.return_, 1) := by decide +kernel
theorem dX7_offer_0 : decode cX7_offer 0 = .ok (.iload_n 3, 1) := by decide +kernel
theorem dX7_offer_1 : decode cX7_offer 1 = .ok (.iconst (-1), 1) := by decide +kernel
theorem dX7_offer_2 : decode cX7_offer 2 = .ok (.if_icmp .eq 13, 3) := by decide +kernel
theorem dX7_offer_5 : decode cX7_offer 5 = .ok (.aload_n 0, 1) := by decide +kernel
theorem dX7_offer_6 : decode cX7_offer 6 = .ok (.getfield 18, 3) := by decide +kernel
theorem dX7_offer_9 : decode cX7_offer 9 = .ok (.iload_n 2, 1) := by decide +kernel
theorem dX7_offer_10 : decode cX7_offer 10 = .ok (.iaload, 1) := by decide +kernel
theorem dX7_offer_11 : decode cX7_offer 11 = .ok (.iconst (-1), 1) := by decide +kernel
theorem dX7_offer_12 : decode cX7_offer 12 = .ok (.if_icmp .ne 4, 3) := by decide +kernel
theorem dX7_offer_15 : decode cX7_offer 15 = .ok (.return_, 1) := by decide +kernel
theorem dX7_offer_16 : decode cX7_offer 16 = .ok (.aload_n 0, 1) := by decide +kernel
theorem dX7_offer_17 : decode cX7_offer 17 = .ok (.getfield 18, 3) := by decide +kernel
theorem dX7_offer_20 : decode cX7_offer 20 = .ok (.iload_n 2, 1) := by decide +kernel
theorem dX7_offer_21 : decode cX7_offer 21 = .ok (.iaload, 1) := by decide +kernel
theorem dX7_offer_22 : decode cX7_offer 22 = .ok (.iload_n 3, 1) := by decide +kernel
theorem dX7_offer_23 : decode cX7_offer 23 = .ok (.iadd, 1) := by decide +kernel
theorem dX7_offer_24 : decode cX7_offer 24 = .ok (.istore 4, 2) := by decide +kernel
theorem dX7_offer_26 : decode cX7_offer 26 = .ok (.aload_n 0, 1) := by decide +kernel
theorem dX7_offer_27 : decode cX7_offer 27 = .ok (.getfield 18, 3) := by decide +kernel
theorem dX7_offer_30 : decode cX7_offer 30 = .ok (.iload_n 1, 1) := by decide +kernel
theorem dX7_offer_31 : decode cX7_offer 31 = .ok (.iaload, 1) := by decide +kernel
theorem dX7_offer_32 : decode cX7_offer 32 = .ok (.iconst (-1), 1) := by decide +kernel
theorem dX7_offer_33 : decode cX7_offer 33 = .ok (.if_icmp .eq 14, 3) := by decide +kernel
theorem dX7_offer_36 : decode cX7_offer 36 = .ok (.iload 4, 2) := by decide +kernel
theorem dX7_offer_38 : decode cX7_offer 38 = .ok (.aload_n 0, 1) := by decide +kernel
theorem dX7_offer_39 : decode cX7_offer 39 = .ok (.getfield 18, 3) := by decide +kernel
theorem dX7_offer_42 : decode cX7_offer 42 = .ok (.iload_n 1, 1) := by decide +kernel
theorem dX7_offer_43 : decode cX7_offer 43 = .ok (.iaload, 1) := by decide +kernel
theorem dX7_offer_44 : decode cX7_offer 44 = .ok (.if_icmp .ge 11, 3) := by decide +kernel
theorem dX7_offer_47 : decode cX7_offer 47 = .ok (.aload_n 0, 1) := by decide +kernel
theorem dX7_offer_48 : decode cX7_offer 48 = .ok (.getfield 18, 3) := by decide +kernel
theorem dX7_offer_51 : decode cX7_offer 51 = .ok (.iload_n 1, 1) := by decide +kernel
theorem dX7_offer_52 : decode cX7_offer 52 = .ok (.iload 4, 2) := by decide +kernel
theorem dX7_offer_54 : decode cX7_offer 54 = .ok (.iastore, 1) := by decide +kernel
theorem dX7_offer_55 : decode cX7_offer 55 = .ok (.return_, 1) := by decide +kernel
theorem dX7_movesOf_0 : decode cX7_movesOf 0 = .ok (.aload_n 0, 1) := by decide +kernel
theorem dX7_movesOf_1 : decode cX7_movesOf 1 = .ok (.getfield 31, 3) := by decide +kernel
theorem dX7_movesOf_4 : decode cX7_movesOf 4 = .ok (.getfield 56, 3) := by decide +kernel
theorem dX7_movesOf_7 : decode cX7_movesOf 7 = .ok (.iload_n 2, 1) := by decide +kernel
theorem dX7_movesOf_8 : decode cX7_movesOf 8 = .ok (.iaload, 1) := by decide +kernel
theorem dX7_movesOf_9 : decode cX7_movesOf 9 = .ok (.istore_n 3, 1) := by decide +kernel
theorem dX7_movesOf_10 : decode cX7_movesOf 10 = .ok (.iconst (-1), 1) := by decide +kernel
theorem dX7_movesOf_11 : decode cX7_movesOf 11 = .ok (.istore 4, 2) := by decide +kernel
theorem dX7_movesOf_13 : decode cX7_movesOf 13 = .ok (.iconst 0, 1) := by decide +kernel
theorem dX7_movesOf_14 : decode cX7_movesOf 14 = .ok (.istore 5, 2) := by decide +kernel
theorem dX7_movesOf_16 : decode cX7_movesOf 16 = .ok (.iload 5, 2) := by decide +kernel
theorem dX7_movesOf_18 : decode cX7_movesOf 18 = .ok (.aload_n 0, 1) := by decide +kernel
theorem dX7_movesOf_19 : decode cX7_movesOf 19 = .ok (.getfield 31, 3) := by decide +kernel
theorem dX7_movesOf_22 : decode cX7_movesOf 22 = .ok (.getfield 59, 3) := by decide +kernel
theorem dX7_movesOf_25 : decode cX7_movesOf 25 = .ok (.if_icmp .ge 70, 3) := by decide +kernel
theorem dX7_movesOf_28 : decode cX7_movesOf 28 = .ok (.aload_n 0, 1) := by decide +kernel
theorem dX7_movesOf_29 : decode cX7_movesOf 29 = .ok (.getfield 31, 3) := by decide +kernel
theorem dX7_movesOf_32 : decode cX7_movesOf 32 = .ok (.iload 5, 2) := by decide +kernel
theorem dX7_movesOf_34 : decode cX7_movesOf 34 = .ok (.iconst 0, 1) := by decide +kernel
theorem dX7_movesOf_35 : decode cX7_movesOf 35 = .ok (.invokevirtual 62, 3) := by decide +kernel
theorem dX7_movesOf_38 : decode cX7_movesOf 38 = .ok (.iload_n 1, 1) := by decide +kernel
theorem dX7_movesOf_39 : decode cX7_movesOf 39 = .ok (.if_icmp .ne 50, 3) := by decide +kernel
theorem dX7_movesOf_42 : decode cX7_movesOf 42 = .ok (.aload_n 0, 1) := by decide +kernel
theorem dX7_movesOf_43 : decode cX7_movesOf 43 = .ok (.getfield 31, 3) := by decide +kernel
theorem dX7_movesOf_46 : decode cX7_movesOf 46 = .ok (.iload 5, 2) := by decide +kernel
theorem dX7_movesOf_48 : decode cX7_movesOf 48 = .ok (.invokevirtual 65, 3) := by decide +kernel
theorem dX7_movesOf_51 : decode cX7_movesOf 51 = .ok (.ifCond .ne 38, 3) := by decide +kernel
theorem dX7_movesOf_54 : decode cX7_movesOf 54 = .ok (.aload_n 0, 1) := by decide +kernel
theorem dX7_movesOf_55 : decode cX7_movesOf 55 = .ok (.getfield 31, 3) := by decide +kernel
theorem dX7_movesOf_58 : decode cX7_movesOf 58 = .ok (.iload 5, 2) := by decide +kernel
theorem dX7_movesOf_60 : decode cX7_movesOf 60 = .ok (.iload_n 3, 1) := by decide +kernel
theorem dX7_movesOf_61 : decode cX7_movesOf 61 = .ok (.invokevirtual 69, 3) := by decide +kernel
theorem dX7_movesOf_64 : decode cX7_movesOf 64 = .ok (.ifCond .ne 6, 3) := by decide +kernel
theorem dX7_movesOf_67 : decode cX7_movesOf 67 = .ok (.goto 22, 3) := by decide +kernel
theorem dX7_movesOf_70 : decode cX7_movesOf 70 = .ok (.aload_n 0, 1) := by decide +kernel
theorem dX7_movesOf_71 : decode cX7_movesOf 71 = .ok (.getfield 32, 3) := by decide +kernel
theorem dX7_movesOf_74 : decode cX7_movesOf 74 = .ok (.getfield 73, 3) := by decide +kernel
theorem dX7_movesOf_77 : decode cX7_movesOf 77 = .ok (.iload 5, 2) := by decide +kernel
theorem dX7_movesOf_79 : decode cX7_movesOf 79 = .ok (.iaload, 1) := by decide +kernel
theorem dX7_movesOf_80 : decode cX7_movesOf 80 = .ok (.iload_n 3, 1) := by decide +kernel
theorem dX7_movesOf_81 : decode cX7_movesOf 81 = .ok (.if_icmp .ne 5, 3) := by decide +kernel
theorem dX7_movesOf_84 : decode cX7_movesOf 84 = .ok (.iconst 0, 1) := by decide +kernel
theorem dX7_movesOf_85 : decode cX7_movesOf 85 = .ok (.ireturn, 1) := by decide +kernel
theorem dX7_movesOf_86 : decode cX7_movesOf 86 = .ok (.iconst 1, 1) := by decide +kernel
theorem dX7_movesOf_87 : decode cX7_movesOf 87 = .ok (.istore 4, 2) := by decide +kernel
theorem dX7_movesOf_89 : decode cX7_movesOf 89 = .ok (.iinc 5 1, 3) := by decide +kernel
theorem dX7_movesOf_92 : decode cX7_movesOf 92 = .ok (.goto (-76), 3) := by decide +kernel
theorem dX7_movesOf_95 : decode cX7_movesOf 95 = .ok (.iload 4, 2) := by decide +kernel
theorem dX7_movesOf_97 : decode cX7_movesOf 97 = .ok (.ireturn, 1) := by decide +kernel
theorem dX7_pickBest_0 : decode cX7_pickBest 0 = .ok (.aload_n 0, 1) := by decide +kernel
theorem dX7_pickBest_1 : decode cX7_pickBest 1 = .ok (.iconst 0, 1) := by decide +kernel
theorem dX7_pickBest_2 : decode cX7_pickBest 2 = .ok (.putfield 9, 3) := by decide +kernel
theorem dX7_pickBest_5 : decode cX7_pickBest 5 = .ok (.aload_n 0, 1) := by decide +kernel
theorem dX7_pickBest_6 : decode cX7_pickBest 6 = .ok (.iconst 0, 1) := by decide +kernel
theorem dX7_pickBest_7 : decode cX7_pickBest 7 = .ok (.putfield 15, 3) := by decide +kernel
theorem dX7_pickBest_10 : decode cX7_pickBest 10 = .ok (.iconst 1, 1) := by decide +kernel
theorem dX7_pickBest_11 : decode cX7_pickBest 11 = .ok (.istore_n 1, 1) := by decide +kernel
theorem dX7_pickBest_12 : decode cX7_pickBest 12 = .ok (.iload_n 1, 1) := by decide +kernel
theorem dX7_pickBest_13 : decode cX7_pickBest 13 = .ok (.bipush 64, 2) := by decide +kernel
theorem dX7_pickBest_15 : decode cX7_pickBest 15 = .ok (.if_icmp .ge 71, 3) := by decide +kernel
theorem dX7_pickBest_18 : decode cX7_pickBest 18 = .ok (.iload_n 1, 1) := by decide +kernel
theorem dX7_pickBest_19 : decode cX7_pickBest 19 = .ok (.invokestatic 76, 3) := by decide +kernel
theorem dX7_pickBest_22 : decode cX7_pickBest 22 = .ok (.istore_n 2, 1) := by decide +kernel
theorem dX7_pickBest_23 : decode cX7_pickBest 23 = .ok (.aload_n 0, 1) := by decide +kernel
theorem dX7_pickBest_24 : decode cX7_pickBest 24 = .ok (.getfield 18, 3) := by decide +kernel
theorem dX7_pickBest_27 : decode cX7_pickBest 27 = .ok (.iload_n 1, 1) := by decide +kernel
theorem dX7_pickBest_28 : decode cX7_pickBest 28 = .ok (.iaload, 1) := by decide +kernel
theorem dX7_pickBest_29 : decode cX7_pickBest 29 = .ok (.iconst (-1), 1) := by decide +kernel
theorem dX7_pickBest_30 : decode cX7_pickBest 30 = .ok (.if_icmp .eq 50, 3) := by decide +kernel
theorem dX7_pickBest_33 : decode cX7_pickBest 33 = .ok (.iload_n 2, 1) := by decide +kernel
theorem dX7_pickBest_34 : decode cX7_pickBest 34 = .ok (.aload_n 0, 1) := by decide +kernel
theorem dX7_pickBest_35 : decode cX7_pickBest 35 = .ok (.getfield 9, 3) := by decide +kernel
theorem dX7_pickBest_38 : decode cX7_pickBest 38 = .ok (.if_icmp .ge 6, 3) := by decide +kernel
theorem dX7_pickBest_41 : decode cX7_pickBest 41 = .ok (.goto 39, 3) := by decide +kernel
theorem dX7_pickBest_44 : decode cX7_pickBest 44 = .ok (.iload_n 2, 1) := by decide +kernel
theorem dX7_pickBest_45 : decode cX7_pickBest 45 = .ok (.aload_n 0, 1) := by decide +kernel
theorem dX7_pickBest_46 : decode cX7_pickBest 46 = .ok (.getfield 9, 3) := by decide +kernel
theorem dX7_pickBest_49 : decode cX7_pickBest 49 = .ok (.if_icmp .gt 16, 3) := by decide +kernel
theorem dX7_pickBest_52 : decode cX7_pickBest 52 = .ok (.aload_n 0, 1) := by decide +kernel
theorem dX7_pickBest_53 : decode cX7_pickBest 53 = .ok (.getfield 18, 3) := by decide +kernel
theorem dX7_pickBest_56 : decode cX7_pickBest 56 = .ok (.iload_n 1, 1) := by decide +kernel
theorem dX7_pickBest_57 : decode cX7_pickBest 57 = .ok (.iaload, 1) := by decide +kernel
theorem dX7_pickBest_58 : decode cX7_pickBest 58 = .ok (.aload_n 0, 1) := by decide +kernel
theorem dX7_pickBest_59 : decode cX7_pickBest 59 = .ok (.getfield 15, 3) := by decide +kernel
theorem dX7_pickBest_62 : decode cX7_pickBest 62 = .ok (.if_icmp .ge 18, 3) := by decide +kernel
theorem dX7_pickBest_65 : decode cX7_pickBest 65 = .ok (.aload_n 0, 1) := by decide +kernel
theorem dX7_pickBest_66 : decode cX7_pickBest 66 = .ok (.iload_n 2, 1) := by decide +kernel
theorem dX7_pickBest_67 : decode cX7_pickBest 67 = .ok (.putfield 9, 3) := by decide +kernel
theorem dX7_pickBest_70 : decode cX7_pickBest 70 = .ok (.aload_n 0, 1) := by decide +kernel
theorem dX7_pickBest_71 : decode cX7_pickBest 71 = .ok (.aload_n 0, 1) := by decide +kernel
theorem dX7_pickBest_72 : decode cX7_pickBest 72 = .ok (.getfield 18, 3) := by decide +kernel
theorem dX7_pickBest_75 : decode cX7_pickBest 75 = .ok (.iload_n 1, 1) := by decide +kernel
theorem dX7_pickBest_76 : decode cX7_pickBest 76 = .ok (.iaload, 1) := by decide +kernel
theorem dX7_pickBest_77 : decode cX7_pickBest 77 = .ok (.putfield 15, 3) := by decide +kernel
theorem dX7_pickBest_80 : decode cX7_pickBest 80 = .ok (.iinc 1 1, 3) := by decide +kernel
theorem dX7_pickBest_83 : decode cX7_pickBest 83 = .ok (.goto (-71), 3) := by decide +kernel
theorem dX7_pickBest_86 : decode cX7_pickBest 86 = .ok (.return_, 1) := by decide +kernel
theorem dX8_init_0 : decode cX8_init 0 = .ok (.aload_n 0, 1) := by decide +kernel
theorem dX8_init_1 : decode cX8_init 1 = .ok (.invokespecial 3, 3) := by decide +kernel
theorem dX8_init_4 : decode cX8_init 4 = .ok (.aload_n 0, 1) := by decide +kernel
theorem dX8_init_5 : decode cX8_init 5 = .ok (.bipush 16, 2) := by decide +kernel
theorem dX8_init_7 : decode cX8_init 7 = .ok (.newarray .int, 2) := by decide +kernel
theorem dX8_init_9 : decode cX8_init 9 = .ok (.putfield 9, 3) := by decide +kernel
theorem dX8_init_12 : decode cX8_init 12 = .ok (.aload_n 0, 1) := by decide +kernel
theorem dX8_init_13 : decode cX8_init 13 = .ok (.bipush 16, 2) := by decide +kernel
theorem dX8_init_15 : decode cX8_init 15 = .ok (.newarray .int, 2) := by decide +kernel
theorem dX8_init_17 : decode cX8_init 17 = .ok (.putfield 15, 3) := by decide +kernel
theorem dX8_init_20 : decode cX8_init 20 = .ok (.aload_n 0, 1) := by decide +kernel
theorem dX8_init_21 : decode cX8_init 21 = .ok (.bipush 16, 2) := by decide +kernel
theorem dX8_init_23 : decode cX8_init 23 = .ok (.newarray .int, 2) := by decide +kernel
theorem dX8_init_25 : decode cX8_init 25 = .ok (.putfield 18, 3) := by decide +kernel
theorem dX8_init_28 : decode cX8_init 28 = .ok (.aload_n 0, 1) := by decide +kernel
theorem dX8_init_29 : decode cX8_init 29 = .ok (.bipush 16, 2) := by decide +kernel
theorem dX8_init_31 : decode cX8_init 31 = .ok (.newarray .int, 2) := by decide +kernel
theorem dX8_init_33 : decode cX8_init 33 = .ok (.putfield 21, 3) := by decide +kernel
theorem dX8_init_36 : decode cX8_init 36 = .ok (.aload_n 0, 1) := by decide +kernel
theorem dX8_init_37 : decode cX8_init 37 = .ok (.bipush 16, 2) := by decide +kernel
theorem dX8_init_39 : decode cX8_init 39 = .ok (.newarray .int, 2) := by decide +kernel
theorem dX8_init_41 : decode cX8_init 41 = .ok (.putfield 24, 3) := by decide +kernel
theorem dX8_init_44 : decode cX8_init 44 = .ok (.aload_n 0, 1) := by decide +kernel
theorem dX8_init_45 : decode cX8_init 45 = .ok (.bipush 16, 2) := by decide +kernel
theorem dX8_init_47 : decode cX8_init 47 = .ok (.newarray .int, 2) := by decide +kernel
theorem dX8_init_49 : decode cX8_init 49 = .ok (.putfield 27, 3) := by decide +kernel
theorem dX8_init_52 : decode cX8_init 52 = .ok (.aload_n 0, 1) := by decide +kernel
theorem dX8_init_53 : decode cX8_init 53 = .ok (.aload_n 1, 1) := by decide +kernel
theorem dX8_init_54 : decode cX8_init 54 = .ok (.putfield 30, 3) := by decide +kernel
theorem dX8_init_57 : decode cX8_init 57 = .ok (.iconst 0, 1) := by decide +kernel
theorem dX8_init_58 : decode cX8_init 58 = .ok (.istore_n 2, 1) := by decide +kernel
theorem dX8_init_59 : decode cX8_init 59 = .ok (.iload_n 2, 1) := by decide +kernel
theorem dX8_init_60 : decode cX8_init 60 = .ok (.bipush 16, 2) := by decide +kernel
theorem dX8_init_62 : decode cX8_init 62 = .ok (.if_icmp .ge 23, 3) := by decide +kernel
theorem dX8_init_65 : decode cX8_init 65 = .ok (.aload_n 0, 1) := by decide +kernel
theorem dX8_init_66 : decode cX8_init 66 = .ok (.getfield 9, 3) := by decide +kernel
theorem dX8_init_69 : decode cX8_init 69 = .ok (.iload_n 2, 1) := by decide +kernel
theorem dX8_init_70 : decode cX8_init 70 = .ok (.iconst (-1), 1) := by decide +kernel
theorem dX8_init_71 : decode cX8_init 71 = .ok (.iastore, 1) := by decide +kernel
theorem dX8_init_72 : decode cX8_init 72 = .ok (.aload_n 0, 1) := by decide +kernel
theorem dX8_init_73 : decode cX8_init 73 = .ok (.getfield 15, 3) := by decide +kernel
theorem dX8_init_76 : decode cX8_init 76 = .ok (.iload_n 2, 1) := by decide +kernel
theorem dX8_init_77 : decode cX8_init 77 = .ok (.iconst (-1), 1) := by decide +kernel
theorem dX8_init_78 : decode cX8_init 78 = .ok (.iastore, 1) := by decide +kernel
theorem dX8_init_79 : decode cX8_init 79 = .ok (.iinc 2 1, 3) := by decide +kernel
theorem dX8_init_82 : decode cX8_init 82 = .ok (.goto (-23), 3) := by decide +kernel
theorem dX8_init_85 : decode cX8_init 85 = .ok (.return_, 1) := by decide +kernel
theorem dX8_clear_0 : decode cX8_clear 0 = .ok (.iconst 0, 1) := by decide +kernel
theorem dX8_clear_1 : decode cX8_clear 1 = .ok (.istore_n 1, 1) := by decide +kernel
theorem dX8_clear_2 : decode cX8_clear 2 = .ok (.iload_n 1, 1) := by decide +kernel
theorem dX8_clear_3 : decode cX8_clear 3 = .ok (.bipush 16, 2) := by decide +kernel
theorem dX8_clear_5 : decode cX8_clear 5 = .ok (.if_icmp .ge 67, 3) := by decide +kernel
theorem dX8_clear_8 : decode cX8_clear 8 = .ok (.aload_n 0, 1) := by decide +kernel
theorem dX8_clear_9 : decode cX8_clear 9 = .ok (.getfield 9, 3) := by decide +kernel
theorem dX8_clear_12 : decode cX8_clear 12 = .ok (.iload_n 1, 1) := by decide +kernel
theorem dX8_clear_13 : decode cX8_clear 13 = .ok (.iconst (-1), 1) := by decide +kernel
theorem dX8_clear_14 : decode cX8_clear 14 = .ok (.iastore, 1) := by decide +kernel
theorem dX8_clear_15 : decode cX8_clear 15 = .ok (.aload_n 0, 1) := by decide +kernel
theorem dX8_clear_16 : decode cX8_clear 16 = .ok (.getfield 15, 3) := by decide +kernel
theorem dX8_clear_19 : decode cX8_clear 19 = .ok (.iload_n 1, 1) := by decide +kernel
theorem dX8_clear_20 : decode cX8_clear 20 = .ok (.iconst (-1), 1) := by decide +kernel
theorem dX8_clear_21 : decode cX8_clear 21 = .ok (.iastore, 1) := by decide +kernel
theorem dX8_clear_22 : decode cX8_clear 22 = .ok (.aload_n 0, 1) := by decide +kernel
theorem dX8_clear_23 : decode cX8_clear 23 = .ok (.getfield 18, 3) := by decide +kernel
theorem dX8_clear_26 : decode cX8_clear 26 = .ok (.iload_n 1, 1) := by decide +kernel
theorem dX8_clear_27 : decode cX8_clear 27 = .ok (.aload_n 0, 1) := by decide +kernel
theorem dX8_clear_28 : decode cX8_clear 28 = .ok (.getfield 30, 3) := by decide +kernel
theorem dX8_clear_31 : decode cX8_clear 31 = .ok (.iload_n 1, 1) := by decide +kernel
theorem dX8_clear_32 : decode cX8_clear 32 = .ok (.iconst 4, 1) := by decide +kernel
theorem dX8_clear_33 : decode cX8_clear 33 = .ok (.invokevirtual 34, 3) := by decide +kernel
theorem dX8_clear_36 : decode cX8_clear 36 = .ok (.iastore, 1) := by decide +kernel
theorem dX8_clear_37 : decode cX8_clear 37 = .ok (.aload_n 0, 1) := by decide +kernel
theorem dX8_clear_38 : decode cX8_clear 38 = .ok (.getfield 21, 3) := by decide +kernel
theorem dX8_clear_41 : decode cX8_clear 41 = .ok (.iload_n 1, 1) := by decide +kernel
theorem dX8_clear_42 : decode cX8_clear 42 = .ok (.aload_n 0, 1) := by decide +kernel
theorem dX8_clear_43 : decode cX8_clear 43 = .ok (.getfield 30, 3) := by decide +kernel
theorem dX8_clear_46 : decode cX8_clear 46 = .ok (.iload_n 1, 1) := by decide +kernel
theorem dX8_clear_47 : decode cX8_clear 47 = .ok (.iconst 5, 1) := by decide +kernel
theorem dX8_clear_48 : decode cX8_clear 48 = .ok (.invokevirtual 34, 3) := by decide +kernel
theorem dX8_clear_51 : decode cX8_clear 51 = .ok (.iastore, 1) := by decide +kernel
theorem dX8_clear_52 : decode cX8_clear 52 = .ok (.aload_n 0, 1) := by decide +kernel
theorem dX8_clear_53 : decode cX8_clear 53 = .ok (.getfield 24, 3) := by decide +kernel
theorem dX8_clear_56 : decode cX8_clear 56 = .ok (.iload_n 1, 1) := by decide +kernel
theorem dX8_clear_57 : decode cX8_clear 57 = .ok (.iconst 0, 1) := by decide +kernel
theorem dX8_clear_58 : decode cX8_clear 58 = .ok (.iastore, 1) := by decide +kernel
theorem dX8_clear_59 : decode cX8_clear 59 = .ok (.aload_n 0, 1) := by decide +kernel
theorem dX8_clear_60 : decode cX8_clear 60 = .ok (.getfield 27, 3) := by decide +kernel
theorem dX8_clear_63 : decode cX8_clear 63 = .ok (.iload_n 1, 1) := by decide +kernel
theorem dX8_clear_64 : decode cX8_clear 64 = .ok (.iconst 0, 1) := by decide +kernel
theorem dX8_clear_65 : decode cX8_clear 65 = .ok (.iastore, 1) := by decide +kernel
theorem dX8_clear_66 : decode cX8_clear 66 = .ok (.iinc 1 1, 3) := by decide +kernel
theorem dX8_clear_69 : decode cX8_clear 69 = .ok (.goto (-67), 3) := by decide +kernel
theorem dX8_clear_72 : decode cX8_clear 72 = .ok (.return_, 1) := by decide +kernel
theorem dX8_copyFrom_0 : decode cX8_copyFrom 0 = .ok (.aload_n 1, 1) := by decide +kernel
theorem dX8_copyFrom_1 : decode cX8_copyFrom 1 = .ok (.getfield 9, 3) := by decide +kernel
theorem dX8_copyFrom_4 : decode cX8_copyFrom 4 = .ok (.iconst 0, 1) := by decide +kernel
theorem dX8_copyFrom_5 : decode cX8_copyFrom 5 = .ok (.aload_n 0, 1) := by decide +kernel
theorem dX8_copyFrom_6 : decode cX8_copyFrom 6 = .ok (.getfield 9, 3) := by decide +kernel
theorem dX8_copyFrom_9 : decode cX8_copyFrom 9 = .ok (.iconst 0, 1) := by decide +kernel
theorem dX8_copyFrom_10 : decode cX8_copyFrom 10 = .ok (.bipush 16, 2) := by decide +kernel
theorem dX8_copyFrom_12 : decode cX8_copyFrom 12 = .ok (.invokestatic 40, 3) := by decide +kernel
theorem dX8_copyFrom_15 : decode cX8_copyFrom 15 = .ok (.aload_n 1, 1) := by decide +kernel
theorem dX8_copyFrom_16 : decode cX8_copyFrom 16 = .ok (.getfield 15, 3) := by decide +kernel
theorem dX8_copyFrom_19 : decode cX8_copyFrom 19 = .ok (.iconst 0, 1) := by decide +kernel
theorem dX8_copyFrom_20 : decode cX8_copyFrom 20 = .ok (.aload_n 0, 1) := by decide +kernel
theorem dX8_copyFrom_21 : decode cX8_copyFrom 21 = .ok (.getfield 15, 3) := by decide +kernel
theorem dX8_copyFrom_24 : decode cX8_copyFrom 24 = .ok (.iconst 0, 1) := by decide +kernel
theorem dX8_copyFrom_25 : decode cX8_copyFrom 25 = .ok (.bipush 16, 2) := by decide +kernel
theorem dX8_copyFrom_27 : decode cX8_copyFrom 27 = .ok (.invokestatic 40, 3) := by decide +kernel
theorem dX8_copyFrom_30 : decode cX8_copyFrom 30 = .ok (.aload_n 1, 1) := by decide +kernel
theorem dX8_copyFrom_31 : decode cX8_copyFrom 31 = .ok (.getfield 18, 3) := by decide +kernel
theorem dX8_copyFrom_34 : decode cX8_copyFrom 34 = .ok (.iconst 0, 1) := by decide +kernel
theorem dX8_copyFrom_35 : decode cX8_copyFrom 35 = .ok (.aload_n 0, 1) := by decide +kernel
theorem dX8_copyFrom_36 : decode cX8_copyFrom 36 = .ok (.getfield 18, 3) := by decide +kernel
theorem dX8_copyFrom_39 : decode cX8_copyFrom 39 = .ok (.iconst 0, 1) := by decide +kernel
theorem dX8_copyFrom_40 : decode cX8_copyFrom 40 = .ok (.bipush 16, 2) := by decide +kernel
theorem dX8_copyFrom_42 : decode cX8_copyFrom 42 = .ok (.invokestatic 40, 3) := by decide +kernel
theorem dX8_copyFrom_45 : decode cX8_copyFrom 45 = .ok (.aload_n 1, 1) := by decide +kernel
theorem dX8_copyFrom_46 : decode cX8_copyFrom 46 = .ok (.getfield 21, 3) := by decide +kernel
theorem dX8_copyFrom_49 : decode cX8_copyFrom 49 = .ok (.iconst 0, 1) := by decide +kernel
theorem dX8_copyFrom_50 : decode cX8_copyFrom 50 = .ok (.aload_n 0, 1) := by decide +kernel
theorem dX8_copyFrom_51 : decode cX8_copyFrom 51 = .ok (.getfield 21, 3) := by decide +kernel
theorem dX8_copyFrom_54 : decode cX8_copyFrom 54 = .ok (.iconst 0, 1) := by decide +kernel
theorem dX8_copyFrom_55 : decode cX8_copyFrom 55 = .ok (.bipush 16, 2) := by decide +kernel
theorem dX8_copyFrom_57 : decode cX8_copyFrom 57 = .ok (.invokestatic 40, 3) := by decide +kernel
theorem dX8_copyFrom_60 : decode cX8_copyFrom 60 = .ok (.aload_n 1, 1) := by decide +kernel
theorem dX8_copyFrom_61 : decode cX8_copyFrom 61 = .ok (.getfield 24, 3) := by decide +kernel
theorem dX8_copyFrom_64 : decode cX8_copyFrom 64 = .ok (.iconst 0, 1) := by decide +kernel
theorem dX8_copyFrom_65 : decode cX8_copyFrom 65 = .ok (.aload_n 0, 1) := by decide +kernel
theorem dX8_copyFrom_66 : decode cX8_copyFrom 66 = .ok (.getfield 24, 3) := by decide +kernel
theorem dX8_copyFrom_69 : decode cX8_copyFrom 69 = .ok (.iconst 0, 1) := by decide +kernel
theorem dX8_copyFrom_70 : decode cX8_copyFrom 70 = .ok (.bipush 16, 2) := by decide +kernel
theorem dX8_copyFrom_72 : decode cX8_copyFrom 72 = .ok (.invokestatic 40, 3) := by decide +kernel
theorem dX8_copyFrom_75 : decode cX8_copyFrom 75 = .ok (.aload_n 1, 1) := by decide +kernel
theorem dX8_copyFrom_76 : decode cX8_copyFrom 76 = .ok (.getfield 27, 3) := by decide +kernel
theorem dX8_copyFrom_79 : decode cX8_copyFrom 79 = .ok (.iconst 0, 1) := by decide +kernel
theorem dX8_copyFrom_80 : decode cX8_copyFrom 80 = .ok (.aload_n 0, 1) := by decide +kernel
theorem dX8_copyFrom_81 : decode cX8_copyFrom 81 = .ok (.getfield 27, 3) := by decide +kernel
theorem dX8_copyFrom_84 : decode cX8_copyFrom 84 = .ok (.iconst 0, 1) := by decide +kernel
theorem dX8_copyFrom_85 : decode cX8_copyFrom 85 = .ok (.bipush 16, 2) := by decide +kernel
theorem dX8_copyFrom_87 : decode cX8_copyFrom 87 = .ok (.invokestatic 40, 3) := by decide +kernel
theorem dX8_copyFrom_90 : decode cX8_copyFrom 90 = .ok (.return_, 1) := by decide +kernel
theorem dX8_isUp_0 : decode cX8_isUp 0 = .ok (.aload_n 0, 1) := by decide +kernel
theorem dX8_isUp_1 : decode cX8_isUp 1 = .ok (.getfield 9, 3) := by decide +kernel
theorem dX8_isUp_4 : decode cX8_isUp 4 = .ok (.iload_n 1, 1) := by decide +kernel
theorem dX8_isUp_5 : decode cX8_isUp 5 = .ok (.iaload, 1) := by decide +kernel
theorem dX8_isUp_6 : decode cX8_isUp 6 = .ok (.iconst (-1), 1) := by decide +kernel
theorem dX8_isUp_7 : decode cX8_isUp 7 = .ok (.if_icmp .eq 7, 3) := by decide +kernel
theorem dX8_isUp_10 : decode cX8_isUp 10 = .ok (.iconst 1, 1) := by decide +kernel
theorem dX8_isUp_11 : decode cX8_isUp 11 = .ok (.goto 4, 3) := by decide +kernel
theorem dX8_isUp_14 : decode cX8_isUp 14 = .ok (.iconst 0, 1) := by decide +kernel
theorem dX8_isUp_15 : decode cX8_isUp 15 = .ok (.ireturn, 1) := by decide +kernel
theorem dX8_isLiving_0 : decode cX8_isLiving 0 = .ok (.aload_n 0, 1) := by decide +kernel
theorem dX8_isLiving_1 : decode cX8_isLiving 1 = .ok (.getfield 9, 3) := by decide +kernel
theorem dX8_isLiving_4 : decode cX8_isLiving 4 = .ok (.iload_n 1, 1) := by decide +kernel
theorem dX8_isLiving_5 : decode cX8_isLiving 5 = .ok (.iaload, 1) := by decide +kernel
theorem dX8_isLiving_6 : decode cX8_isLiving 6 = .ok (.iconst (-1), 1) := by decide +kernel
theorem dX8_isLiving_7 : decode cX8_isLiving 7 = .ok (.if_icmp .eq 18, 3) := by decide +kernel
theorem dX8_isLiving_10 : decode cX8_isLiving 10 = .ok (.aload_n 0, 1) := by decide +kernel
theorem dX8_isLiving_11 : decode cX8_isLiving 11 = .ok (.getfield 30, 3) := by decide +kernel
theorem dX8_isLiving_14 : decode cX8_isLiving 14 = .ok (.iload_n 1, 1) := by decide +kernel
theorem dX8_isLiving_15 : decode cX8_isLiving 15 = .ok (.invokevirtual 46, 3) := by decide +kernel
theorem dX8_isLiving_18 : decode cX8_isLiving 18 = .ok (.ifCond .ne 7, 3) := by decide +kernel
theorem dX8_isLiving_21 : decode cX8_isLiving 21 = .ok (.iconst 1, 1) := by decide +kernel
theorem dX8_isLiving_22 : decode cX8_isLiving 22 = .ok (.goto 4, 3) := by decide +kernel
theorem dX8_isLiving_25 : decode cX8_isLiving 25 = .ok (.iconst 0, 1) := by decide +kernel
theorem dX8_isLiving_26 : decode cX8_isLiving 26 = .ok (.ireturn, 1) := by decide +kernel
theorem dX8_howManyUp_0 : decode cX8_howManyUp 0 = .ok (.iconst 0, 1) := by decide +kernel
theorem dX8_howManyUp_1 : decode cX8_howManyUp 1 = .ok (.istore_n 1, 1) := by decide +kernel
theorem dX8_howManyUp_2 : decode cX8_howManyUp 2 = .ok (.iconst 0, 1) := by decide +kernel
theorem dX8_howManyUp_3 : decode cX8_howManyUp 3 = .ok (.istore_n 2, 1) := by decide +kernel
theorem dX8_howManyUp_4 : decode cX8_howManyUp 4 = .ok (.iload_n 2, 1) := by decide +kernel
theorem dX8_howManyUp_5 : decode cX8_howManyUp 5 = .ok (.aload_n 0, 1) := by decide +kernel
theorem dX8_howManyUp_6 : decode cX8_howManyUp 6 = .ok (.getfield 30, 3) := by decide +kernel
theorem dX8_howManyUp_9 : decode cX8_howManyUp 9 = .ok (.getfield 50, 3) := by decide +kernel
theorem dX8_howManyUp_12 : decode cX8_howManyUp 12 = .ok (.if_icmp .ge 20, 3) := by decide +kernel
theorem dX8_howManyUp_15 : decode cX8_howManyUp 15 = .ok (.aload_n 0, 1) := by decide +kernel
theorem dX8_howManyUp_16 : decode cX8_howManyUp 16 = .ok (.iload_n 2, 1) := by decide +kernel
theorem dX8_howManyUp_17 : decode cX8_howManyUp 17 = .ok (.invokevirtual 54, 3) := by decide +kernel
theorem dX8_howManyUp_20 : decode cX8_howManyUp 20 = .ok (.ifCond .eq 6, 3) := by decide +kernel
theorem dX8_howManyUp_23 : decode cX8_howManyUp 23 = .ok (.iinc 1 1, 3) := by decide +kernel
theorem dX8_howManyUp_26 : decode cX8_howManyUp 26 = .ok (.iinc 2 1, 3) := by decide +kernel
theorem dX8_howManyUp_29 : decode cX8_howManyUp 29 = .ok (.goto (-25), 3) := by decide +kernel
theorem dX8_howManyUp_32 : decode cX8_howManyUp 32 = .ok (.iload_n 1, 1) := by decide +kernel
theorem dX8_howManyUp_33 : decode cX8_howManyUp 33 = .ok (.ireturn, 1) := by decide +kernel
theorem dX8_put_0 : decode cX8_put 0 = .ok (.aload_n 0, 1) := by decide +kernel
theorem dX8_put_1 : decode cX8_put 1 = .ok (.getfield 9, 3) := by decide +kernel
theorem dX8_put_4 : decode cX8_put 4 = .ok (.iload_n 1, 1) := by decide +kernel
theorem dX8_put_5 : decode cX8_put 5 = .ok (.iload_n 2, 1) := by decide +kernel
theorem dX8_put_6 : decode cX8_put 6 = .ok (.iastore, 1) := by decide +kernel
theorem dX8_put_7 : decode cX8_put 7 = .ok (.aload_n 0, 1) := by decide +kernel
theorem dX8_put_8 : decode cX8_put 8 = .ok (.getfield 15, 3) := by decide +kernel
theorem dX8_put_11 : decode cX8_put 11 = .ok (.iload_n 1, 1) := by decide +kernel
theorem dX8_put_12 : decode cX8_put 12 = .ok (.iload_n 3, 1) := by decide +kernel
theorem dX8_put_13 : decode cX8_put 13 = .ok (.iastore, 1) := by decide +kernel
theorem dX8_put_14 : decode cX8_put 14 = .ok (.aload_n 0, 1) := by decide +kernel
theorem dX8_put_15 : decode cX8_put 15 = .ok (.iload_n 1, 1) := by decide +kernel
theorem dX8_put_16 : decode cX8_put 16 = .ok (.iconst 1, 1) := by decide +kernel
theorem dX8_put_17 : decode cX8_put 17 = .ok (.invokevirtual 57, 3) := by decide +kernel
theorem dX8_put_20 : decode cX8_put 20 = .ok (.return_, 1) := by decide +kernel
theorem dX8_take_0 : decode cX8_take 0 = .ok (.aload_n 0, 1) := by decide +kernel
theorem dX8_take_1 : decode cX8_take 1 = .ok (.iload_n 1, 1) := by decide +kernel
theorem dX8_take_2 : decode cX8_take 2 = .ok (.iconst (-1), 1) := by decide +kernel
theorem dX8_take_3 : decode cX8_take 3 = .ok (.invokevirtual 57, 3) := by decide +kernel
theorem dX8_take_6 : decode cX8_take 6 = .ok (.aload_n 0, 1) := by decide +kernel
theorem dX8_take_7 : decode cX8_take 7 = .ok (.getfield 9, 3) := by decide +kernel
theorem dX8_take_10 : decode cX8_take 10 = .ok (.iload_n 1, 1) := by decide +kernel
theorem dX8_take_11 : decode cX8_take 11 = .ok (.iconst (-1), 1) := by decide +kernel
theorem dX8_take_12 : decode cX8_take 12 = .ok (.iastore, 1) := by decide +kernel
theorem dX8_take_13 : decode cX8_take 13 = .ok (.aload_n 0, 1) := by decide +kernel
theorem dX8_take_14 : decode cX8_take 14 = .ok (.getfield 15, 3) := by decide +kernel
theorem dX8_take_17 : decode cX8_take 17 = .ok (.iload_n 1, 1) := by decide +kernel
theorem dX8_take_18 : decode cX8_take 18 = .ok (.iconst (-1), 1) := by decide +kernel
theorem dX8_take_19 : decode cX8_take 19 = .ok (.iastore, 1) := by decide +kernel
theorem dX8_take_20 : decode cX8_take 20 = .ok (.return_, 1) := by decide +kernel
theorem dX8_swapDegrees_0 : decode cX8_swapDegrees 0 = .ok (.aload_n 0, 1) := by decide +kernel
theorem dX8_swapDegrees_1 : decode cX8_swapDegrees 1 = .ok (.getfield 9, 3) := by decide +kernel
theorem dX8_swapDegrees_4 : decode cX8_swapDegrees 4 = .ok (.iload_n 1, 1) := by decide +kernel
theorem dX8_swapDegrees_5 : decode cX8_swapDegrees 5 = .ok (.iaload, 1) := by decide +kernel
theorem dX8_swapDegrees_6 : decode cX8_swapDegrees 6 = .ok (.istore_n 3, 1) := by decide +kernel
theorem dX8_swapDegrees_7 : decode cX8_swapDegrees 7 = .ok (.aload_n 0, 1) := by decide +kernel
theorem dX8_swapDegrees_8 : decode cX8_swapDegrees 8 = .ok (.getfield 15, 3) := by decide +kernel
theorem dX8_swapDegrees_11 : decode cX8_swapDegrees 11 = .ok (.iload_n 1, 1) := by decide +kernel
theorem dX8_swapDegrees_12 : decode cX8_swapDegrees 12 = .ok (.iaload, 1) := by decide +kernel
theorem dX8_swapDegrees_13 : decode cX8_swapDegrees 13 = .ok (.istore 4, 2) := by decide +kernel
theorem dX8_swapDegrees_15 : decode cX8_swapDegrees 15 = .ok (.aload_n 0, 1) := by decide +kernel
theorem dX8_swapDegrees_16 : decode cX8_swapDegrees 16 = .ok (.getfield 9, 3) := by decide +kernel
theorem dX8_swapDegrees_19 : decode cX8_swapDegrees 19 = .ok (.iload_n 2, 1) := by decide +kernel
theorem dX8_swapDegrees_20 : decode cX8_swapDegrees 20 = .ok (.iaload, 1) := by decide +kernel
theorem dX8_swapDegrees_21 : decode cX8_swapDegrees 21 = .ok (.istore 5, 2) := by decide +kernel
theorem dX8_swapDegrees_23 : decode cX8_swapDegrees 23 = .ok (.aload_n 0, 1) := by decide +kernel
theorem dX8_swapDegrees_24 : decode cX8_swapDegrees 24 = .ok (.getfield 15, 3) := by decide +kernel
theorem dX8_swapDegrees_27 : decode cX8_swapDegrees 27 = .ok (.iload_n 2, 1) := by decide +kernel
theorem dX8_swapDegrees_28 : decode cX8_swapDegrees 28 = .ok (.iaload, 1) := by decide +kernel
theorem dX8_swapDegrees_29 : decode cX8_swapDegrees 29 = .ok (.istore 6, 2) := by decide +kernel
theorem dX8_swapDegrees_31 : decode cX8_swapDegrees 31 = .ok (.aload_n 0, 1) := by decide +kernel
theorem dX8_swapDegrees_32 : decode cX8_swapDegrees 32 = .ok (.iload_n 1, 1) := by decide +kernel
theorem dX8_swapDegrees_33 : decode cX8_swapDegrees 33 = .ok (.invokevirtual 61, 3) := by decide +kernel
theorem dX8_swapDegrees_36 : decode cX8_swapDegrees 36 = .ok (.aload_n 0, 1) := by decide +kernel
theorem dX8_swapDegrees_37 : decode cX8_swapDegrees 37 = .ok (.iload_n 2, 1) := by decide +kernel
theorem dX8_swapDegrees_38 : decode cX8_swapDegrees 38 = .ok (.invokevirtual 61, 3) := by decide +kernel
theorem dX8_swapDegrees_41 : decode cX8_swapDegrees 41 = .ok (.aload_n 0, 1) := by decide +kernel
theorem dX8_swapDegrees_42 : decode cX8_swapDegrees 42 = .ok (.iload_n 1, 1) := by decide +kernel
theorem dX8_swapDegrees_43 : decode cX8_swapDegrees 43 = .ok (.iload 5, 2) := by decide +kernel
theorem dX8_swapDegrees_45 : decode cX8_swapDegrees 45 = .ok (.iload 4, 2) := by decide +kernel
theorem dX8_swapDegrees_47 : decode cX8_swapDegrees 47 = .ok (.invokevirtual 65, 3) := by decide +kernel
theorem dX8_swapDegrees_50 : decode cX8_swapDegrees 50 = .ok (.aload_n 0, 1) := by decide +kernel
theorem dX8_swapDegrees_51 : decode cX8_swapDegrees 51 = .ok (.iload_n 2, 1) := by decide +kernel
theorem dX8_swapDegrees_52 : decode cX8_swapDegrees 52 = .ok (.iload_n 3, 1) := by decide +kernel
theorem dX8_swapDegrees_53 : decode cX8_swapDegrees 53 = .ok (.iload 6, 2) := by decide +kernel
theorem dX8_swapDegrees_55 : decode cX8_swapDegrees 55 = .ok (.invokevirtual 65, 3) := by decide +kernel
theorem dX8_swapDegrees_58 : decode cX8_swapDegrees 58 = .ok (.return_, 1) := by decide +kernel
theorem dX8_meetAll_0 : decode cX8_meetAll 0 = .ok (.iconst 0, 1) := by decide +kernel
theorem dX8_meetAll_1 : decode cX8_meetAll 1 = .ok (.istore_n 3, 1) := by decide +kernel
theorem dX8_meetAll_2 : decode cX8_meetAll 2 = .ok (.iload_n 3, 1) := by decide +kernel
theorem dX8_meetAll_3 : decode cX8_meetAll 3 = .ok (.aload_n 0, 1) := by decide +kernel
theorem dX8_meetAll_4 : decode cX8_meetAll 4 = .ok (.getfield 30, 3) := by decide +kernel
theorem dX8_meetAll_7 : decode cX8_meetAll 7 = .ok (.getfield 50, 3) := by decide +kernel
theorem dX8_meetAll_10 : decode cX8_meetAll 10 = .ok (.if_icmp .ge 131, 3) := by decide +kernel
theorem dX8_meetAll_13 : decode cX8_meetAll 13 = .ok (.iload_n 3, 1) := by decide +kernel
theorem dX8_meetAll_14 : decode cX8_meetAll 14 = .ok (.iload_n 1, 1) := by decide +kernel
theorem dX8_meetAll_15 : decode cX8_meetAll 15 = .ok (.if_icmp .eq 120, 3) := by decide +kernel
theorem dX8_meetAll_18 : decode cX8_meetAll 18 = .ok (.aload_n 0, 1) := by decide +kernel
theorem dX8_meetAll_19 : decode cX8_meetAll 19 = .ok (.iload_n 1, 1) := by decide +kernel
theorem dX8_meetAll_20 : decode cX8_meetAll 20 = .ok (.iload_n 3, 1) := by decide +kernel
theorem dX8_meetAll_21 : decode cX8_meetAll 21 = .ok (.invokevirtual 69, 3) := by decide +kernel
theorem dX8_meetAll_24 : decode cX8_meetAll 24 = .ok (.ifCond .ne 6, 3) := by decide +kernel
theorem dX8_meetAll_27 : decode cX8_meetAll 27 = .ok (.goto 108, 3) := by decide +kernel
theorem dX8_meetAll_30 : decode cX8_meetAll 30 = .ok (.aload_n 0, 1) := by decide +kernel
theorem dX8_meetAll_31 : decode cX8_meetAll 31 = .ok (.getfield 9, 3) := by decide +kernel
theorem dX8_meetAll_34 : decode cX8_meetAll 34 = .ok (.iload_n 1, 1) := by decide +kernel
theorem dX8_meetAll_35 : decode cX8_meetAll 35 = .ok (.iaload, 1) := by decide +kernel
theorem dX8_meetAll_36 : decode cX8_meetAll 36 = .ok (.aload_n 0, 1) := by decide +kernel
theorem dX8_meetAll_37 : decode cX8_meetAll 37 = .ok (.getfield 9, 3) := by decide +kernel
theorem dX8_meetAll_40 : decode cX8_meetAll 40 = .ok (.iload_n 3, 1) := by decide +kernel
theorem dX8_meetAll_41 : decode cX8_meetAll 41 = .ok (.iaload, 1) := by decide +kernel
theorem dX8_meetAll_42 : decode cX8_meetAll 42 = .ok (.invokestatic 73, 3) := by decide +kernel
theorem dX8_meetAll_45 : decode cX8_meetAll 45 = .ok (.istore 4, 2) := by decide +kernel
theorem dX8_meetAll_47 : decode cX8_meetAll 47 = .ok (.aload_n 0, 1) := by decide +kernel
theorem dX8_meetAll_48 : decode cX8_meetAll 48 = .ok (.getfield 24, 3) := by decide +kernel
theorem dX8_meetAll_51 : decode cX8_meetAll 51 = .ok (.iload_n 3, 1) := by decide +kernel
theorem dX8_meetAll_52 : decode cX8_meetAll 52 = .ok (.dup2, 1) := by decide +kernel
theorem dX8_meetAll_53 : decode cX8_meetAll 53 = .ok (.iaload, 1) := by decide +kernel
theorem dX8_meetAll_54 : decode cX8_meetAll 54 = .ok (.iload_n 2, 1) := by decide +kernel
theorem dX8_meetAll_55 : decode cX8_meetAll 55 = .ok (.aload_n 0, 1) := by decide +kernel
theorem dX8_meetAll_56 : decode cX8_meetAll 56 = .ok (.getfield 18, 3) := by decide +kernel
theorem dX8_meetAll_59 : decode cX8_meetAll 59 = .ok (.iload_n 1, 1) := by decide +kernel
theorem dX8_meetAll_60 : decode cX8_meetAll 60 = .ok (.iaload, 1) := by decide +kernel
theorem dX8_meetAll_61 : decode cX8_meetAll 61 = .ok (.aload_n 0, 1) := by decide +kernel
theorem dX8_meetAll_62 : decode cX8_meetAll 62 = .ok (.getfield 21, 3) := by decide +kernel
theorem dX8_meetAll_65 : decode cX8_meetAll 65 = .ok (.iload_n 1, 1) := by decide +kernel
theorem dX8_meetAll_66 : decode cX8_meetAll 66 = .ok (.iaload, 1) := by decide +kernel
theorem dX8_meetAll_67 : decode cX8_meetAll 67 = .ok (.iload 4, 2) := by decide +kernel
theorem dX8_meetAll_69 : decode cX8_meetAll 69 = .ok (.invokestatic 76, 3) := by decide +kernel
theorem dX8_meetAll_72 : decode cX8_meetAll 72 = .ok (.imul, 1) := by decide +kernel
theorem dX8_meetAll_73 : decode cX8_meetAll 73 = .ok (.iadd, 1) := by decide +kernel
theorem dX8_meetAll_74 : decode cX8_meetAll 74 = .ok (.iastore, 1) := by decide +kernel
theorem dX8_meetAll_75 : decode cX8_meetAll 75 = .ok (.aload_n 0, 1) := by decide +kernel
theorem dX8_meetAll_76 : decode cX8_meetAll 76 = .ok (.getfield 24, 3) := by decide +kernel
theorem dX8_meetAll_79 : decode cX8_meetAll 79 = .ok (.iload_n 1, 1) := by decide +kernel
theorem dX8_meetAll_80 : decode cX8_meetAll 80 = .ok (.dup2, 1) := by decide +kernel
theorem dX8_meetAll_81 : decode cX8_meetAll 81 = .ok (.iaload, 1) := by decide +kernel
theorem dX8_meetAll_82 : decode cX8_meetAll 82 = .ok (.iload_n 2, 1) := by decide +kernel
theorem dX8_meetAll_83 : decode cX8_meetAll 83 = .ok (.aload_n 0, 1) := by decide +kernel
theorem dX8_meetAll_84 : decode cX8_meetAll 84 = .ok (.getfield 18, 3) := by decide +kernel
theorem dX8_meetAll_87 : decode cX8_meetAll 87 = .ok (.iload_n 3, 1) := by decide +kernel
theorem dX8_meetAll_88 : decode cX8_meetAll 88 = .ok (.iaload, 1) := by decide +kernel
theorem dX8_meetAll_89 : decode cX8_meetAll 89 = .ok (.aload_n 0, 1) := by decide +kernel
theorem dX8_meetAll_90 : decode cX8_meetAll 90 = .ok (.getfield 21, 3) := by decide +kernel
theorem dX8_meetAll_93 : decode cX8_meetAll 93 = .ok (.iload_n 3, 1) := by decide +kernel
theorem dX8_meetAll_94 : decode cX8_meetAll 94 = .ok (.iaload, 1) := by decide +kernel
theorem dX8_meetAll_95 : decode cX8_meetAll 95 = .ok (.iload 4, 2) := by decide +kernel
theorem dX8_meetAll_97 : decode cX8_meetAll 97 = .ok (.invokestatic 76, 3) := by decide +kernel
theorem dX8_meetAll_100 : decode cX8_meetAll 100 = .ok (.imul, 1) := by decide +kernel
theorem dX8_meetAll_101 : decode cX8_meetAll 101 = .ok (.iadd, 1) := by decide +kernel
theorem dX8_meetAll_102 : decode cX8_meetAll 102 = .ok (.iastore, 1) := by decide +kernel
theorem dX8_meetAll_103 : decode cX8_meetAll 103 = .ok (.iload 4, 2) := by decide +kernel
theorem dX8_meetAll_105 : decode cX8_meetAll 105 = .ok (.aload_n 0, 1) := by decide +kernel
theorem dX8_meetAll_106 : decode cX8_meetAll 106 = .ok (.getfield 30, 3) := by decide +kernel
theorem dX8_meetAll_109 : decode cX8_meetAll 109 = .ok (.getfield 80, 3) := by decide +kernel
theorem dX8_meetAll_112 : decode cX8_meetAll 112 = .ok (.if_icmp .ge 23, 3) := by decide +kernel
theorem dX8_meetAll_115 : decode cX8_meetAll 115 = .ok (.aload_n 0, 1) := by decide +kernel
theorem dX8_meetAll_116 : decode cX8_meetAll 116 = .ok (.getfield 27, 3) := by decide +kernel
theorem dX8_meetAll_119 : decode cX8_meetAll 119 = .ok (.iload_n 3, 1) := by decide +kernel
theorem dX8_meetAll_120 : decode cX8_meetAll 120 = .ok (.dup2, 1) := by decide +kernel
theorem dX8_meetAll_121 : decode cX8_meetAll 121 = .ok (.iaload, 1) := by decide +kernel
theorem dX8_meetAll_122 : decode cX8_meetAll 122 = .ok (.iload_n 2, 1) := by decide +kernel
theorem dX8_meetAll_123 : decode cX8_meetAll 123 = .ok (.iadd, 1) := by decide +kernel
theorem dX8_meetAll_124 : decode cX8_meetAll 124 = .ok (.iastore, 1) := by decide +kernel
theorem dX8_meetAll_125 : decode cX8_meetAll 125 = .ok (.aload_n 0, 1) := by decide +kernel
theorem dX8_meetAll_126 : decode cX8_meetAll 126 = .ok (.getfield 27, 3) := by decide +kernel
theorem dX8_meetAll_129 : decode cX8_meetAll 129 = .ok (.iload_n 1, 1) := by decide +kernel
theorem dX8_meetAll_130 : decode cX8_meetAll 130 = .ok (.dup2, 1) := by decide +kernel
theorem dX8_meetAll_131 : decode cX8_meetAll 131 = .ok (.iaload, 1) := by decide +kernel
theorem dX8_meetAll_132 : decode cX8_meetAll 132 = .ok (.iload_n 2, 1) := by decide +kernel
theorem dX8_meetAll_133 : decode cX8_meetAll 133 = .ok (.iadd, 1) := by decide +kernel
theorem dX8_meetAll_134 : decode cX8_meetAll 134 = .ok (.iastore, 1) := by decide +kernel
theorem dX8_meetAll_135 : decode cX8_meetAll 135 = .ok (.iinc 3 1, 3) := by decide +kernel
theorem dX8_meetAll_138 : decode cX8_meetAll 138 = .ok (.goto (-136), 3) := by decide +kernel
theorem dX8_meetAll_141 : decode cX8_meetAll 141 = .ok (.return_, 1) := by decide +kernel
theorem dX8_touching_0 : decode cX8_touching 0 = .ok (.aload_n 0, 1) := by decide +kernel
theorem dX8_touching_1 : decode cX8_touching 1 = .ok (.getfield 9, 3) := by decide +kernel
theorem dX8_touching_4 : decode cX8_touching 4 = .ok (.iload_n 1, 1) := by decide +kernel
theorem dX8_touching_5 : decode cX8_touching 5 = .ok (.iaload, 1) := by decide +kernel
theorem dX8_touching_6 : decode cX8_touching 6 = .ok (.iconst (-1), 1) := by decide +kernel
theorem dX8_touching_7 : decode cX8_touching 7 = .ok (.if_icmp .eq 56, 3) := by decide +kernel
theorem dX8_touching_10 : decode cX8_touching 10 = .ok (.aload_n 0, 1) := by decide +kernel
theorem dX8_touching_11 : decode cX8_touching 11 = .ok (.getfield 9, 3) := by decide +kernel
theorem dX8_touching_14 : decode cX8_touching 14 = .ok (.iload_n 2, 1) := by decide +kernel
theorem dX8_touching_15 : decode cX8_touching 15 = .ok (.iaload, 1) := by decide +kernel
theorem dX8_touching_16 : decode cX8_touching 16 = .ok (.iconst (-1), 1) := by decide +kernel
theorem dX8_touching_17 : decode cX8_touching 17 = .ok (.if_icmp .eq 46, 3) := by decide +kernel
theorem dX8_touching_20 : decode cX8_touching 20 = .ok (.aload_n 0, 1) := by decide +kernel
theorem dX8_touching_21 : decode cX8_touching 21 = .ok (.getfield 15, 3) := by decide +kernel
theorem dX8_touching_24 : decode cX8_touching 24 = .ok (.iload_n 1, 1) := by decide +kernel
theorem dX8_touching_25 : decode cX8_touching 25 = .ok (.iaload, 1) := by decide +kernel
theorem dX8_touching_26 : decode cX8_touching 26 = .ok (.aload_n 0, 1) := by decide +kernel
theorem dX8_touching_27 : decode cX8_touching 27 = .ok (.getfield 15, 3) := by decide +kernel
theorem dX8_touching_30 : decode cX8_touching 30 = .ok (.iload_n 2, 1) := by decide +kernel
theorem dX8_touching_31 : decode cX8_touching 31 = .ok (.iaload, 1) := by decide +kernel
theorem dX8_touching_32 : decode cX8_touching 32 = .ok (.if_icmp .ne 31, 3) := by decide +kernel
theorem dX8_touching_35 : decode cX8_touching 35 = .ok (.aload_n 0, 1) := by decide +kernel
theorem dX8_touching_36 : decode cX8_touching 36 = .ok (.getfield 30, 3) := by decide +kernel
theorem dX8_touching_39 : decode cX8_touching 39 = .ok (.getfield 83, 3) := by decide +kernel
theorem dX8_touching_42 : decode cX8_touching 42 = .ok (.iload_n 1, 1) := by decide +kernel
theorem dX8_touching_43 : decode cX8_touching 43 = .ok (.laload, 1) := by decide +kernel
theorem dX8_touching_44 : decode cX8_touching 44 = .ok (.aload_n 0, 1) := by decide +kernel
theorem dX8_touching_45 : decode cX8_touching 45 = .ok (.getfield 30, 3) := by decide +kernel
theorem dX8_touching_48 : decode cX8_touching 48 = .ok (.getfield 83, 3) := by decide +kernel
theorem dX8_touching_51 : decode cX8_touching 51 = .ok (.iload_n 2, 1) := by decide +kernel
theorem dX8_touching_52 : decode cX8_touching 52 = .ok (.laload, 1) := by decide +kernel
theorem dX8_touching_53 : decode cX8_touching 53 = .ok (.land, 1) := by decide +kernel
theorem dX8_touching_54 : decode cX8_touching 54 = .ok (.lconst 0, 1) := by decide +kernel
theorem dX8_touching_55 : decode cX8_touching 55 = .ok (.lcmp, 1) := by decide +kernel
theorem dX8_touching_56 : decode cX8_touching 56 = .ok (.ifCond .eq 7, 3) := by decide +kernel
theorem dX8_touching_59 : decode cX8_touching 59 = .ok (.iconst 1, 1) := by decide +kernel
theorem dX8_touching_60 : decode cX8_touching 60 = .ok (.goto 4, 3) := by decide +kernel
theorem dX8_touching_63 : decode cX8_touching 63 = .ok (.iconst 0, 1) := by decide +kernel
theorem dX8_touching_64 : decode cX8_touching 64 = .ok (.ireturn, 1) := by decide +kernel
theorem dX8_reachOn_0 : decode cX8_reachOn 0 = .ok (.aload_n 0, 1) := by decide +kernel
theorem dX8_reachOn_1 : decode cX8_reachOn 1 = .ok (.getfield 18, 3) := by decide +kernel
theorem dX8_reachOn_4 : decode cX8_reachOn 4 = .ok (.iload_n 1, 1) := by decide +kernel
theorem dX8_reachOn_5 : decode cX8_reachOn 5 = .ok (.iaload, 1) := by decide +kernel
theorem dX8_reachOn_6 : decode cX8_reachOn 6 = .ok (.aload_n 0, 1) := by decide +kernel
theorem dX8_reachOn_7 : decode cX8_reachOn 7 = .ok (.getfield 21, 3) := by decide +kernel
theorem dX8_reachOn_10 : decode cX8_reachOn 10 = .ok (.iload_n 1, 1) := by decide +kernel
theorem dX8_reachOn_11 : decode cX8_reachOn 11 = .ok (.iaload, 1) := by decide +kernel
theorem dX8_reachOn_12 : decode cX8_reachOn 12 = .ok (.aload_n 0, 1) := by decide +kernel
theorem dX8_reachOn_13 : decode cX8_reachOn 13 = .ok (.getfield 9, 3) := by decide +kernel
theorem dX8_reachOn_16 : decode cX8_reachOn 16 = .ok (.iload_n 1, 1) := by decide +kernel
theorem dX8_reachOn_17 : decode cX8_reachOn 17 = .ok (.iaload, 1) := by decide +kernel
theorem dX8_reachOn_18 : decode cX8_reachOn 18 = .ok (.aload_n 0, 1) := by decide +kernel
theorem dX8_reachOn_19 : decode cX8_reachOn 19 = .ok (.getfield 9, 3) := by decide +kernel
theorem dX8_reachOn_22 : decode cX8_reachOn 22 = .ok (.iload_n 2, 1) := by decide +kernel
theorem dX8_reachOn_23 : decode cX8_reachOn 23 = .ok (.iaload, 1) := by decide +kernel
theorem dX8_reachOn_24 : decode cX8_reachOn 24 = .ok (.invokestatic 73, 3) := by decide +kernel
theorem dX8_reachOn_27 : decode cX8_reachOn 27 = .ok (.invokestatic 76, 3) := by decide +kernel
theorem dX8_reachOn_30 : decode cX8_reachOn 30 = .ok (.ireturn, 1) := by decide +kernel
theorem dX8_wrongOf_0 : decode cX8_wrongOf 0 = .ok (.aload_n 0, 1) := by decide +kernel
theorem dX8_wrongOf_1 : decode cX8_wrongOf 1 = .ok (.getfield 30, 3) := by decide +kernel
theorem dX8_wrongOf_4 : decode cX8_wrongOf 4 = .ok (.iload_n 1, 1) := by decide +kernel
theorem dX8_wrongOf_5 : decode cX8_wrongOf 5 = .ok (.aload_n 0, 1) := by decide +kernel
theorem dX8_wrongOf_6 : decode cX8_wrongOf 6 = .ok (.getfield 9, 3) := by decide +kernel
theorem dX8_wrongOf_9 : decode cX8_wrongOf 9 = .ok (.iload_n 1, 1) := by decide +kernel
theorem dX8_wrongOf_10 : decode cX8_wrongOf 10 = .ok (.iaload, 1) := by decide +kernel
theorem dX8_wrongOf_11 : decode cX8_wrongOf 11 = .ok (.invokevirtual 87, 3) := by decide +kernel
theorem dX8_wrongOf_14 : decode cX8_wrongOf 14 = .ok (.ifCond .ne 5, 3) := by decide +kernel
theorem dX8_wrongOf_17 : decode cX8_wrongOf 17 = .ok (.iconst 1, 1) := by decide +kernel
theorem dX8_wrongOf_18 : decode cX8_wrongOf 18 = .ok (.ireturn, 1) := by decide +kernel
theorem dX8_wrongOf_19 : decode cX8_wrongOf 19 = .ok (.aload_n 0, 1) := by decide +kernel
theorem dX8_wrongOf_20 : decode cX8_wrongOf 20 = .ok (.getfield 30, 3) := by decide +kernel
theorem dX8_wrongOf_23 : decode cX8_wrongOf 23 = .ok (.iload_n 1, 1) := by decide +kernel
theorem dX8_wrongOf_24 : decode cX8_wrongOf 24 = .ok (.aload_n 0, 1) := by decide +kernel
theorem dX8_wrongOf_25 : decode cX8_wrongOf 25 = .ok (.getfield 15, 3) := by decide +kernel
theorem dX8_wrongOf_28 : decode cX8_wrongOf 28 = .ok (.iload_n 1, 1) := by decide +kernel
theorem dX8_wrongOf_29 : decode cX8_wrongOf 29 = .ok (.iaload, 1) := by decide +kernel
theorem dX8_wrongOf_30 : decode cX8_wrongOf 30 = .ok (.invokevirtual 90, 3) := by decide +kernel
theorem dX8_wrongOf_33 : decode cX8_wrongOf 33 = .ok (.ifCond .ne 5, 3) := by decide +kernel
theorem dX8_wrongOf_36 : decode cX8_wrongOf 36 = .ok (.iconst 2, 1) := by decide +kernel
theorem dX8_wrongOf_37 : decode cX8_wrongOf 37 = .ok (.ireturn, 1) := by decide +kernel
theorem dX8_wrongOf_38 : decode cX8_wrongOf 38 = .ok (.aload_n 0, 1) := by decide +kernel
theorem dX8_wrongOf_39 : decode cX8_wrongOf 39 = .ok (.getfield 27, 3) := by decide +kernel
theorem dX8_wrongOf_42 : decode cX8_wrongOf 42 = .ok (.iload_n 1, 1) := by decide +kernel
theorem dX8_wrongOf_43 : decode cX8_wrongOf 43 = .ok (.iaload, 1) := by decide +kernel
theorem dX8_wrongOf_44 : decode cX8_wrongOf 44 = .ok (.ifCond .le 5, 3) := by decide +kernel
theorem dX8_wrongOf_47 : decode cX8_wrongOf 47 = .ok (.iconst 3, 1) := by decide +kernel
theorem dX8_wrongOf_48 : decode cX8_wrongOf 48 = .ok (.ireturn, 1) := by decide +kernel
theorem dX8_wrongOf_49 : decode cX8_wrongOf 49 = .ok (.aload_n 0, 1) := by decide +kernel
theorem dX8_wrongOf_50 : decode cX8_wrongOf 50 = .ok (.getfield 24, 3) := by decide +kernel
theorem dX8_wrongOf_53 : decode cX8_wrongOf 53 = .ok (.iload_n 1, 1) := by decide +kernel
theorem dX8_wrongOf_54 : decode cX8_wrongOf 54 = .ok (.iaload, 1) := by decide +kernel
theorem dX8_wrongOf_55 : decode cX8_wrongOf 55 = .ok (.aload_n 0, 1) := by decide +kernel
theorem dX8_wrongOf_56 : decode cX8_wrongOf 56 = .ok (.getfield 30, 3) := by decide +kernel
theorem dX8_wrongOf_59 : decode cX8_wrongOf 59 = .ok (.iload_n 1, 1) := by decide +kernel
theorem dX8_wrongOf_60 : decode cX8_wrongOf 60 = .ok (.bipush 6, 2) := by decide +kernel
theorem dX8_wrongOf_62 : decode cX8_wrongOf 62 = .ok (.invokevirtual 34, 3) := by decide +kernel
theorem dX8_wrongOf_65 : decode cX8_wrongOf 65 = .ok (.if_icmp .le 7, 3) := by decide +kernel
theorem dX8_wrongOf_68 : decode cX8_wrongOf 68 = .ok (.iconst 4, 1) := by decide +kernel
theorem dX8_wrongOf_69 : decode cX8_wrongOf 69 = .ok (.goto 4, 3) := by decide +kernel
theorem dX8_wrongOf_72 : decode cX8_wrongOf 72 = .ok (.iconst 0, 1) := by decide +kernel
theorem dX8_wrongOf_73 : decode cX8_wrongOf 73 = .ok (.ireturn, 1) := by decide +kernel
theorem dX8_firstWrong_0 : decode cX8_firstWrong 0 = .ok (.iconst 0, 1) := by decide +kernel
theorem dX8_firstWrong_1 : decode cX8_firstWrong 1 = .ok (.istore_n 1, 1) := by decide +kernel
theorem dX8_firstWrong_2 : decode cX8_firstWrong 2 = .ok (.iload_n 1, 1) := by decide +kernel
theorem dX8_firstWrong_3 : decode cX8_firstWrong 3 = .ok (.aload_n 0, 1) := by decide +kernel
theorem dX8_firstWrong_4 : decode cX8_firstWrong 4 = .ok (.getfield 30, 3) := by decide +kernel
theorem dX8_firstWrong_7 : decode cX8_firstWrong 7 = .ok (.getfield 50, 3) := by decide +kernel
theorem dX8_firstWrong_10 : decode cX8_firstWrong 10 = .ok (.if_icmp .ge 27, 3) := by decide +kernel
theorem dX8_firstWrong_13 : decode cX8_firstWrong 13 = .ok (.aload_n 0, 1) := by decide +kernel
theorem dX8_firstWrong_14 : decode cX8_firstWrong 14 = .ok (.iload_n 1, 1) := by decide +kernel
theorem dX8_firstWrong_15 : decode cX8_firstWrong 15 = .ok (.invokevirtual 93, 3) := by decide +kernel
theorem dX8_firstWrong_18 : decode cX8_firstWrong 18 = .ok (.ifCond .eq 13, 3) := by decide +kernel
theorem dX8_firstWrong_21 : decode cX8_firstWrong 21 = .ok (.aload_n 0, 1) := by decide +kernel
theorem dX8_firstWrong_22 : decode cX8_firstWrong 22 = .ok (.iload_n 1, 1) := by decide +kernel
theorem dX8_firstWrong_23 : decode cX8_firstWrong 23 = .ok (.invokevirtual 96, 3) := by decide +kernel
theorem dX8_firstWrong_26 : decode cX8_firstWrong 26 = .ok (.ifCond .eq 5, 3) := by decide +kernel
theorem dX8_firstWrong_29 : decode cX8_firstWrong 29 = .ok (.iload_n 1, 1) := by decide +kernel
theorem dX8_firstWrong_30 : decode cX8_firstWrong 30 = .ok (.ireturn, 1) := by decide +kernel
theorem dX8_firstWrong_31 : decode cX8_firstWrong 31 = .ok (.iinc 1 1, 3) := by decide +kernel
theorem dX8_firstWrong_34 : decode cX8_firstWrong 34 = .ok (.goto (-32), 3) := by decide +kernel
theorem dX8_firstWrong_37 : decode cX8_firstWrong 37 = .ok (.iconst (-1), 1) := by decide +kernel
theorem dX8_firstWrong_38 : decode cX8_firstWrong 38 = .ok (.ireturn, 1) := by decide +kernel
theorem dX8_isMetAt_0 : decode cX8_isMetAt 0 = .ok (.iconst 0, 1) := by decide +kernel
theorem dX8_isMetAt_1 : decode cX8_isMetAt 1 = .ok (.istore 4, 2) := by decide +kernel
theorem dX8_isMetAt_3 : decode cX8_isMetAt 3 = .ok (.iload 4, 2) := by decide +kernel
theorem dX8_isMetAt_5 : decode cX8_isMetAt 5 = .ok (.aload_n 0, 1) := by decide +kernel
theorem dX8_isMetAt_6 : decode cX8_isMetAt 6 = .ok (.getfield 30, 3) := by decide +kernel
theorem dX8_isMetAt_9 : decode cX8_isMetAt 9 = .ok (.getfield 50, 3) := by decide +kernel
theorem dX8_isMetAt_12 : decode cX8_isMetAt 12 = .ok (.if_icmp .ge 65, 3) := by decide +kernel
theorem dX8_isMetAt_15 : decode cX8_isMetAt 15 = .ok (.aload_n 0, 1) := by decide +kernel
theorem dX8_isMetAt_16 : decode cX8_isMetAt 16 = .ok (.iload 4, 2) := by decide +kernel
theorem dX8_isMetAt_18 : decode cX8_isMetAt 18 = .ok (.invokevirtual 93, 3) := by decide +kernel
theorem dX8_isMetAt_21 : decode cX8_isMetAt 21 = .ok (.ifCond .eq 50, 3) := by decide +kernel
theorem dX8_isMetAt_24 : decode cX8_isMetAt 24 = .ok (.aload_n 0, 1) := by decide +kernel
theorem dX8_isMetAt_25 : decode cX8_isMetAt 25 = .ok (.getfield 15, 3) := by decide +kernel
theorem dX8_isMetAt_28 : decode cX8_isMetAt 28 = .ok (.iload 4, 2) := by decide +kernel
theorem dX8_isMetAt_30 : decode cX8_isMetAt 30 = .ok (.iaload, 1) := by decide +kernel
theorem dX8_isMetAt_31 : decode cX8_isMetAt 31 = .ok (.iload_n 3, 1) := by decide +kernel
theorem dX8_isMetAt_32 : decode cX8_isMetAt 32 = .ok (.if_icmp .ne 39, 3) := by decide +kernel
theorem dX8_isMetAt_35 : decode cX8_isMetAt 35 = .ok (.aload_n 0, 1) := by decide +kernel
theorem dX8_isMetAt_36 : decode cX8_isMetAt 36 = .ok (.getfield 30, 3) := by decide +kernel
theorem dX8_isMetAt_39 : decode cX8_isMetAt 39 = .ok (.iload_n 1, 1) := by decide +kernel
theorem dX8_isMetAt_40 : decode cX8_isMetAt 40 = .ok (.iload 4, 2) := by decide +kernel
theorem dX8_isMetAt_42 : decode cX8_isMetAt 42 = .ok (.invokevirtual 100, 3) := by decide +kernel
theorem dX8_isMetAt_45 : decode cX8_isMetAt 45 = .ok (.ifCond .eq 26, 3) := by decide +kernel
theorem dX8_isMetAt_48 : decode cX8_isMetAt 48 = .ok (.iload_n 2, 1) := by decide +kernel
theorem dX8_isMetAt_49 : decode cX8_isMetAt 49 = .ok (.aload_n 0, 1) := by decide +kernel
theorem dX8_isMetAt_50 : decode cX8_isMetAt 50 = .ok (.getfield 9, 3) := by decide +kernel
theorem dX8_isMetAt_53 : decode cX8_isMetAt 53 = .ok (.iload 4, 2) := by decide +kernel
theorem dX8_isMetAt_55 : decode cX8_isMetAt 55 = .ok (.iaload, 1) := by decide +kernel
theorem dX8_isMetAt_56 : decode cX8_isMetAt 56 = .ok (.invokestatic 73, 3) := by decide +kernel
theorem dX8_isMetAt_59 : decode cX8_isMetAt 59 = .ok (.aload_n 0, 1) := by decide +kernel
theorem dX8_isMetAt_60 : decode cX8_isMetAt 60 = .ok (.getfield 30, 3) := by decide +kernel
theorem dX8_isMetAt_63 : decode cX8_isMetAt 63 = .ok (.getfield 80, 3) := by decide +kernel
theorem dX8_isMetAt_66 : decode cX8_isMetAt 66 = .ok (.if_icmp .ge 5, 3) := by decide +kernel
theorem dX8_isMetAt_69 : decode cX8_isMetAt 69 = .ok (.iconst 1, 1) := by decide +kernel
theorem dX8_isMetAt_70 : decode cX8_isMetAt 70 = .ok (.ireturn, 1) := by decide +kernel
theorem dX8_isMetAt_71 : decode cX8_isMetAt 71 = .ok (.iinc 4 1, 3) := by decide +kernel
theorem dX8_isMetAt_74 : decode cX8_isMetAt 74 = .ok (.goto (-71), 3) := by decide +kernel
theorem dX8_isMetAt_77 : decode cX8_isMetAt 77 = .ok (.iconst 0, 1) := by decide +kernel
theorem dX8_isMetAt_78 : decode cX8_isMetAt 78 = .ok (.ireturn, 1) := by decide +kernel
theorem dX9_init_0 : decode cX9_init 0 = .ok (.aload_n 0, 1) := by decide +kernel
theorem dX9_init_1 : decode cX9_init 1 = .ok (.invokespecial 3, 3) := by decide +kernel
theorem dX9_init_4 : decode cX9_init 4 = .ok (.aload_n 0, 1) := by decide +kernel
theorem dX9_init_5 : decode cX9_init 5 = .ok (.sipush 1201, 3) := by decide +kernel
theorem dX9_init_8 : decode cX9_init 8 = .ok (.newarray .int, 2) := by decide +kernel
theorem dX9_init_10 : decode cX9_init 10 = .ok (.putfield 11, 3) := by decide +kernel
theorem dX9_init_13 : decode cX9_init 13 = .ok (.aload_n 0, 1) := by decide +kernel
theorem dX9_init_14 : decode cX9_init 14 = .ok (.sipush 1201, 3) := by decide +kernel
theorem dX9_init_17 : decode cX9_init 17 = .ok (.newarray .int, 2) := by decide +kernel
theorem dX9_init_19 : decode cX9_init 19 = .ok (.putfield 15, 3) := by decide +kernel
theorem dX9_init_22 : decode cX9_init 22 = .ok (.aload_n 0, 1) := by decide +kernel
theorem dX9_init_23 : decode cX9_init 23 = .ok (.sipush 1201, 3) := by decide +kernel
theorem dX9_init_26 : decode cX9_init 26 = .ok (.newarray .int, 2) := by decide +kernel
theorem dX9_init_28 : decode cX9_init 28 = .ok (.putfield 18, 3) := by decide +kernel
theorem dX9_init_31 : decode cX9_init 31 = .ok (.aload_n 0, 1) := by decide +kernel
theorem dX9_init_32 : decode cX9_init 32 = .ok (.sipush 1201, 3) := by decide +kernel
theorem dX9_init_35 : decode cX9_init 35 = .ok (.anewarray 21, 3) := by decide +kernel
theorem dX9_init_38 : decode cX9_init 38 = .ok (.putfield 23, 3) := by decide +kernel
theorem dX9_init_41 : decode cX9_init 41 = .ok (.aload_n 0, 1) := by decide +kernel
theorem dX9_init_42 : decode cX9_init 42 = .ok (.iconst 0, 1) := by decide +kernel
theorem dX9_init_43 : decode cX9_init 43 = .ok (.putfield 27, 3) := by decide +kernel
theorem dX9_init_46 : decode cX9_init 46 = .ok (.aload_n 0, 1) := by decide +kernel
theorem dX9_init_47 : decode cX9_init 47 = .ok (.iconst 0, 1) := by decide +kernel
theorem dX9_init_48 : decode cX9_init 48 = .ok (.putfield 31, 3) := by decide +kernel
theorem dX9_init_51 : decode cX9_init 51 = .ok (.aload_n 0, 1) := by decide +kernel
theorem dX9_init_52 : decode cX9_init 52 = .ok (.iconst 0, 1) := by decide +kernel
theorem dX9_init_53 : decode cX9_init 53 = .ok (.putfield 34, 3) := by decide +kernel
theorem dX9_init_56 : decode cX9_init 56 = .ok (.aload_n 0, 1) := by decide +kernel
theorem dX9_init_57 : decode cX9_init 57 = .ok (.aload_n 1, 1) := by decide +kernel
theorem dX9_init_58 : decode cX9_init 58 = .ok (.putfield 37, 3) := by decide +kernel
theorem dX9_init_61 : decode cX9_init 61 = .ok (.return_, 1) := by decide +kernel
theorem dX9_cut_0 : decode cX9_cut 0 = .ok (.aload_n 0, 1) := by decide +kernel
theorem dX9_cut_1 : decode cX9_cut 1 = .ok (.iload_n 1, 1) := by decide +kernel
theorem dX9_cut_2 : decode cX9_cut 2 = .ok (.aload_n 0, 1) := by decide +kernel
theorem dX9_cut_3 : decode cX9_cut 3 = .ok (.getfield 37, 3) := by decide +kernel
theorem dX9_cut_6 : decode cX9_cut 6 = .ok (.arraylength, 1) := by decide +kernel
theorem dX9_cut_7 : decode cX9_cut 7 = .ok (.invokestatic 41, 3) := by decide +kernel
theorem dX9_cut_10 : decode cX9_cut 10 = .ok (.putfield 31, 3) := by decide +kernel
theorem dX9_cut_13 : decode cX9_cut 13 = .ok (.aload_n 0, 1) := by decide +kernel
theorem dX9_cut_14 : decode cX9_cut 14 = .ok (.getfield 31, 3) := by decide +kernel
theorem dX9_cut_17 : decode cX9_cut 17 = .ok (.sipush 1200, 3) := by decide +kernel
theorem dX9_cut_20 : decode cX9_cut 20 = .ok (.invokestatic 41, 3) := by decide +kernel
theorem dX9_cut_23 : decode cX9_cut 23 = .ok (.istore_n 2, 1) := by decide +kernel
theorem dX9_cut_24 : decode cX9_cut 24 = .ok (.aload_n 0, 1) := by decide +kernel
theorem dX9_cut_25 : decode cX9_cut 25 = .ok (.iconst 0, 1) := by decide +kernel
theorem dX9_cut_26 : decode cX9_cut 26 = .ok (.putfield 27, 3) := by decide +kernel
theorem dX9_cut_29 : decode cX9_cut 29 = .ok (.aload_n 0, 1) := by decide +kernel
theorem dX9_cut_30 : decode cX9_cut 30 = .ok (.iconst 0, 1) := by decide +kernel
theorem dX9_cut_31 : decode cX9_cut 31 = .ok (.putfield 34, 3) := by decide +kernel
theorem dX9_cut_34 : decode cX9_cut 34 = .ok (.aload_n 0, 1) := by decide +kernel
theorem dX9_cut_35 : decode cX9_cut 35 = .ok (.getfield 34, 3) := by decide +kernel
theorem dX9_cut_38 : decode cX9_cut 38 = .ok (.iload_n 2, 1) := by decide +kernel
theorem dX9_cut_39 : decode cX9_cut 39 = .ok (.if_icmp .ge 71, 3) := by decide +kernel
theorem dX9_cut_42 : decode cX9_cut 42 = .ok (.aload_n 0, 1) := by decide +kernel
theorem dX9_cut_43 : decode cX9_cut 43 = .ok (.getfield 27, 3) := by decide +kernel
theorem dX9_cut_46 : decode cX9_cut 46 = .ok (.sipush 1200, 3) := by decide +kernel
theorem dX9_cut_49 : decode cX9_cut 49 = .ok (.if_icmp .ge 61, 3) := by decide +kernel
theorem dX9_cut_52 : decode cX9_cut 52 = .ok (.aload_n 0, 1) := by decide +kernel
theorem dX9_cut_53 : decode cX9_cut 53 = .ok (.getfield 37, 3) := by decide +kernel
theorem dX9_cut_56 : decode cX9_cut 56 = .ok (.aload_n 0, 1) := by decide +kernel
theorem dX9_cut_57 : decode cX9_cut 57 = .ok (.getfield 34, 3) := by decide +kernel
theorem dX9_cut_60 : decode cX9_cut 60 = .ok (.baload, 1) := by decide +kernel
theorem dX9_cut_61 : decode cX9_cut 61 = .ok (.bipush 32, 2) := by decide +kernel
theorem dX9_cut_63 : decode cX9_cut 63 = .ok (.if_icmp .eq 17, 3) := by decide +kernel
theorem dX9_cut_66 : decode cX9_cut 66 = .ok (.aload_n 0, 1) := by decide +kernel
theorem dX9_cut_67 : decode cX9_cut 67 = .ok (.getfield 37, 3) := by decide +kernel
theorem dX9_cut_70 : decode cX9_cut 70 = .ok (.aload_n 0, 1) := by decide +kernel
theorem dX9_cut_71 : decode cX9_cut 71 = .ok (.getfield 34, 3) := by decide +kernel
theorem dX9_cut_74 : decode cX9_cut 74 = .ok (.baload, 1) := by decide +kernel
theorem dX9_cut_75 : decode cX9_cut 75 = .ok (.bipush 10, 2) := by decide +kernel
theorem dX9_cut_77 : decode cX9_cut 77 = .ok (.if_icmp .ne 16, 3) := by decide +kernel
theorem dX9_cut_80 : decode cX9_cut 80 = .ok (.aload_n 0, 1) := by decide +kernel
theorem dX9_cut_81 : decode cX9_cut 81 = .ok (.dup, 1) := by decide +kernel
theorem dX9_cut_82 : decode cX9_cut 82 = .ok (.getfield 34, 3) := by decide +kernel
theorem dX9_cut_85 : decode cX9_cut 85 = .ok (.iconst 1, 1) := by decide +kernel
theorem dX9_cut_86 : decode cX9_cut 86 = .ok (.iadd, 1) := by decide +kernel
theorem dX9_cut_87 : decode cX9_cut 87 = .ok (.putfield 34, 3) := by decide +kernel
theorem dX9_cut_90 : decode cX9_cut 90 = .ok (.goto (-56), 3) := by decide +kernel
theorem dX9_cut_93 : decode cX9_cut 93 = .ok (.aload_n 0, 1) := by decide +kernel
theorem dX9_cut_94 : decode cX9_cut 94 = .ok (.invokevirtual 47, 3) := by decide +kernel
theorem dX9_cut_97 : decode cX9_cut 97 = .ok (.aload_n 0, 1) := by decide +kernel
theorem dX9_cut_98 : decode cX9_cut 98 = .ok (.dup, 1) := by decide +kernel
theorem dX9_cut_99 : decode cX9_cut 99 = .ok (.getfield 27, 3) := by decide +kernel
theorem dX9_cut_102 : decode cX9_cut 102 = .ok (.iconst 1, 1) := by decide +kernel
theorem dX9_cut_103 : decode cX9_cut 103 = .ok (.iadd, 1) := by decide +kernel
theorem dX9_cut_104 : decode cX9_cut 104 = .ok (.putfield 27, 3) := by decide +kernel
theorem dX9_cut_107 : decode cX9_cut 107 = .ok (.goto (-73), 3) := by decide +kernel
theorem dX9_cut_110 : decode cX9_cut 110 = .ok (.aload_n 0, 1) := by decide +kernel
theorem dX9_cut_111 : decode cX9_cut 111 = .ok (.getfield 15, 3) := by decide +kernel
theorem dX9_cut_114 : decode cX9_cut 114 = .ok (.aload_n 0, 1) := by decide +kernel
theorem dX9_cut_115 : decode cX9_cut 115 = .ok (.getfield 27, 3) := by decide +kernel
theorem dX9_cut_118 : decode cX9_cut 118 = .ok (.iload_n 2, 1) := by decide +kernel
theorem dX9_cut_119 : decode cX9_cut 119 = .ok (.iastore, 1) := by decide +kernel
theorem dX9_cut_120 : decode cX9_cut 120 = .ok (.aload_n 0, 1) := by decide +kernel
theorem dX9_cut_121 : decode cX9_cut 121 = .ok (.getfield 11, 3) := by decide +kernel
theorem dX9_cut_124 : decode cX9_cut 124 = .ok (.aload_n 0, 1) := by decide +kernel
theorem dX9_cut_125 : decode cX9_cut 125 = .ok (.getfield 27, 3) := by decide +kernel
theorem dX9_cut_128 : decode cX9_cut 128 = .ok (.iconst 0, 1) := by decide +kernel
theorem dX9_cut_129 : decode cX9_cut 129 = .ok (.iastore, 1) := by decide +kernel
theorem dX9_cut_130 : decode cX9_cut 130 = .ok (.aload_n 0, 1) := by decide +kernel
theorem dX9_cut_131 : decode cX9_cut 131 = .ok (.getfield 23, 3) := by decide +kernel
theorem dX9_cut_134 : decode cX9_cut 134 = .ok (.aload_n 0, 1) := by decide +kernel
theorem dX9_cut_135 : decode cX9_cut 135 = .ok (.getfield 27, 3) := by decide +kernel
theorem dX9_cut_138 : decode cX9_cut 138 = .ok (.aconst_null, 1) := by decide +kernel
theorem dX9_cut_139 : decode cX9_cut 139 = .ok (.aastore, 1) := by decide +kernel
theorem dX9_cut_140 : decode cX9_cut 140 = .ok (.return_, 1) := by decide +kernel
theorem dX9_cutOne_0 : decode cX9_cutOne 0 = .ok (.aload_n 0, 1) := by decide +kernel
theorem dX9_cutOne_1 : decode cX9_cutOne 1 = .ok (.getfield 15, 3) := by decide +kernel
theorem dX9_cutOne_4 : decode cX9_cutOne 4 = .ok (.aload_n 0, 1) := by decide +kernel
theorem dX9_cutOne_5 : decode cX9_cutOne 5 = .ok (.getfield 27, 3) := by decide +kernel
theorem dX9_cutOne_8 : decode cX9_cutOne 8 = .ok (.aload_n 0, 1) := by decide +kernel
theorem dX9_cutOne_9 : decode cX9_cutOne 9 = .ok (.getfield 34, 3) := by decide +kernel
theorem dX9_cutOne_12 : decode cX9_cutOne 12 = .ok (.iastore, 1) := by decide +kernel
theorem dX9_cutOne_13 : decode cX9_cutOne 13 = .ok (.aload_n 0, 1) := by decide +kernel
theorem dX9_cutOne_14 : decode cX9_cutOne 14 = .ok (.getfield 23, 3) := by decide +kernel
theorem dX9_cutOne_17 : decode cX9_cutOne 17 = .ok (.aload_n 0, 1) := by decide +kernel
theorem dX9_cutOne_18 : decode cX9_cutOne 18 = .ok (.getfield 27, 3) := by decide +kernel
theorem dX9_cutOne_21 : decode cX9_cutOne 21 = .ok (.aconst_null, 1) := by decide +kernel
theorem dX9_cutOne_22 : decode cX9_cutOne 22 = .ok (.aastore, 1) := by decide +kernel
theorem dX9_cutOne_23 : decode cX9_cutOne 23 = .ok (.aload_n 0, 1) := by decide +kernel
theorem dX9_cutOne_24 : decode cX9_cutOne 24 = .ok (.getfield 37, 3) := by decide +kernel
theorem dX9_cutOne_27 : decode cX9_cutOne 27 = .ok (.aload_n 0, 1) := by decide +kernel
theorem dX9_cutOne_28 : decode cX9_cutOne 28 = .ok (.getfield 34, 3) := by decide +kernel
theorem dX9_cutOne_31 : decode cX9_cutOne 31 = .ok (.baload, 1) := by decide +kernel
theorem dX9_cutOne_32 : decode cX9_cutOne 32 = .ok (.invokestatic 50, 3) := by decide +kernel
theorem dX9_cutOne_35 : decode cX9_cutOne 35 = .ok (.ifCond .ne 18, 3) := by decide +kernel
theorem dX9_cutOne_38 : decode cX9_cutOne 38 = .ok (.aload_n 0, 1) := by decide +kernel
theorem dX9_cutOne_39 : decode cX9_cutOne 39 = .ok (.getfield 37, 3) := by decide +kernel
theorem dX9_cutOne_42 : decode cX9_cutOne 42 = .ok (.aload_n 0, 1) := by decide +kernel
theorem dX9_cutOne_43 : decode cX9_cutOne 43 = .ok (.getfield 34, 3) := by decide +kernel
theorem dX9_cutOne_46 : decode cX9_cutOne 46 = .ok (.baload, 1) := by decide +kernel
theorem dX9_cutOne_47 : decode cX9_cutOne 47 = .ok (.invokestatic 54, 3) := by decide +kernel
theorem dX9_cutOne_50 : decode cX9_cutOne 50 = .ok (.ifCond .eq 10, 3) := by decide +kernel
theorem dX9_cutOne_53 : decode cX9_cutOne 53 = .ok (.aload_n 0, 1) := by decide +kernel
theorem dX9_cutOne_54 : decode cX9_cutOne 54 = .ok (.invokevirtual 57, 3) := by decide +kernel
theorem dX9_cutOne_57 : decode cX9_cutOne 57 = .ok (.goto 41, 3) := by decide +kernel
theorem dX9_cutOne_60 : decode cX9_cutOne 60 = .ok (.aload_n 0, 1) := by decide +kernel
theorem dX9_cutOne_61 : decode cX9_cutOne 61 = .ok (.getfield 11, 3) := by decide +kernel
theorem dX9_cutOne_64 : decode cX9_cutOne 64 = .ok (.aload_n 0, 1) := by decide +kernel
theorem dX9_cutOne_65 : decode cX9_cutOne 65 = .ok (.getfield 27, 3) := by decide +kernel
theorem dX9_cutOne_68 : decode cX9_cutOne 68 = .ok (.aload_n 0, 1) := by decide +kernel
theorem dX9_cutOne_69 : decode cX9_cutOne 69 = .ok (.getfield 37, 3) := by decide +kernel
theorem dX9_cutOne_72 : decode cX9_cutOne 72 = .ok (.aload_n 0, 1) := by decide +kernel
theorem dX9_cutOne_73 : decode cX9_cutOne 73 = .ok (.getfield 34, 3) := by decide +kernel
theorem dX9_cutOne_76 : decode cX9_cutOne 76 = .ok (.baload, 1) := by decide +kernel
theorem dX9_cutOne_77 : decode cX9_cutOne 77 = .ok (.bipush 59, 2) := by decide +kernel
theorem dX9_cutOne_79 : decode cX9_cutOne 79 = .ok (.if_icmp .ne 7, 3) := by decide +kernel
theorem dX9_cutOne_82 : decode cX9_cutOne 82 = .ok (.iconst 2, 1) := by decide +kernel
theorem dX9_cutOne_83 : decode cX9_cutOne 83 = .ok (.goto 4, 3) := by decide +kernel
theorem dX9_cutOne_86 : decode cX9_cutOne 86 = .ok (.iconst 1, 1) := by decide +kernel
theorem dX9_cutOne_87 : decode cX9_cutOne 87 = .ok (.iastore, 1) := by decide +kernel
theorem dX9_cutOne_88 : decode cX9_cutOne 88 = .ok (.aload_n 0, 1) := by decide +kernel
theorem dX9_cutOne_89 : decode cX9_cutOne 89 = .ok (.dup, 1) := by decide +kernel
theorem dX9_cutOne_90 : decode cX9_cutOne 90 = .ok (.getfield 34, 3) := by decide +kernel
theorem dX9_cutOne_93 : decode cX9_cutOne 93 = .ok (.iconst 1, 1) := by decide +kernel
theorem dX9_cutOne_94 : decode cX9_cutOne 94 = .ok (.iadd, 1) := by decide +kernel
theorem dX9_cutOne_95 : decode cX9_cutOne 95 = .ok (.putfield 34, 3) := by decide +kernel
theorem dX9_cutOne_98 : decode cX9_cutOne 98 = .ok (.return_, 1) := by decide +kernel
theorem dX9_cutRun_0 : decode cX9_cutRun 0 = .ok (.aload_n 0, 1) := by decide +kernel
theorem dX9_cutRun_1 : decode cX9_cutRun 1 = .ok (.getfield 34, 3) := by decide +kernel
theorem dX9_cutRun_4 : decode cX9_cutRun 4 = .ok (.istore_n 1, 1) := by decide +kernel
theorem dX9_cutRun_5 : decode cX9_cutRun 5 = .ok (.iconst 0, 1) := by decide +kernel
theorem dX9_cutRun_6 : decode cX9_cutRun 6 = .ok (.istore_n 2, 1) := by decide +kernel
theorem dX9_cutRun_7 : decode cX9_cutRun 7 = .ok (.iconst 0, 1) := by decide +kernel
theorem dX9_cutRun_8 : decode cX9_cutRun 8 = .ok (.istore_n 3, 1) := by decide +kernel
theorem dX9_cutRun_9 : decode cX9_cutRun 9 = .ok (.aload_n 0, 1) := by decide +kernel
theorem dX9_cutRun_10 : decode cX9_cutRun 10 = .ok (.getfield 34, 3) := by decide +kernel
theorem dX9_cutRun_13 : decode cX9_cutRun 13 = .ok (.aload_n 0, 1) := by decide +kernel
theorem dX9_cutRun_14 : decode cX9_cutRun 14 = .ok (.getfield 31, 3) := by decide +kernel
theorem dX9_cutRun_17 : decode cX9_cutRun 17 = .ok (.if_icmp .ge 105, 3) := by decide +kernel
theorem dX9_cutRun_20 : decode cX9_cutRun 20 = .ok (.aload_n 0, 1) := by decide +kernel
theorem dX9_cutRun_21 : decode cX9_cutRun 21 = .ok (.getfield 37, 3) := by decide +kernel
theorem dX9_cutRun_24 : decode cX9_cutRun 24 = .ok (.aload_n 0, 1) := by decide +kernel
theorem dX9_cutRun_25 : decode cX9_cutRun 25 = .ok (.getfield 34, 3) := by decide +kernel
theorem dX9_cutRun_28 : decode cX9_cutRun 28 = .ok (.baload, 1) := by decide +kernel
theorem dX9_cutRun_29 : decode cX9_cutRun 29 = .ok (.invokestatic 50, 3) := by decide +kernel
theorem dX9_cutRun_32 : decode cX9_cutRun 32 = .ok (.ifCond .ne 18, 3) := by decide +kernel
theorem dX9_cutRun_35 : decode cX9_cutRun 35 = .ok (.aload_n 0, 1) := by decide +kernel
theorem dX9_cutRun_36 : decode cX9_cutRun 36 = .ok (.getfield 37, 3) := by decide +kernel
theorem dX9_cutRun_39 : decode cX9_cutRun 39 = .ok (.aload_n 0, 1) := by decide +kernel
theorem dX9_cutRun_40 : decode cX9_cutRun 40 = .ok (.getfield 34, 3) := by decide +kernel
theorem dX9_cutRun_43 : decode cX9_cutRun 43 = .ok (.baload, 1) := by decide +kernel
theorem dX9_cutRun_44 : decode cX9_cutRun 44 = .ok (.invokestatic 54, 3) := by decide +kernel
theorem dX9_cutRun_47 : decode cX9_cutRun 47 = .ok (.ifCond .eq 75, 3) := by decide +kernel
theorem dX9_cutRun_50 : decode cX9_cutRun 50 = .ok (.aload_n 0, 1) := by decide +kernel
theorem dX9_cutRun_51 : decode cX9_cutRun 51 = .ok (.getfield 37, 3) := by decide +kernel
theorem dX9_cutRun_54 : decode cX9_cutRun 54 = .ok (.aload_n 0, 1) := by decide +kernel
theorem dX9_cutRun_55 : decode cX9_cutRun 55 = .ok (.getfield 34, 3) := by decide +kernel
theorem dX9_cutRun_58 : decode cX9_cutRun 58 = .ok (.baload, 1) := by decide +kernel
theorem dX9_cutRun_59 : decode cX9_cutRun 59 = .ok (.invokestatic 50, 3) := by decide +kernel
theorem dX9_cutRun_62 : decode cX9_cutRun 62 = .ok (.ifCond .eq 29, 3) := by decide +kernel
theorem dX9_cutRun_65 : decode cX9_cutRun 65 = .ok (.iinc 2 1, 3) := by decide +kernel
theorem dX9_cutRun_68 : decode cX9_cutRun 68 = .ok (.iload_n 3, 1) := by decide +kernel
theorem dX9_cutRun_69 : decode cX9_cutRun 69 = .ok (.bipush 27, 2) := by decide +kernel
theorem dX9_cutRun_71 : decode cX9_cutRun 71 = .ok (.imul, 1) := by decide +kernel
theorem dX9_cutRun_72 : decode cX9_cutRun 72 = .ok (.aload_n 0, 1) := by decide +kernel
theorem dX9_cutRun_73 : decode cX9_cutRun 73 = .ok (.getfield 37, 3) := by decide +kernel
theorem dX9_cutRun_76 : decode cX9_cutRun 76 = .ok (.aload_n 0, 1) := by decide +kernel
theorem dX9_cutRun_77 : decode cX9_cutRun 77 = .ok (.getfield 34, 3) := by decide +kernel
theorem dX9_cutRun_80 : decode cX9_cutRun 80 = .ok (.baload, 1) := by decide +kernel
theorem dX9_cutRun_81 : decode cX9_cutRun 81 = .ok (.iadd, 1) := by decide +kernel
theorem dX9_cutRun_82 : decode cX9_cutRun 82 = .ok (.bipush 97, 2) := by decide +kernel
theorem dX9_cutRun_84 : decode cX9_cutRun 84 = .ok (.isub, 1) := by decide +kernel
theorem dX9_cutRun_85 : decode cX9_cutRun 85 = .ok (.iconst 1, 1) := by decide +kernel
theorem dX9_cutRun_86 : decode cX9_cutRun 86 = .ok (.iadd, 1) := by decide +kernel
theorem dX9_cutRun_87 : decode cX9_cutRun 87 = .ok (.istore_n 3, 1) := by decide +kernel
theorem dX9_cutRun_88 : decode cX9_cutRun 88 = .ok (.goto 21, 3) := by decide +kernel
theorem dX9_cutRun_91 : decode cX9_cutRun 91 = .ok (.iload_n 3, 1) := by decide +kernel
theorem dX9_cutRun_92 : decode cX9_cutRun 92 = .ok (.bipush 10, 2) := by decide +kernel
theorem dX9_cutRun_94 : decode cX9_cutRun 94 = .ok (.imul, 1) := by decide +kernel
theorem dX9_cutRun_95 : decode cX9_cutRun 95 = .ok (.aload_n 0, 1) := by decide +kernel
theorem dX9_cutRun_96 : decode cX9_cutRun 96 = .ok (.getfield 37, 3) := by decide +kernel
theorem dX9_cutRun_99 : decode cX9_cutRun 99 = .ok (.aload_n 0, 1) := by decide +kernel
theorem dX9_cutRun_100 : decode cX9_cutRun 100 = .ok (.getfield 34, 3) := by decide +kernel
theorem dX9_cutRun_103 : decode cX9_cutRun 103 = .ok (.baload, 1) := by decide +kernel
theorem dX9_cutRun_104 : decode cX9_cutRun 104 = .ok (.iadd, 1) := by decide +kernel
theorem dX9_cutRun_105 : decode cX9_cutRun 105 = .ok (.bipush 48, 2) := by decide +kernel
theorem dX9_cutRun_107 : decode cX9_cutRun 107 = .ok (.isub, 1) := by decide +kernel
theorem dX9_cutRun_108 : decode cX9_cutRun 108 = .ok (.istore_n 3, 1) := by decide +kernel
theorem dX9_cutRun_109 : decode cX9_cutRun 109 = .ok (.aload_n 0, 1) := by decide +kernel
theorem dX9_cutRun_110 : decode cX9_cutRun 110 = .ok (.dup, 1) := by decide +kernel
theorem dX9_cutRun_111 : decode cX9_cutRun 111 = .ok (.getfield 34, 3) := by decide +kernel
theorem dX9_cutRun_114 : decode cX9_cutRun 114 = .ok (.iconst 1, 1) := by decide +kernel
theorem dX9_cutRun_115 : decode cX9_cutRun 115 = .ok (.iadd, 1) := by decide +kernel
theorem dX9_cutRun_116 : decode cX9_cutRun 116 = .ok (.putfield 34, 3) := by decide +kernel
theorem dX9_cutRun_119 : decode cX9_cutRun 119 = .ok (.goto (-110), 3) := by decide +kernel
theorem dX9_cutRun_122 : decode cX9_cutRun 122 = .ok (.aload_n 0, 1) := by decide +kernel
theorem dX9_cutRun_123 : decode cX9_cutRun 123 = .ok (.getfield 18, 3) := by decide +kernel
theorem dX9_cutRun_126 : decode cX9_cutRun 126 = .ok (.aload_n 0, 1) := by decide +kernel
theorem dX9_cutRun_127 : decode cX9_cutRun 127 = .ok (.getfield 27, 3) := by decide +kernel
theorem dX9_cutRun_130 : decode cX9_cutRun 130 = .ok (.iload_n 3, 1) := by decide +kernel
theorem dX9_cutRun_131 : decode cX9_cutRun 131 = .ok (.iastore, 1) := by decide +kernel
theorem dX9_cutRun_132 : decode cX9_cutRun 132 = .ok (.iload_n 2, 1) := by decide +kernel
theorem dX9_cutRun_133 : decode cX9_cutRun 133 = .ok (.ifCond .ne 30, 3) := by decide +kernel
theorem dX9_cutRun_136 : decode cX9_cutRun 136 = .ok (.aload_n 0, 1) := by decide +kernel
theorem dX9_cutRun_137 : decode cX9_cutRun 137 = .ok (.getfield 11, 3) := by decide +kernel
theorem dX9_cutRun_140 : decode cX9_cutRun 140 = .ok (.aload_n 0, 1) := by decide +kernel
theorem dX9_cutRun_141 : decode cX9_cutRun 141 = .ok (.getfield 27, 3) := by decide +kernel
theorem dX9_cutRun_144 : decode cX9_cutRun 144 = .ok (.aload_n 0, 1) := by decide +kernel
theorem dX9_cutRun_145 : decode cX9_cutRun 145 = .ok (.getfield 34, 3) := by decide +kernel
theorem dX9_cutRun_148 : decode cX9_cutRun 148 = .ok (.iload_n 1, 1) := by decide +kernel
theorem dX9_cutRun_149 : decode cX9_cutRun 149 = .ok (.isub, 1) := by decide +kernel
theorem dX9_cutRun_150 : decode cX9_cutRun 150 = .ok (.iconst 4, 1) := by decide +kernel
theorem dX9_cutRun_151 : decode cX9_cutRun 151 = .ok (.if_icmp .gt 7, 3) := by decide +kernel
theorem dX9_cutRun_154 : decode cX9_cutRun 154 = .ok (.iconst 3, 1) := by decide +kernel
theorem dX9_cutRun_155 : decode cX9_cutRun 155 = .ok (.goto 4, 3) := by decide +kernel
theorem dX9_cutRun_158 : decode cX9_cutRun 158 = .ok (.iconst 1, 1) := by decide +kernel
theorem dX9_cutRun_159 : decode cX9_cutRun 159 = .ok (.iastore, 1) := by decide +kernel
theorem dX9_cutRun_160 : decode cX9_cutRun 160 = .ok (.goto 79, 3) := by decide +kernel
theorem dX9_cutRun_163 : decode cX9_cutRun 163 = .ok (.iload_n 2, 1) := by decide +kernel
theorem dX9_cutRun_164 : decode cX9_cutRun 164 = .ok (.aload_n 0, 1) := by decide +kernel
theorem dX9_cutRun_165 : decode cX9_cutRun 165 = .ok (.getfield 34, 3) := by decide +kernel
theorem dX9_cutRun_168 : decode cX9_cutRun 168 = .ok (.iload_n 1, 1) := by decide +kernel
theorem dX9_cutRun_169 : decode cX9_cutRun 169 = .ok (.isub, 1) := by decide +kernel
theorem dX9_cutRun_170 : decode cX9_cutRun 170 = .ok (.if_icmp .ne 59, 3) := by decide +kernel
theorem dX9_cutRun_173 : decode cX9_cutRun 173 = .ok (.iload_n 2, 1) := by decide +kernel
theorem dX9_cutRun_174 : decode cX9_cutRun 174 = .ok (.bipush 6, 2) := by decide +kernel
theorem dX9_cutRun_176 : decode cX9_cutRun 176 = .ok (.if_icmp .gt 53, 3) := by decide +kernel
theorem dX9_cutRun_179 : decode cX9_cutRun 179 = .ok (.aload_n 0, 1) := by decide +kernel
theorem dX9_cutRun_180 : decode cX9_cutRun 180 = .ok (.getfield 23, 3) := by decide +kernel
theorem dX9_cutRun_183 : decode cX9_cutRun 183 = .ok (.aload_n 0, 1) := by decide +kernel
theorem dX9_cutRun_184 : decode cX9_cutRun 184 = .ok (.getfield 27, 3) := by decide +kernel
theorem dX9_cutRun_187 : decode cX9_cutRun 187 = .ok (.aload_n 0, 1) := by decide +kernel
theorem dX9_cutRun_188 : decode cX9_cutRun 188 = .ok (.getfield 37, 3) := by decide +kernel
theorem dX9_cutRun_191 : decode cX9_cutRun 191 = .ok (.iload_n 1, 1) := by decide +kernel
theorem dX9_cutRun_192 : decode cX9_cutRun 192 = .ok (.aload_n 0, 1) := by decide +kernel
theorem dX9_cutRun_193 : decode cX9_cutRun 193 = .ok (.getfield 34, 3) := by decide +kernel
theorem dX9_cutRun_196 : decode cX9_cutRun 196 = .ok (.invokestatic 60, 3) := by decide +kernel
theorem dX9_cutRun_199 : decode cX9_cutRun 199 = .ok (.aastore, 1) := by decide +kernel
theorem dX9_cutRun_200 : decode cX9_cutRun 200 = .ok (.aload_n 0, 1) := by decide +kernel
theorem dX9_cutRun_201 : decode cX9_cutRun 201 = .ok (.getfield 11, 3) := by decide +kernel
theorem dX9_cutRun_204 : decode cX9_cutRun 204 = .ok (.aload_n 0, 1) := by decide +kernel
theorem dX9_cutRun_205 : decode cX9_cutRun 205 = .ok (.getfield 27, 3) := by decide +kernel
theorem dX9_cutRun_208 : decode cX9_cutRun 208 = .ok (.aload_n 0, 1) := by decide +kernel
theorem dX9_cutRun_209 : decode cX9_cutRun 209 = .ok (.getfield 23, 3) := by decide +kernel
theorem dX9_cutRun_212 : decode cX9_cutRun 212 = .ok (.aload_n 0, 1) := by decide +kernel
theorem dX9_cutRun_213 : decode cX9_cutRun 213 = .ok (.getfield 27, 3) := by decide +kernel
theorem dX9_cutRun_216 : decode cX9_cutRun 216 = .ok (.aaload, 1) := by decide +kernel
theorem dX9_cutRun_217 : decode cX9_cutRun 217 = .ok (.ifnonnull 7, 3) := by decide +kernel
theorem dX9_cutRun_220 : decode cX9_cutRun 220 = .ok (.iconst 4, 1) := by decide +kernel
theorem dX9_cutRun_221 : decode cX9_cutRun 221 = .ok (.goto 4, 3) := by decide +kernel
theorem dX9_cutRun_224 : decode cX9_cutRun 224 = .ok (.iconst 5, 1) := by decide +kernel
theorem dX9_cutRun_225 : decode cX9_cutRun 225 = .ok (.iastore, 1) := by decide +kernel
theorem dX9_cutRun_226 : decode cX9_cutRun 226 = .ok (.goto 13, 3) := by decide +kernel
theorem dX9_cutRun_229 : decode cX9_cutRun 229 = .ok (.aload_n 0, 1) := by decide +kernel
theorem dX9_cutRun_230 : decode cX9_cutRun 230 = .ok (.getfield 11, 3) := by decide +kernel
theorem dX9_cutRun_233 : decode cX9_cutRun 233 = .ok (.aload_n 0, 1) := by decide +kernel
theorem dX9_cutRun_234 : decode cX9_cutRun 234 = .ok (.getfield 27, 3) := by decide +kernel
theorem dX9_cutRun_237 : decode cX9_cutRun 237 = .ok (.iconst 1, 1) := by decide +kernel
theorem dX9_cutRun_238 : decode cX9_cutRun 238 = .ok (.iastore, 1) := by decide +kernel
theorem dX9_cutRun_239 : decode cX9_cutRun 239 = .ok (.return_, 1) := by decide +kernel
theorem dX9_isLetter_0 : decode cX9_isLetter 0 = .ok (.iload_n 0, 1) := by decide +kernel
theorem dX9_isLetter_1 : decode cX9_isLetter 1 = .ok (.bipush 97, 2) := by decide +kernel
theorem dX9_isLetter_3 : decode cX9_isLetter 3 = .ok (.if_icmp .lt 13, 3) := by decide +kernel
theorem dX9_isLetter_6 : decode cX9_isLetter 6 = .ok (.iload_n 0, 1) := by decide +kernel
theorem dX9_isLetter_7 : decode cX9_isLetter 7 = .ok (.bipush 122, 2) := by decide +kernel
theorem dX9_isLetter_9 : decode cX9_isLetter 9 = .ok (.if_icmp .gt 7, 3) := by decide +kernel
theorem dX9_isLetter_12 : decode cX9_isLetter 12 = .ok (.iconst 1, 1) := by decide +kernel
theorem dX9_isLetter_13 : decode cX9_isLetter 13 = .ok (.goto 4, 3) := by decide +kernel
theorem dX9_isLetter_16 : decode cX9_isLetter 16 = .ok (.iconst 0, 1) := by decide +kernel
theorem dX9_isLetter_17 : decode cX9_isLetter 17 = .ok (.ireturn, 1) := by decide +kernel
theorem dX9_isDigit_0 : decode cX9_isDigit 0 = .ok (.iload_n 0, 1) := by decide +kernel
theorem dX9_isDigit_1 : decode cX9_isDigit 1 = .ok (.bipush 48, 2) := by decide +kernel
theorem dX9_isDigit_3 : decode cX9_isDigit 3 = .ok (.if_icmp .lt 13, 3) := by decide +kernel
theorem dX9_isDigit_6 : decode cX9_isDigit 6 = .ok (.iload_n 0, 1) := by decide +kernel
theorem dX9_isDigit_7 : decode cX9_isDigit 7 = .ok (.bipush 57, 2) := by decide +kernel
theorem dX9_isDigit_9 : decode cX9_isDigit 9 = .ok (.if_icmp .gt 7, 3) := by decide +kernel
theorem dX9_isDigit_12 : decode cX9_isDigit 12 = .ok (.iconst 1, 1) := by decide +kernel
theorem dX9_isDigit_13 : decode cX9_isDigit 13 = .ok (.goto 4, 3) := by decide +kernel
theorem dX9_isDigit_16 : decode cX9_isDigit 16 = .ok (.iconst 0, 1) := by decide +kernel
theorem dX9_isDigit_17 : decode cX9_isDigit 17 = .ok (.ireturn, 1) := by decide +kernel
theorem dX10_lyingAt_0 : decode cX10_lyingAt 0 = .ok (.iconst 0, 1) := by decide +kernel
theorem dX10_lyingAt_1 : decode cX10_lyingAt 1 = .ok (.istore_n 3, 1) := by decide +kernel
theorem dX10_lyingAt_2 : decode cX10_lyingAt 2 = .ok (.iload_n 3, 1) := by decide +kernel
theorem dX10_lyingAt_3 : decode cX10_lyingAt 3 = .ok (.getstatic 84, 3) := by decide +kernel
theorem dX10_lyingAt_6 : decode cX10_lyingAt 6 = .ok (.arraylength, 1) := by decide +kernel
theorem dX10_lyingAt_7 : decode cX10_lyingAt 7 = .ok (.if_icmp .ge 29, 3) := by decide +kernel
theorem dX10_lyingAt_10 : decode cX10_lyingAt 10 = .ok (.getstatic 84, 3) := by decide +kernel
theorem dX10_lyingAt_13 : decode cX10_lyingAt 13 = .ok (.iload_n 3, 1) := by decide +kernel
theorem dX10_lyingAt_14 : decode cX10_lyingAt 14 = .ok (.aaload, 1) := by decide +kernel
theorem dX10_lyingAt_15 : decode cX10_lyingAt 15 = .ok (.aload_n 0, 1) := by decide +kernel
theorem dX10_lyingAt_16 : decode cX10_lyingAt 16 = .ok (.iload_n 1, 1) := by decide +kernel
theorem dX10_lyingAt_17 : decode cX10_lyingAt 17 = .ok (.iload_n 2, 1) := by decide +kernel
theorem dX10_lyingAt_18 : decode cX10_lyingAt 18 = .ok (.invokevirtual 87, 3) := by decide +kernel
theorem dX10_lyingAt_21 : decode cX10_lyingAt 21 = .ok (.ifCond .eq 9, 3) := by decide +kernel
theorem dX10_lyingAt_24 : decode cX10_lyingAt 24 = .ok (.getstatic 84, 3) := by decide +kernel
theorem dX10_lyingAt_27 : decode cX10_lyingAt 27 = .ok (.iload_n 3, 1) := by decide +kernel
theorem dX10_lyingAt_28 : decode cX10_lyingAt 28 = .ok (.aaload, 1) := by decide +kernel
theorem dX10_lyingAt_29 : decode cX10_lyingAt 29 = .ok (.areturn, 1) := by decide +kernel
theorem dX10_lyingAt_30 : decode cX10_lyingAt 30 = .ok (.iinc 3 1, 3) := by decide +kernel
theorem dX10_lyingAt_33 : decode cX10_lyingAt 33 = .ok (.goto (-31), 3) := by decide +kernel
theorem dX10_lyingAt_36 : decode cX10_lyingAt 36 = .ok (.aconst_null, 1) := by decide +kernel
theorem dX10_lyingAt_37 : decode cX10_lyingAt 37 = .ok (.areturn, 1) := by decide +kernel
theorem dX10_lies_0 : decode cX10_lies 0 = .ok (.iload_n 2, 1) := by decide +kernel
theorem dX10_lies_1 : decode cX10_lies 1 = .ok (.ifCond .lt 22, 3) := by decide +kernel
theorem dX10_lies_4 : decode cX10_lies 4 = .ok (.iload_n 3, 1) := by decide +kernel
theorem dX10_lies_5 : decode cX10_lies 5 = .ok (.aload_n 1, 1) := by decide +kernel
theorem dX10_lies_6 : decode cX10_lies 6 = .ok (.arraylength, 1) := by decide +kernel
theorem dX10_lies_7 : decode cX10_lies 7 = .ok (.if_icmp .gt 16, 3) := by decide +kernel
theorem dX10_lies_10 : decode cX10_lies 10 = .ok (.iload_n 3, 1) := by decide +kernel
theorem dX10_lies_11 : decode cX10_lies 11 = .ok (.iload_n 2, 1) := by decide +kernel
theorem dX10_lies_12 : decode cX10_lies 12 = .ok (.isub, 1) := by decide +kernel
theorem dX10_lies_13 : decode cX10_lies 13 = .ok (.aload_n 0, 1) := by decide +kernel
theorem dX10_lies_14 : decode cX10_lies 14 = .ok (.getfield 70, 3) := by decide +kernel
theorem dX10_lies_17 : decode cX10_lies 17 = .ok (.invokevirtual 91, 3) := by decide +kernel
theorem dX10_lies_20 : decode cX10_lies 20 = .ok (.if_icmp .eq 5, 3) := by decide +kernel
theorem dX10_lies_23 : decode cX10_lies 23 = .ok (.iconst 0, 1) := by decide +kernel
theorem dX10_lies_24 : decode cX10_lies 24 = .ok (.ireturn, 1) := by decide +kernel
theorem dX10_lies_25 : decode cX10_lies 25 = .ok (.iconst 0, 1) := by decide +kernel
theorem dX10_lies_26 : decode cX10_lies 26 = .ok (.istore 4, 2) := by decide +kernel
theorem dX10_lies_28 : decode cX10_lies 28 = .ok (.iload 4, 2) := by decide +kernel
theorem dX10_lies_30 : decode cX10_lies 30 = .ok (.aload_n 0, 1) := by decide +kernel
theorem dX10_lies_31 : decode cX10_lies 31 = .ok (.getfield 70, 3) := by decide +kernel
theorem dX10_lies_34 : decode cX10_lies 34 = .ok (.invokevirtual 91, 3) := by decide +kernel
theorem dX10_lies_37 : decode cX10_lies 37 = .ok (.if_icmp .ge 29, 3) := by decide +kernel
theorem dX10_lies_40 : decode cX10_lies 40 = .ok (.aload_n 1, 1) := by decide +kernel
theorem dX10_lies_41 : decode cX10_lies 41 = .ok (.iload_n 2, 1) := by decide +kernel
theorem dX10_lies_42 : decode cX10_lies 42 = .ok (.iload 4, 2) := by decide +kernel
theorem dX10_lies_44 : decode cX10_lies 44 = .ok (.iadd, 1) := by decide +kernel
theorem dX10_lies_45 : decode cX10_lies 45 = .ok (.baload, 1) := by decide +kernel
theorem dX10_lies_46 : decode cX10_lies 46 = .ok (.aload_n 0, 1) := by decide +kernel
theorem dX10_lies_47 : decode cX10_lies 47 = .ok (.getfield 70, 3) := by decide +kernel
theorem dX10_lies_50 : decode cX10_lies 50 = .ok (.iload 4, 2) := by decide +kernel
theorem dX10_lies_52 : decode cX10_lies 52 = .ok (.invokevirtual 97, 3) := by decide +kernel
theorem dX10_lies_55 : decode cX10_lies 55 = .ok (.if_icmp .eq 5, 3) := by decide +kernel
theorem dX10_lies_58 : decode cX10_lies 58 = .ok (.iconst 0, 1) := by decide +kernel
theorem dX10_lies_59 : decode cX10_lies 59 = .ok (.ireturn, 1) := by decide +kernel
theorem dX10_lies_60 : decode cX10_lies 60 = .ok (.iinc 4 1, 3) := by decide +kernel
theorem dX10_lies_63 : decode cX10_lies 63 = .ok (.goto (-35), 3) := by decide +kernel
theorem dX10_lies_66 : decode cX10_lies 66 = .ok (.iconst 1, 1) := by decide +kernel
theorem dX10_lies_67 : decode cX10_lies 67 = .ok (.ireturn, 1) := by decide +kernel
theorem dX11_init_0 : decode cX11_init 0 = .ok (.aload_n 0, 1) := by decide +kernel
theorem dX11_init_1 : decode cX11_init 1 = .ok (.invokespecial 1, 3) := by decide +kernel
theorem dX11_init_4 : decode cX11_init 4 = .ok (.aload_n 0, 1) := by decide +kernel
theorem dX11_init_5 : decode cX11_init 5 = .ok (.sipush 1240, 3) := by decide +kernel
theorem dX11_init_8 : decode cX11_init 8 = .ok (.newarray .byte, 2) := by decide +kernel
theorem dX11_init_10 : decode cX11_init 10 = .ok (.putfield 9, 3) := by decide +kernel
theorem dX11_init_13 : decode cX11_init 13 = .ok (.aload_n 0, 1) := by decide +kernel
theorem dX11_init_14 : decode cX11_init 14 = .ok (.iconst 0, 1) := by decide +kernel
theorem dX11_init_15 : decode cX11_init 15 = .ok (.putfield 13, 3) := by decide +kernel
theorem dX11_init_18 : decode cX11_init 18 = .ok (.aload_n 0, 1) := by decide +kernel
theorem dX11_init_19 : decode cX11_init 19 = .ok (.iconst 0, 1) := by decide +kernel
theorem dX11_init_20 : decode cX11_init 20 = .ok (.putfield 17, 3) := by decide +kernel
theorem dX11_init_23 : decode cX11_init 23 = .ok (.aload_n 0, 1) := by decide +kernel
theorem dX11_init_24 : decode cX11_init 24 = .ok (.bipush 12, 2) := by decide +kernel
theorem dX11_init_26 : decode cX11_init 26 = .ok (.newarray .int, 2) := by decide +kernel
theorem dX11_init_28 : decode cX11_init 28 = .ok (.putfield 20, 3) := by decide +kernel
theorem dX11_init_31 : decode cX11_init 31 = .ok (.aload_n 0, 1) := by decide +kernel
theorem dX11_init_32 : decode cX11_init 32 = .ok (.iconst 0, 1) := by decide +kernel
theorem dX11_init_33 : decode cX11_init 33 = .ok (.putfield 24, 3) := by decide +kernel
theorem dX11_init_36 : decode cX11_init 36 = .ok (.aload_n 0, 1) := by decide +kernel
theorem dX11_init_37 : decode cX11_init 37 = .ok (.iconst 2, 1) := by decide +kernel
theorem dX11_init_38 : decode cX11_init 38 = .ok (.newarray .boolean, 2) := by decide +kernel
theorem dX11_init_40 : decode cX11_init 40 = .ok (.putfield 27, 3) := by decide +kernel
theorem dX11_init_43 : decode cX11_init 43 = .ok (.aload_n 0, 1) := by decide +kernel
theorem dX11_init_44 : decode cX11_init 44 = .ok (.iconst 2, 1) := by decide +kernel
theorem dX11_init_45 : decode cX11_init 45 = .ok (.anewarray 31, 3) := by decide +kernel
theorem dX11_init_48 : decode cX11_init 48 = .ok (.putfield 33, 3) := by decide +kernel
theorem dX11_init_51 : decode cX11_init 51 = .ok (.aload_n 0, 1) := by decide +kernel
theorem dX11_init_52 : decode cX11_init 52 = .ok (.iconst 2, 1) := by decide +kernel
theorem dX11_init_53 : decode cX11_init 53 = .ok (.anewarray 37, 3) := by decide +kernel
theorem dX11_init_56 : decode cX11_init 56 = .ok (.putfield 39, 3) := by decide +kernel
theorem dX11_init_59 : decode cX11_init 59 = .ok (.aload_n 0, 1) := by decide +kernel
theorem dX11_init_60 : decode cX11_init 60 = .ok (.new 43, 3) := by decide +kernel
theorem dX11_init_63 : decode cX11_init 63 = .ok (.dup, 1) := by decide +kernel
theorem dX11_init_64 : decode cX11_init 64 = .ok (.aload_n 0, 1) := by decide +kernel
theorem dX11_init_65 : decode cX11_init 65 = .ok (.getfield 9, 3) := by decide +kernel
theorem dX11_init_68 : decode cX11_init 68 = .ok (.invokespecial 45, 3) := by decide +kernel
theorem dX11_init_71 : decode cX11_init 71 = .ok (.putfield 48, 3) := by decide +kernel
theorem dX11_init_74 : decode cX11_init 74 = .ok (.aload_n 0, 1) := by decide +kernel
theorem dX11_init_75 : decode cX11_init 75 = .ok (.new 31, 3) := by decide +kernel
theorem dX11_init_78 : decode cX11_init 78 = .ok (.dup, 1) := by decide +kernel
theorem dX11_init_79 : decode cX11_init 79 = .ok (.invokespecial 52, 3) := by decide +kernel
theorem dX11_init_82 : decode cX11_init 82 = .ok (.putfield 53, 3) := by decide +kernel
theorem dX11_init_85 : decode cX11_init 85 = .ok (.aload_n 0, 1) := by decide +kernel
theorem dX11_init_86 : decode cX11_init 86 = .ok (.new 37, 3) := by decide +kernel
theorem dX11_init_89 : decode cX11_init 89 = .ok (.dup, 1) := by decide +kernel
theorem dX11_init_90 : decode cX11_init 90 = .ok (.aload_n 0, 1) := by decide +kernel
theorem dX11_init_91 : decode cX11_init 91 = .ok (.getfield 53, 3) := by decide +kernel
theorem dX11_init_94 : decode cX11_init 94 = .ok (.invokespecial 57, 3) := by decide +kernel
theorem dX11_init_97 : decode cX11_init 97 = .ok (.putfield 60, 3) := by decide +kernel
theorem dX11_init_100 : decode cX11_init 100 = .ok (.aload_n 0, 1) := by decide +kernel
theorem dX11_init_101 : decode cX11_init 101 = .ok (.new 37, 3) := by decide +kernel
theorem dX11_init_104 : decode cX11_init 104 = .ok (.dup, 1) := by decide +kernel
theorem dX11_init_105 : decode cX11_init 105 = .ok (.aload_n 0, 1) := by decide +kernel
theorem dX11_init_106 : decode cX11_init 106 = .ok (.getfield 53, 3) := by decide +kernel
theorem dX11_init_109 : decode cX11_init 109 = .ok (.invokespecial 57, 3) := by decide +kernel
theorem dX11_init_112 : decode cX11_init 112 = .ok (.putfield 64, 3) := by decide +kernel
theorem dX11_init_115 : decode cX11_init 115 = .ok (.aload_n 0, 1) := by decide +kernel
theorem dX11_init_116 : decode cX11_init 116 = .ok (.new 67, 3) := by decide +kernel
theorem dX11_init_119 : decode cX11_init 119 = .ok (.dup, 1) := by decide +kernel
theorem dX11_init_120 : decode cX11_init 120 = .ok (.aload_n 0, 1) := by decide +kernel
theorem dX11_init_121 : decode cX11_init 121 = .ok (.getfield 53, 3) := by decide +kernel
theorem dX11_init_124 : decode cX11_init 124 = .ok (.invokespecial 69, 3) := by decide +kernel
theorem dX11_init_127 : decode cX11_init 127 = .ok (.putfield 70, 3) := by decide +kernel
theorem dX11_init_130 : decode cX11_init 130 = .ok (.aload_n 0, 1) := by decide +kernel
theorem dX11_init_131 : decode cX11_init 131 = .ok (.new 74, 3) := by decide +kernel
theorem dX11_init_134 : decode cX11_init 134 = .ok (.dup, 1) := by decide +kernel
theorem dX11_init_135 : decode cX11_init 135 = .ok (.aload_n 0, 1) := by decide +kernel
theorem dX11_init_136 : decode cX11_init 136 = .ok (.getfield 60, 3) := by decide +kernel
theorem dX11_init_139 : decode cX11_init 139 = .ok (.aload_n 0, 1) := by decide +kernel
theorem dX11_init_140 : decode cX11_init 140 = .ok (.getfield 64, 3) := by decide +kernel
theorem dX11_init_143 : decode cX11_init 143 = .ok (.invokespecial 76, 3) := by decide +kernel
theorem dX11_init_146 : decode cX11_init 146 = .ok (.putfield 79, 3) := by decide +kernel
theorem dX11_init_149 : decode cX11_init 149 = .ok (.aload_n 0, 1) := by decide +kernel
theorem dX11_init_150 : decode cX11_init 150 = .ok (.new 83, 3) := by decide +kernel
theorem dX11_init_153 : decode cX11_init 153 = .ok (.dup, 1) := by decide +kernel
theorem dX11_init_154 : decode cX11_init 154 = .ok (.aload_n 0, 1) := by decide +kernel
theorem dX11_init_155 : decode cX11_init 155 = .ok (.getfield 60, 3) := by decide +kernel
theorem dX11_init_158 : decode cX11_init 158 = .ok (.invokespecial 85, 3) := by decide +kernel
theorem dX11_init_161 : decode cX11_init 161 = .ok (.putfield 88, 3) := by decide +kernel
theorem dX11_init_164 : decode cX11_init 164 = .ok (.aload_n 0, 1) := by decide +kernel
theorem dX11_init_165 : decode cX11_init 165 = .ok (.new 92, 3) := by decide +kernel
theorem dX11_init_168 : decode cX11_init 168 = .ok (.dup, 1) := by decide +kernel
theorem dX11_init_169 : decode cX11_init 169 = .ok (.aload_n 0, 1) := by decide +kernel
theorem dX11_init_170 : decode cX11_init 170 = .ok (.getfield 60, 3) := by decide +kernel
theorem dX11_init_173 : decode cX11_init 173 = .ok (.aload_n 0, 1) := by decide +kernel
theorem dX11_init_174 : decode cX11_init 174 = .ok (.getfield 64, 3) := by decide +kernel
theorem dX11_init_177 : decode cX11_init 177 = .ok (.invokespecial 94, 3) := by decide +kernel
theorem dX11_init_180 : decode cX11_init 180 = .ok (.putfield 95, 3) := by decide +kernel
theorem dX11_init_183 : decode cX11_init 183 = .ok (.aload_n 0, 1) := by decide +kernel
theorem dX11_init_184 : decode cX11_init 184 = .ok (.new 99, 3) := by decide +kernel
theorem dX11_init_187 : decode cX11_init 187 = .ok (.dup, 1) := by decide +kernel
theorem dX11_init_188 : decode cX11_init 188 = .ok (.aload_n 0, 1) := by decide +kernel
theorem dX11_init_189 : decode cX11_init 189 = .ok (.getfield 53, 3) := by decide +kernel
theorem dX11_init_192 : decode cX11_init 192 = .ok (.invokespecial 101, 3) := by decide +kernel
theorem dX11_init_195 : decode cX11_init 195 = .ok (.putfield 102, 3) := by decide +kernel
theorem dX11_init_198 : decode cX11_init 198 = .ok (.aload_n 0, 1) := by decide +kernel
theorem dX11_init_199 : decode cX11_init 199 = .ok (.new 106, 3) := by decide +kernel
theorem dX11_init_202 : decode cX11_init 202 = .ok (.dup, 1) := by decide +kernel
theorem dX11_init_203 : decode cX11_init 203 = .ok (.aload_n 0, 1) := by decide +kernel
theorem dX11_init_204 : decode cX11_init 204 = .ok (.getfield 60, 3) := by decide +kernel
theorem dX11_init_207 : decode cX11_init 207 = .ok (.invokespecial 108, 3) := by decide +kernel
theorem dX11_init_210 : decode cX11_init 210 = .ok (.putfield 109, 3) := by decide +kernel
theorem dX11_init_213 : decode cX11_init 213 = .ok (.iconst 0, 1) := by decide +kernel
theorem dX11_init_214 : decode cX11_init 214 = .ok (.istore_n 1, 1) := by decide +kernel
theorem dX11_init_215 : decode cX11_init 215 = .ok (.iload_n 1, 1) := by decide +kernel
theorem dX11_init_216 : decode cX11_init 216 = .ok (.iconst 2, 1) := by decide +kernel
theorem dX11_init_217 : decode cX11_init 217 = .ok (.if_icmp .ge 41, 3) := by decide +kernel
theorem dX11_init_220 : decode cX11_init 220 = .ok (.aload_n 0, 1) := by decide +kernel
theorem dX11_init_221 : decode cX11_init 221 = .ok (.getfield 33, 3) := by decide +kernel
theorem dX11_init_224 : decode cX11_init 224 = .ok (.iload_n 1, 1) := by decide +kernel
theorem dX11_init_225 : decode cX11_init 225 = .ok (.new 31, 3) := by decide +kernel
theorem dX11_init_228 : decode cX11_init 228 = .ok (.dup, 1) := by decide +kernel
theorem dX11_init_229 : decode cX11_init 229 = .ok (.invokespecial 52, 3) := by decide +kernel
theorem dX11_init_232 : decode cX11_init 232 = .ok (.aastore, 1) := by decide +kernel
theorem dX11_init_233 : decode cX11_init 233 = .ok (.aload_n 0, 1) := by decide +kernel
theorem dX11_init_234 : decode cX11_init 234 = .ok (.getfield 39, 3) := by decide +kernel
theorem dX11_init_237 : decode cX11_init 237 = .ok (.iload_n 1, 1) := by decide +kernel
theorem dX11_init_238 : decode cX11_init 238 = .ok (.new 37, 3) := by decide +kernel
theorem dX11_init_241 : decode cX11_init 241 = .ok (.dup, 1) := by decide +kernel
theorem dX11_init_242 : decode cX11_init 242 = .ok (.aload_n 0, 1) := by decide +kernel
theorem dX11_init_243 : decode cX11_init 243 = .ok (.getfield 33, 3) := by decide +kernel
theorem dX11_init_246 : decode cX11_init 246 = .ok (.iload_n 1, 1) := by decide +kernel
theorem dX11_init_247 : decode cX11_init 247 = .ok (.aaload, 1) := by decide +kernel
theorem dX11_init_248 : decode cX11_init 248 = .ok (.invokespecial 57, 3) := by decide +kernel
theorem dX11_init_251 : decode cX11_init 251 = .ok (.aastore, 1) := by decide +kernel
theorem dX11_init_252 : decode cX11_init 252 = .ok (.iinc 1 1, 3) := by decide +kernel
theorem dX11_init_255 : decode cX11_init 255 = .ok (.goto (-40), 3) := by decide +kernel
theorem dX11_init_258 : decode cX11_init 258 = .ok (.return_, 1) := by decide +kernel
theorem dX11_feed_0 : decode cX11_feed 0 = .ok (.aload_n 0, 1) := by decide +kernel
theorem dX11_feed_1 : decode cX11_feed 1 = .ok (.getfield 13, 3) := by decide +kernel
theorem dX11_feed_4 : decode cX11_feed 4 = .ok (.bipush 20, 2) := by decide +kernel
theorem dX11_feed_6 : decode cX11_feed 6 = .ok (.iadd, 1) := by decide +kernel
theorem dX11_feed_7 : decode cX11_feed 7 = .ok (.sipush 1240, 3) := by decide +kernel
theorem dX11_feed_10 : decode cX11_feed 10 = .ok (.if_icmp .le 5, 3) := by decide +kernel
theorem dX11_feed_13 : decode cX11_feed 13 = .ok (.iconst (-1), 1) := by decide +kernel
theorem dX11_feed_14 : decode cX11_feed 14 = .ok (.ireturn, 1) := by decide +kernel
theorem dX11_feed_15 : decode cX11_feed 15 = .ok (.aload_n 0, 1) := by decide +kernel
theorem dX11_feed_16 : decode cX11_feed 16 = .ok (.iload_n 1, 1) := by decide +kernel
theorem dX11_feed_17 : decode cX11_feed 17 = .ok (.invokevirtual 113, 3) := by decide +kernel
theorem dX11_feed_20 : decode cX11_feed 20 = .ok (.aload_n 0, 1) := by decide +kernel
theorem dX11_feed_21 : decode cX11_feed 21 = .ok (.iload_n 2, 1) := by decide +kernel
theorem dX11_feed_22 : decode cX11_feed 22 = .ok (.invokevirtual 113, 3) := by decide +kernel
theorem dX11_feed_25 : decode cX11_feed 25 = .ok (.aload_n 0, 1) := by decide +kernel
theorem dX11_feed_26 : decode cX11_feed 26 = .ok (.iload_n 3, 1) := by decide +kernel
theorem dX11_feed_27 : decode cX11_feed 27 = .ok (.invokevirtual 113, 3) := by decide +kernel
theorem dX11_feed_30 : decode cX11_feed 30 = .ok (.aload_n 0, 1) := by decide +kernel
theorem dX11_feed_31 : decode cX11_feed 31 = .ok (.iload 4, 2) := by decide +kernel
theorem dX11_feed_33 : decode cX11_feed 33 = .ok (.invokevirtual 113, 3) := by decide +kernel
theorem dX11_feed_36 : decode cX11_feed 36 = .ok (.aload_n 0, 1) := by decide +kernel
theorem dX11_feed_37 : decode cX11_feed 37 = .ok (.iload 5, 2) := by decide +kernel
theorem dX11_feed_39 : decode cX11_feed 39 = .ok (.invokevirtual 113, 3) := by decide +kernel
theorem dX11_feed_42 : decode cX11_feed 42 = .ok (.aload_n 0, 1) := by decide +kernel
theorem dX11_feed_43 : decode cX11_feed 43 = .ok (.getfield 13, 3) := by decide +kernel
theorem dX11_feed_46 : decode cX11_feed 46 = .ok (.ireturn, 1) := by decide +kernel
theorem dX11_end_0 : decode cX11_end 0 = .ok (.iload_n 1, 1) := by decide +kernel
theorem dX11_end_1 : decode cX11_end 1 = .ok (.ifCond .lt 11, 3) := by decide +kernel
theorem dX11_end_4 : decode cX11_end 4 = .ok (.iload_n 1, 1) := by decide +kernel
theorem dX11_end_5 : decode cX11_end 5 = .ok (.aload_n 0, 1) := by decide +kernel
theorem dX11_end_6 : decode cX11_end 6 = .ok (.getfield 13, 3) := by decide +kernel
theorem dX11_end_9 : decode cX11_end 9 = .ok (.if_icmp .le 5, 3) := by decide +kernel
theorem dX11_end_12 : decode cX11_end 12 = .ok (.iconst 0, 1) := by decide +kernel
theorem dX11_end_13 : decode cX11_end 13 = .ok (.ireturn, 1) := by decide +kernel
theorem dX11_end_14 : decode cX11_end 14 = .ok (.aload_n 0, 1) := by decide +kernel
theorem dX11_end_15 : decode cX11_end 15 = .ok (.iload_n 1, 1) := by decide +kernel
theorem dX11_end_16 : decode cX11_end 16 = .ok (.putfield 13, 3) := by decide +kernel
theorem dX11_end_19 : decode cX11_end 19 = .ok (.iconst 1, 1) := by decide +kernel
theorem dX11_end_20 : decode cX11_end 20 = .ok (.ireturn, 1) := by decide +kernel
theorem dX11_ring_0 : decode cX11_ring 0 = .ok (.aload_n 0, 1) := by decide +kernel
theorem dX11_ring_1 : decode cX11_ring 1 = .ok (.getfield 48, 3) := by decide +kernel
theorem dX11_ring_4 : decode cX11_ring 4 = .ok (.aload_n 0, 1) := by decide +kernel
theorem dX11_ring_5 : decode cX11_ring 5 = .ok (.getfield 13, 3) := by decide +kernel
theorem dX11_ring_8 : decode cX11_ring 8 = .ok (.invokevirtual 117, 3) := by decide +kernel
theorem dX11_ring_11 : decode cX11_ring 11 = .ok (.istore_n 1, 1) := by decide +kernel
theorem dX11_ring_12 : decode cX11_ring 12 = .ok (.aload_n 0, 1) := by decide +kernel
theorem dX11_ring_13 : decode cX11_ring 13 = .ok (.iconst 0, 1) := by decide +kernel
theorem dX11_ring_14 : decode cX11_ring 14 = .ok (.putfield 13, 3) := by decide +kernel
theorem dX11_ring_17 : decode cX11_ring 17 = .ok (.aload_n 0, 1) := by decide +kernel
theorem dX11_ring_18 : decode cX11_ring 18 = .ok (.aload_n 0, 1) := by decide +kernel
theorem dX11_ring_19 : decode cX11_ring 19 = .ok (.getfield 48, 3) := by decide +kernel
theorem dX11_ring_22 : decode cX11_ring 22 = .ok (.getfield 121, 3) := by decide +kernel
theorem dX11_ring_25 : decode cX11_ring 25 = .ok (.putfield 17, 3) := by decide +kernel
theorem dX11_ring_28 : decode cX11_ring 28 = .ok (.iload_n 1, 1) := by decide +kernel
theorem dX11_ring_29 : decode cX11_ring 29 = .ok (.ifCond .lt 24, 3) := by decide +kernel
theorem dX11_ring_32 : decode cX11_ring 32 = .ok (.aload_n 0, 1) := by decide +kernel
theorem dX11_ring_33 : decode cX11_ring 33 = .ok (.getfield 53, 3) := by decide +kernel
theorem dX11_ring_36 : decode cX11_ring 36 = .ok (.aload_n 0, 1) := by decide +kernel
theorem dX11_ring_37 : decode cX11_ring 37 = .ok (.getfield 48, 3) := by decide +kernel
theorem dX11_ring_40 : decode cX11_ring 40 = .ok (.getfield 122, 3) := by decide +kernel
theorem dX11_ring_43 : decode cX11_ring 43 = .ok (.invokevirtual 125, 3) := by decide +kernel
theorem dX11_ring_46 : decode cX11_ring 46 = .ok (.aload_n 0, 1) := by decide +kernel
theorem dX11_ring_47 : decode cX11_ring 47 = .ok (.getfield 60, 3) := by decide +kernel
theorem dX11_ring_50 : decode cX11_ring 50 = .ok (.invokevirtual 128, 3) := by decide +kernel
theorem dX11_ring_53 : decode cX11_ring 53 = .ok (.iload_n 1, 1) := by decide +kernel
theorem dX11_ring_54 : decode cX11_ring 54 = .ok (.ireturn, 1) := by decide +kernel
theorem dX11_fault_0 : decode cX11_fault 0 = .ok (.aload_n 0, 1) := by decide +kernel
theorem dX11_fault_1 : decode cX11_fault 1 = .ok (.getfield 17, 3) := by decide +kernel
theorem dX11_fault_4 : decode cX11_fault 4 = .ok (.ireturn, 1) := by decide +kernel
theorem dX11_thing_0 : decode cX11_thing 0 = .ok (.aload_n 0, 1) := by decide +kernel
theorem dX11_thing_1 : decode cX11_thing 1 = .ok (.getfield 53, 3) := by decide +kernel
theorem dX11_thing_4 : decode cX11_thing 4 = .ok (.iload_n 1, 1) := by decide +kernel
theorem dX11_thing_5 : decode cX11_thing 5 = .ok (.invokevirtual 131, 3) := by decide +kernel
theorem dX11_thing_8 : decode cX11_thing 8 = .ok (.ifCond .eq 13, 3) := by decide +kernel
theorem dX11_thing_11 : decode cX11_thing 11 = .ok (.iload_n 2, 1) := by decide +kernel
theorem dX11_thing_12 : decode cX11_thing 12 = .ok (.ifCond .lt 9, 3) := by decide +kernel
theorem dX11_thing_15 : decode cX11_thing 15 = .ok (.iload_n 2, 1) := by decide +kernel
theorem dX11_thing_16 : decode cX11_thing 16 = .ok (.bipush 14, 2) := by decide +kernel
theorem dX11_thing_18 : decode cX11_thing 18 = .ok (.if_icmp .lt 11, 3) := by decide +kernel
theorem dX11_thing_21 : decode cX11_thing 21 = .ok (.new 135, 3) := by decide +kernel
theorem dX11_thing_24 : decode cX11_thing 24 = .ok (.dup, 1) := by decide +kernel
theorem dX11_thing_25 : decode cX11_thing 25 = .ok (.invokespecial 137, 3) := by decide +kernel
theorem dX11_thing_28 : decode cX11_thing 28 = .ok (.athrow, 1) := by decide +kernel
theorem dX11_thing_29 : decode cX11_thing 29 = .ok (.aload_n 0, 1) := by decide +kernel
theorem dX11_thing_30 : decode cX11_thing 30 = .ok (.getfield 53, 3) := by decide +kernel
theorem dX11_thing_33 : decode cX11_thing 33 = .ok (.iload_n 1, 1) := by decide +kernel
theorem dX11_thing_34 : decode cX11_thing 34 = .ok (.iload_n 2, 1) := by decide +kernel
theorem dX11_thing_35 : decode cX11_thing 35 = .ok (.invokevirtual 138, 3) := by decide +kernel
theorem dX11_thing_38 : decode cX11_thing 38 = .ok (.ireturn, 1) := by decide +kernel
theorem dX11_ground_0 : decode cX11_ground 0 = .ok (.aload_n 0, 1) := by decide +kernel
theorem dX11_ground_1 : decode cX11_ground 1 = .ok (.getfield 53, 3) := by decide +kernel
theorem dX11_ground_4 : decode cX11_ground 4 = .ok (.iload_n 1, 1) := by decide +kernel
theorem dX11_ground_5 : decode cX11_ground 5 = .ok (.invokevirtual 131, 3) := by decide +kernel
theorem dX11_ground_8 : decode cX11_ground 8 = .ok (.ifCond .eq 15, 3) := by decide +kernel
theorem dX11_ground_11 : decode cX11_ground 11 = .ok (.aload_n 0, 1) := by decide +kernel
theorem dX11_ground_12 : decode cX11_ground 12 = .ok (.getfield 53, 3) := by decide +kernel
theorem dX11_ground_15 : decode cX11_ground 15 = .ok (.getfield 142, 3) := by decide +kernel
theorem dX11_ground_18 : decode cX11_ground 18 = .ok (.iload_n 1, 1) := by decide +kernel
theorem dX11_ground_19 : decode cX11_ground 19 = .ok (.laload, 1) := by decide +kernel
theorem dX11_ground_20 : decode cX11_ground 20 = .ok (.goto 4, 3) := by decide +kernel
theorem dX11_ground_23 : decode cX11_ground 23 = .ok (.lconst 0, 1) := by decide +kernel
theorem dX11_ground_24 : decode cX11_ground 24 = .ok (.lreturn, 1) := by decide +kernel
theorem dX11_place_0 : decode cX11_place 0 = .ok (.iload_n 1, 1) := by decide +kernel
theorem dX11_place_1 : decode cX11_place 1 = .ok (.ifCond .lt 26, 3) := by decide +kernel
theorem dX11_place_4 : decode cX11_place 4 = .ok (.iload_n 1, 1) := by decide +kernel
theorem dX11_place_5 : decode cX11_place 5 = .ok (.aload_n 0, 1) := by decide +kernel
theorem dX11_place_6 : decode cX11_place 6 = .ok (.getfield 53, 3) := by decide +kernel
theorem dX11_place_9 : decode cX11_place 9 = .ok (.getfield 146, 3) := by decide +kernel
theorem dX11_place_12 : decode cX11_place 12 = .ok (.if_icmp .ge 15, 3) := by decide +kernel
theorem dX11_place_15 : decode cX11_place 15 = .ok (.aload_n 0, 1) := by decide +kernel
theorem dX11_place_16 : decode cX11_place 16 = .ok (.getfield 53, 3) := by decide +kernel
theorem dX11_place_19 : decode cX11_place 19 = .ok (.getfield 149, 3) := by decide +kernel
theorem dX11_place_22 : decode cX11_place 22 = .ok (.iload_n 1, 1) := by decide +kernel
theorem dX11_place_23 : decode cX11_place 23 = .ok (.iaload, 1) := by decide +kernel
theorem dX11_place_24 : decode cX11_place 24 = .ok (.goto 4, 3) := by decide +kernel
theorem dX11_place_27 : decode cX11_place 27 = .ok (.iconst (-1), 1) := by decide +kernel
theorem dX11_place_28 : decode cX11_place 28 = .ok (.ireturn, 1) := by decide +kernel
theorem dX11_stand_0 : decode cX11_stand 0 = .ok (.aload_n 0, 1) := by decide +kernel
theorem dX11_stand_1 : decode cX11_stand 1 = .ok (.getfield 53, 3) := by decide +kernel
theorem dX11_stand_4 : decode cX11_stand 4 = .ok (.iload_n 1, 1) := by decide +kernel
theorem dX11_stand_5 : decode cX11_stand 5 = .ok (.invokevirtual 131, 3) := by decide +kernel
theorem dX11_stand_8 : decode cX11_stand 8 = .ok (.ifCond .eq 17, 3) := by decide +kernel
theorem dX11_stand_11 : decode cX11_stand 11 = .ok (.iload_n 2, 1) := by decide +kernel
theorem dX11_stand_12 : decode cX11_stand 12 = .ok (.invokestatic 152, 3) := by decide +kernel
theorem dX11_stand_15 : decode cX11_stand 15 = .ok (.ifCond .eq 10, 3) := by decide +kernel
theorem dX11_stand_18 : decode cX11_stand 18 = .ok (.iload_n 3, 1) := by decide +kernel
theorem dX11_stand_19 : decode cX11_stand 19 = .ok (.invokestatic 155, 3) := by decide +kernel
theorem dX11_stand_22 : decode cX11_stand 22 = .ok (.ifCond .ne 5, 3) := by decide +kernel
theorem dX11_stand_25 : decode cX11_stand 25 = .ok (.iconst 0, 1) := by decide +kernel
theorem dX11_stand_26 : decode cX11_stand 26 = .ok (.ireturn, 1) := by decide +kernel
theorem dX11_stand_27 : decode cX11_stand 27 = .ok (.aload_n 0, 1) := by decide +kernel
theorem dX11_stand_28 : decode cX11_stand 28 = .ok (.getfield 60, 3) := by decide +kernel
theorem dX11_stand_31 : decode cX11_stand 31 = .ok (.iload_n 1, 1) := by decide +kernel
theorem dX11_stand_32 : decode cX11_stand 32 = .ok (.invokevirtual 158, 3) := by decide +kernel
theorem dX11_stand_35 : decode cX11_stand 35 = .ok (.ifCond .eq 11, 3) := by decide +kernel
theorem dX11_stand_38 : decode cX11_stand 38 = .ok (.aload_n 0, 1) := by decide +kernel
theorem dX11_stand_39 : decode cX11_stand 39 = .ok (.getfield 60, 3) := by decide +kernel
theorem dX11_stand_42 : decode cX11_stand 42 = .ok (.iload_n 1, 1) := by decide +kernel
theorem dX11_stand_43 : decode cX11_stand 43 = .ok (.invokevirtual 161, 3) := by decide +kernel
theorem dX11_stand_46 : decode cX11_stand 46 = .ok (.aload_n 0, 1) := by decide +kernel
theorem dX11_stand_47 : decode cX11_stand 47 = .ok (.getfield 60, 3) := by decide +kernel
theorem dX11_stand_50 : decode cX11_stand 50 = .ok (.iload_n 1, 1) := by decide +kernel
theorem dX11_stand_51 : decode cX11_stand 51 = .ok (.iload_n 2, 1) := by decide +kernel
theorem dX11_stand_52 : decode cX11_stand 52 = .ok (.iload_n 3, 1) := by decide +kernel
theorem dX11_stand_53 : decode cX11_stand 53 = .ok (.invokevirtual 164, 3) := by decide +kernel
theorem dX11_stand_56 : decode cX11_stand 56 = .ok (.iconst 1, 1) := by decide +kernel
theorem dX11_stand_57 : decode cX11_stand 57 = .ok (.ireturn, 1) := by decide +kernel
theorem dX11_lift_0 : decode cX11_lift 0 = .ok (.aload_n 0, 1) := by decide +kernel
theorem dX11_lift_1 : decode cX11_lift 1 = .ok (.iload_n 1, 1) := by decide +kernel
theorem dX11_lift_2 : decode cX11_lift 2 = .ok (.invokevirtual 168, 3) := by decide +kernel
theorem dX11_lift_5 : decode cX11_lift 5 = .ok (.ifCond .ne 5, 3) := by decide +kernel
theorem dX11_lift_8 : decode cX11_lift 8 = .ok (.iconst 0, 1) := by decide +kernel
theorem dX11_lift_9 : decode cX11_lift 9 = .ok (.ireturn, 1) := by decide +kernel
theorem dX11_lift_10 : decode cX11_lift 10 = .ok (.aload_n 0, 1) := by decide +kernel
theorem dX11_lift_11 : decode cX11_lift 11 = .ok (.getfield 60, 3) := by decide +kernel
theorem dX11_lift_14 : decode cX11_lift 14 = .ok (.iload_n 1, 1) := by decide +kernel
theorem dX11_lift_15 : decode cX11_lift 15 = .ok (.invokevirtual 161, 3) := by decide +kernel
theorem dX11_lift_18 : decode cX11_lift 18 = .ok (.iconst 1, 1) := by decide +kernel
theorem dX11_lift_19 : decode cX11_lift 19 = .ok (.ireturn, 1) := by decide +kernel
theorem dX11_stands_0 : decode cX11_stands 0 = .ok (.aload_n 0, 1) := by decide +kernel
theorem dX11_stands_1 : decode cX11_stands 1 = .ok (.iload_n 1, 1) := by decide +kernel
theorem dX11_stands_2 : decode cX11_stands 2 = .ok (.invokevirtual 168, 3) := by decide +kernel
theorem dX11_stands_5 : decode cX11_stands 5 = .ok (.ifCond .ne 5, 3) := by decide +kernel
theorem dX11_stands_8 : decode cX11_stands 8 = .ok (.iconst (-1), 1) := by decide +kernel
theorem dX11_stands_9 : decode cX11_stands 9 = .ok (.ireturn, 1) := by decide +kernel
theorem dX11_stands_10 : decode cX11_stands 10 = .ok (.iload_n 2, 1) := by decide +kernel
theorem dX11_stands_11 : decode cX11_stands 11 = .ok (.ifCond .ne 13, 3) := by decide +kernel
theorem dX11_stands_14 : decode cX11_stands 14 = .ok (.aload_n 0, 1) := by decide +kernel
theorem dX11_stands_15 : decode cX11_stands 15 = .ok (.getfield 60, 3) := by decide +kernel
theorem dX11_stands_18 : decode cX11_stands 18 = .ok (.getfield 171, 3) := by decide +kernel
theorem dX11_stands_21 : decode cX11_stands 21 = .ok (.iload_n 1, 1) := by decide +kernel
theorem dX11_stands_22 : decode cX11_stands 22 = .ok (.iaload, 1) := by decide +kernel
theorem dX11_stands_23 : decode cX11_stands 23 = .ok (.ireturn, 1) := by decide +kernel
theorem dX11_stands_24 : decode cX11_stands 24 = .ok (.iload_n 2, 1) := by decide +kernel
theorem dX11_stands_25 : decode cX11_stands 25 = .ok (.iconst 1, 1) := by decide +kernel
theorem dX11_stands_26 : decode cX11_stands 26 = .ok (.if_icmp .ne 15, 3) := by decide +kernel
theorem dX11_stands_29 : decode cX11_stands 29 = .ok (.aload_n 0, 1) := by decide +kernel
theorem dX11_stands_30 : decode cX11_stands 30 = .ok (.getfield 60, 3) := by decide +kernel
theorem dX11_stands_33 : decode cX11_stands 33 = .ok (.getfield 174, 3) := by decide +kernel
theorem dX11_stands_36 : decode cX11_stands 36 = .ok (.iload_n 1, 1) := by decide +kernel
theorem dX11_stands_37 : decode cX11_stands 37 = .ok (.iaload, 1) := by decide +kernel
theorem dX11_stands_38 : decode cX11_stands 38 = .ok (.goto 4, 3) := by decide +kernel
theorem dX11_stands_41 : decode cX11_stands 41 = .ok (.iconst (-1), 1) := by decide +kernel
theorem dX11_stands_42 : decode cX11_stands 42 = .ok (.ireturn, 1) := by decide +kernel
theorem dX11_reach_0 : decode cX11_reach 0 = .ok (.iload_n 1, 1) := by decide +kernel
theorem dX11_reach_1 : decode cX11_reach 1 = .ok (.iload_n 2, 1) := by decide +kernel
theorem dX11_reach_2 : decode cX11_reach 2 = .ok (.if_icmp .eq 19, 3) := by decide +kernel
theorem dX11_reach_5 : decode cX11_reach 5 = .ok (.aload_n 0, 1) := by decide +kernel
theorem dX11_reach_6 : decode cX11_reach 6 = .ok (.iload_n 1, 1) := by decide +kernel
theorem dX11_reach_7 : decode cX11_reach 7 = .ok (.invokevirtual 168, 3) := by decide +kernel
theorem dX11_reach_10 : decode cX11_reach 10 = .ok (.ifCond .eq 11, 3) := by decide +kernel
theorem dX11_reach_13 : decode cX11_reach 13 = .ok (.aload_n 0, 1) := by decide +kernel
theorem dX11_reach_14 : decode cX11_reach 14 = .ok (.iload_n 2, 1) := by decide +kernel
theorem dX11_reach_15 : decode cX11_reach 15 = .ok (.invokevirtual 168, 3) := by decide +kernel
theorem dX11_reach_18 : decode cX11_reach 18 = .ok (.ifCond .ne 5, 3) := by decide +kernel
theorem dX11_reach_21 : decode cX11_reach 21 = .ok (.iconst (-1), 1) := by decide +kernel
theorem dX11_reach_22 : decode cX11_reach 22 = .ok (.ireturn, 1) := by decide +kernel
theorem dX11_reach_23 : decode cX11_reach 23 = .ok (.aload_n 0, 1) := by decide +kernel
theorem dX11_reach_24 : decode cX11_reach 24 = .ok (.getfield 60, 3) := by decide +kernel
theorem dX11_reach_27 : decode cX11_reach 27 = .ok (.iload_n 1, 1) := by decide +kernel
theorem dX11_reach_28 : decode cX11_reach 28 = .ok (.iload_n 2, 1) := by decide +kernel
theorem dX11_reach_29 : decode cX11_reach 29 = .ok (.invokevirtual 177, 3) := by decide +kernel
theorem dX11_reach_32 : decode cX11_reach 32 = .ok (.ifCond .eq 15, 3) := by decide +kernel
theorem dX11_reach_35 : decode cX11_reach 35 = .ok (.aload_n 0, 1) := by decide +kernel
theorem dX11_reach_36 : decode cX11_reach 36 = .ok (.getfield 60, 3) := by decide +kernel
theorem dX11_reach_39 : decode cX11_reach 39 = .ok (.iload_n 1, 1) := by decide +kernel
theorem dX11_reach_40 : decode cX11_reach 40 = .ok (.iload_n 2, 1) := by decide +kernel
theorem dX11_reach_41 : decode cX11_reach 41 = .ok (.invokevirtual 181, 3) := by decide +kernel
theorem dX11_reach_44 : decode cX11_reach 44 = .ok (.goto 4, 3) := by decide +kernel
theorem dX11_reach_47 : decode cX11_reach 47 = .ok (.iconst 0, 1) := by decide +kernel
theorem dX11_reach_48 : decode cX11_reach 48 = .ok (.ireturn, 1) := by decide +kernel
theorem dX11_heard_0 : decode cX11_heard 0 = .ok (.aload_n 0, 1) := by decide +kernel
theorem dX11_heard_1 : decode cX11_heard 1 = .ok (.iload_n 1, 1) := by decide +kernel
theorem dX11_heard_2 : decode cX11_heard 2 = .ok (.invokevirtual 168, 3) := by decide +kernel
theorem dX11_heard_5 : decode cX11_heard 5 = .ok (.ifCond .eq 15, 3) := by decide +kernel
theorem dX11_heard_8 : decode cX11_heard 8 = .ok (.aload_n 0, 1) := by decide +kernel
theorem dX11_heard_9 : decode cX11_heard 9 = .ok (.getfield 60, 3) := by decide +kernel
theorem dX11_heard_12 : decode cX11_heard 12 = .ok (.getfield 184, 3) := by decide +kernel
theorem dX11_heard_15 : decode cX11_heard 15 = .ok (.iload_n 1, 1) := by decide +kernel
theorem dX11_heard_16 : decode cX11_heard 16 = .ok (.iaload, 1) := by decide +kernel
theorem dX11_heard_17 : decode cX11_heard 17 = .ok (.goto 4, 3) := by decide +kernel
theorem dX11_heard_20 : decode cX11_heard 20 = .ok (.iconst (-1), 1) := by decide +kernel
theorem dX11_heard_21 : decode cX11_heard 21 = .ok (.ireturn, 1) := by decide +kernel
theorem dX11_wrong_0 : decode cX11_wrong 0 = .ok (.aload_n 0, 1) := by decide +kernel
theorem dX11_wrong_1 : decode cX11_wrong 1 = .ok (.getfield 53, 3) := by decide +kernel
theorem dX11_wrong_4 : decode cX11_wrong 4 = .ok (.iload_n 1, 1) := by decide +kernel
theorem dX11_wrong_5 : decode cX11_wrong 5 = .ok (.invokevirtual 131, 3) := by decide +kernel
theorem dX11_wrong_8 : decode cX11_wrong 8 = .ok (.ifCond .eq 25, 3) := by decide +kernel
theorem dX11_wrong_11 : decode cX11_wrong 11 = .ok (.aload_n 0, 1) := by decide +kernel
theorem dX11_wrong_12 : decode cX11_wrong 12 = .ok (.getfield 60, 3) := by decide +kernel
theorem dX11_wrong_15 : decode cX11_wrong 15 = .ok (.iload_n 1, 1) := by decide +kernel
theorem dX11_wrong_16 : decode cX11_wrong 16 = .ok (.invokevirtual 187, 3) := by decide +kernel
theorem dX11_wrong_19 : decode cX11_wrong 19 = .ok (.ifCond .eq 14, 3) := by decide +kernel
theorem dX11_wrong_22 : decode cX11_wrong 22 = .ok (.aload_n 0, 1) := by decide +kernel
theorem dX11_wrong_23 : decode cX11_wrong 23 = .ok (.getfield 60, 3) := by decide +kernel
theorem dX11_wrong_26 : decode cX11_wrong 26 = .ok (.iload_n 1, 1) := by decide +kernel
theorem dX11_wrong_27 : decode cX11_wrong 27 = .ok (.invokevirtual 190, 3) := by decide +kernel
theorem dX11_wrong_30 : decode cX11_wrong 30 = .ok (.goto 4, 3) := by decide +kernel
theorem dX11_wrong_33 : decode cX11_wrong 33 = .ok (.iconst (-1), 1) := by decide +kernel
theorem dX11_wrong_34 : decode cX11_wrong 34 = .ok (.ireturn, 1) := by decide +kernel
theorem dX11_judge_0 : decode cX11_judge 0 = .ok (.aload_n 0, 1) := by decide +kernel
theorem dX11_judge_1 : decode cX11_judge 1 = .ok (.getfield 60, 3) := by decide +kernel
theorem dX11_judge_4 : decode cX11_judge 4 = .ok (.invokevirtual 193, 3) := by decide +kernel
theorem dX11_judge_7 : decode cX11_judge 7 = .ok (.ireturn, 1) := by decide +kernel
theorem dX11_need_0 : decode cX11_need 0 = .ok (.iload_n 1, 1) := by decide +kernel
theorem dX11_need_1 : decode cX11_need 1 = .ok (.iload_n 2, 1) := by decide +kernel
theorem dX11_need_2 : decode cX11_need 2 = .ok (.if_icmp .eq 37, 3) := by decide +kernel
theorem dX11_need_5 : decode cX11_need 5 = .ok (.aload_n 0, 1) := by decide +kernel
theorem dX11_need_6 : decode cX11_need 6 = .ok (.getfield 53, 3) := by decide +kernel
theorem dX11_need_9 : decode cX11_need 9 = .ok (.iload_n 1, 1) := by decide +kernel
theorem dX11_need_10 : decode cX11_need 10 = .ok (.invokevirtual 131, 3) := by decide +kernel
theorem dX11_need_13 : decode cX11_need 13 = .ok (.ifCond .eq 26, 3) := by decide +kernel
theorem dX11_need_16 : decode cX11_need 16 = .ok (.aload_n 0, 1) := by decide +kernel
theorem dX11_need_17 : decode cX11_need 17 = .ok (.getfield 53, 3) := by decide +kernel
theorem dX11_need_20 : decode cX11_need 20 = .ok (.iload_n 2, 1) := by decide +kernel
theorem dX11_need_21 : decode cX11_need 21 = .ok (.invokevirtual 131, 3) := by decide +kernel
theorem dX11_need_24 : decode cX11_need 24 = .ok (.ifCond .eq 15, 3) := by decide +kernel
theorem dX11_need_27 : decode cX11_need 27 = .ok (.aload_n 0, 1) := by decide +kernel
theorem dX11_need_28 : decode cX11_need 28 = .ok (.getfield 53, 3) := by decide +kernel
theorem dX11_need_31 : decode cX11_need 31 = .ok (.iload_n 1, 1) := by decide +kernel
theorem dX11_need_32 : decode cX11_need 32 = .ok (.iload_n 2, 1) := by decide +kernel
theorem dX11_need_33 : decode cX11_need 33 = .ok (.invokevirtual 197, 3) := by decide +kernel
theorem dX11_need_36 : decode cX11_need 36 = .ok (.goto 4, 3) := by decide +kernel
theorem dX11_need_39 : decode cX11_need 39 = .ok (.iconst (-1), 1) := by decide +kernel
theorem dX11_need_40 : decode cX11_need 40 = .ok (.ireturn, 1) := by decide +kernel
theorem dX11_arc_0 : decode cX11_arc 0 = .ok (.aload_n 0, 1) := by decide +kernel
theorem dX11_arc_1 : decode cX11_arc 1 = .ok (.iconst 2, 1) := by decide +kernel
theorem dX11_arc_2 : decode cX11_arc 2 = .ok (.bipush 12, 2) := by decide +kernel
theorem dX11_arc_4 : decode cX11_arc 4 = .ok (.invokevirtual 200, 3) := by decide +kernel
theorem dX11_arc_7 : decode cX11_arc 7 = .ok (.ifCond .eq 21, 3) := by decide +kernel
theorem dX11_arc_10 : decode cX11_arc 10 = .ok (.aload_n 0, 1) := by decide +kernel
theorem dX11_arc_11 : decode cX11_arc 11 = .ok (.getfield 70, 3) := by decide +kernel
theorem dX11_arc_14 : decode cX11_arc 14 = .ok (.aload_n 0, 1) := by decide +kernel
theorem dX11_arc_15 : decode cX11_arc 15 = .ok (.getfield 20, 3) := by decide +kernel
theorem dX11_arc_18 : decode cX11_arc 18 = .ok (.aload_n 0, 1) := by decide +kernel
theorem dX11_arc_19 : decode cX11_arc 19 = .ok (.getfield 24, 3) := by decide +kernel
theorem dX11_arc_22 : decode cX11_arc 22 = .ok (.invokevirtual 203, 3) := by decide +kernel
theorem dX11_arc_25 : decode cX11_arc 25 = .ok (.goto 5, 3) := by decide +kernel
theorem dX11_arc_28 : decode cX11_arc 28 = .ok (.bipush (-2), 2) := by decide +kernel
theorem dX11_arc_30 : decode cX11_arc 30 = .ok (.ireturn, 1) := by decide +kernel
theorem dX11_shortest_0 : decode cX11_shortest 0 = .ok (.aload_n 0, 1) := by decide +kernel
theorem dX11_shortest_1 : decode cX11_shortest 1 = .ok (.iconst 2, 1) := by decide +kernel
theorem dX11_shortest_2 : decode cX11_shortest 2 = .ok (.bipush 7, 2) := by decide +kernel
theorem dX11_shortest_4 : decode cX11_shortest 4 = .ok (.invokevirtual 200, 3) := by decide +kernel
theorem dX11_shortest_7 : decode cX11_shortest 7 = .ok (.ifCond .eq 21, 3) := by decide +kernel
theorem dX11_shortest_10 : decode cX11_shortest 10 = .ok (.aload_n 0, 1) := by decide +kernel
theorem dX11_shortest_11 : decode cX11_shortest 11 = .ok (.getfield 70, 3) := by decide +kernel
theorem dX11_shortest_14 : decode cX11_shortest 14 = .ok (.aload_n 0, 1) := by decide +kernel
theorem dX11_shortest_15 : decode cX11_shortest 15 = .ok (.getfield 20, 3) := by decide +kernel
theorem dX11_shortest_18 : decode cX11_shortest 18 = .ok (.aload_n 0, 1) := by decide +kernel
theorem dX11_shortest_19 : decode cX11_shortest 19 = .ok (.getfield 24, 3) := by decide +kernel
theorem dX11_shortest_22 : decode cX11_shortest 22 = .ok (.invokevirtual 207, 3) := by decide +kernel
theorem dX11_shortest_25 : decode cX11_shortest 25 = .ok (.goto 5, 3) := by decide +kernel
theorem dX11_shortest_28 : decode cX11_shortest 28 = .ok (.bipush (-2), 2) := by decide +kernel
theorem dX11_shortest_30 : decode cX11_shortest 30 = .ok (.ireturn, 1) := by decide +kernel
theorem dX11_orderAt_0 : decode cX11_orderAt 0 = .ok (.iload_n 1, 1) := by decide +kernel
theorem dX11_orderAt_1 : decode cX11_orderAt 1 = .ok (.ifCond .lt 26, 3) := by decide +kernel
theorem dX11_orderAt_4 : decode cX11_orderAt 4 = .ok (.iload_n 1, 1) := by decide +kernel
theorem dX11_orderAt_5 : decode cX11_orderAt 5 = .ok (.aload_n 0, 1) := by decide +kernel
theorem dX11_orderAt_6 : decode cX11_orderAt 6 = .ok (.getfield 70, 3) := by decide +kernel
theorem dX11_orderAt_9 : decode cX11_orderAt 9 = .ok (.getfield 210, 3) := by decide +kernel
theorem dX11_orderAt_12 : decode cX11_orderAt 12 = .ok (.if_icmp .ge 15, 3) := by decide +kernel
theorem dX11_orderAt_15 : decode cX11_orderAt 15 = .ok (.aload_n 0, 1) := by decide +kernel
theorem dX11_orderAt_16 : decode cX11_orderAt 16 = .ok (.getfield 70, 3) := by decide +kernel
theorem dX11_orderAt_19 : decode cX11_orderAt 19 = .ok (.getfield 213, 3) := by decide +kernel
theorem dX11_orderAt_22 : decode cX11_orderAt 22 = .ok (.iload_n 1, 1) := by decide +kernel
theorem dX11_orderAt_23 : decode cX11_orderAt 23 = .ok (.iaload, 1) := by decide +kernel
theorem dX11_orderAt_24 : decode cX11_orderAt 24 = .ok (.goto 4, 3) := by decide +kernel
theorem dX11_orderAt_27 : decode cX11_orderAt 27 = .ok (.iconst (-1), 1) := by decide +kernel
theorem dX11_orderAt_28 : decode cX11_orderAt 28 = .ok (.ireturn, 1) := by decide +kernel
theorem dX11_find_0 : decode cX11_find 0 = .ok (.aload_n 0, 1) := by decide +kernel
theorem dX11_find_1 : decode cX11_find 1 = .ok (.invokevirtual 216, 3) := by decide +kernel
theorem dX11_find_4 : decode cX11_find 4 = .ok (.ifCond .ne 5, 3) := by decide +kernel
theorem dX11_find_7 : decode cX11_find 7 = .ok (.iconst (-1), 1) := by decide +kernel
theorem dX11_find_8 : decode cX11_find 8 = .ok (.ireturn, 1) := by decide +kernel
theorem dX11_find_9 : decode cX11_find 9 = .ok (.aload_n 0, 1) := by decide +kernel
theorem dX11_find_10 : decode cX11_find 10 = .ok (.getfield 79, 3) := by decide +kernel
theorem dX11_find_13 : decode cX11_find 13 = .ok (.aload_n 0, 1) := by decide +kernel
theorem dX11_find_14 : decode cX11_find 14 = .ok (.getfield 20, 3) := by decide +kernel
theorem dX11_find_17 : decode cX11_find 17 = .ok (.aload_n 0, 1) := by decide +kernel
theorem dX11_find_18 : decode cX11_find 18 = .ok (.getfield 24, 3) := by decide +kernel
theorem dX11_find_21 : decode cX11_find 21 = .ok (.invokevirtual 220, 3) := by decide +kernel
theorem dX11_find_24 : decode cX11_find 24 = .ok (.ifCond .eq 7, 3) := by decide +kernel
theorem dX11_find_27 : decode cX11_find 27 = .ok (.iconst 1, 1) := by decide +kernel
theorem dX11_find_28 : decode cX11_find 28 = .ok (.goto 4, 3) := by decide +kernel
theorem dX11_find_31 : decode cX11_find 31 = .ok (.iconst 0, 1) := by decide +kernel
theorem dX11_find_32 : decode cX11_find 32 = .ok (.ireturn, 1) := by decide +kernel
theorem dX11_ways_0 : decode cX11_ways 0 = .ok (.aload_n 0, 1) := by decide +kernel
theorem dX11_ways_1 : decode cX11_ways 1 = .ok (.invokevirtual 216, 3) := by decide +kernel
theorem dX11_ways_4 : decode cX11_ways 4 = .ok (.ifCond .eq 21, 3) := by decide +kernel
theorem dX11_ways_7 : decode cX11_ways 7 = .ok (.aload_n 0, 1) := by decide +kernel
theorem dX11_ways_8 : decode cX11_ways 8 = .ok (.getfield 79, 3) := by decide +kernel
theorem dX11_ways_11 : decode cX11_ways 11 = .ok (.aload_n 0, 1) := by decide +kernel
theorem dX11_ways_12 : decode cX11_ways 12 = .ok (.getfield 20, 3) := by decide +kernel
theorem dX11_ways_15 : decode cX11_ways 15 = .ok (.aload_n 0, 1) := by decide +kernel
theorem dX11_ways_16 : decode cX11_ways 16 = .ok (.getfield 24, 3) := by decide +kernel
theorem dX11_ways_19 : decode cX11_ways 19 = .ok (.invokevirtual 224, 3) := by decide +kernel
theorem dX11_ways_22 : decode cX11_ways 22 = .ok (.goto 4, 3) := by decide +kernel
theorem dX11_ways_25 : decode cX11_ways 25 = .ok (.iconst (-1), 1) := by decide +kernel
theorem dX11_ways_26 : decode cX11_ways 26 = .ok (.ireturn, 1) := by decide +kernel
theorem dX11_most_0 : decode cX11_most 0 = .ok (.aload_n 0, 1) := by decide +kernel
theorem dX11_most_1 : decode cX11_most 1 = .ok (.invokevirtual 216, 3) := by decide +kernel
theorem dX11_most_4 : decode cX11_most 4 = .ok (.ifCond .eq 21, 3) := by decide +kernel
theorem dX11_most_7 : decode cX11_most 7 = .ok (.aload_n 0, 1) := by decide +kernel
theorem dX11_most_8 : decode cX11_most 8 = .ok (.getfield 79, 3) := by decide +kernel
theorem dX11_most_11 : decode cX11_most 11 = .ok (.aload_n 0, 1) := by decide +kernel
theorem dX11_most_12 : decode cX11_most 12 = .ok (.getfield 20, 3) := by decide +kernel
theorem dX11_most_15 : decode cX11_most 15 = .ok (.aload_n 0, 1) := by decide +kernel
theorem dX11_most_16 : decode cX11_most 16 = .ok (.getfield 24, 3) := by decide +kernel
theorem dX11_most_19 : decode cX11_most 19 = .ok (.invokevirtual 227, 3) := by decide +kernel
theorem dX11_most_22 : decode cX11_most 22 = .ok (.goto 4, 3) := by decide +kernel
theorem dX11_most_25 : decode cX11_most 25 = .ok (.iconst (-1), 1) := by decide +kernel
theorem dX11_most_26 : decode cX11_most 26 = .ok (.ireturn, 1) := by decide +kernel
theorem dX11_fit_0 : decode cX11_fit 0 = .ok (.aload_n 0, 1) := by decide +kernel
theorem dX11_fit_1 : decode cX11_fit 1 = .ok (.getfield 88, 3) := by decide +kernel
theorem dX11_fit_4 : decode cX11_fit 4 = .ok (.invokevirtual 230, 3) := by decide +kernel
theorem dX11_fit_7 : decode cX11_fit 7 = .ok (.ireturn, 1) := by decide +kernel
theorem dX11_fitOf_0 : decode cX11_fitOf 0 = .ok (.iload_n 1, 1) := by decide +kernel
theorem dX11_fitOf_1 : decode cX11_fitOf 1 = .ok (.ifCond .lt 21, 3) := by decide +kernel
theorem dX11_fitOf_4 : decode cX11_fitOf 4 = .ok (.iload_n 1, 1) := by decide +kernel
theorem dX11_fitOf_5 : decode cX11_fitOf 5 = .ok (.bipush 16, 2) := by decide +kernel
theorem dX11_fitOf_7 : decode cX11_fitOf 7 = .ok (.if_icmp .ge 15, 3) := by decide +kernel
theorem dX11_fitOf_10 : decode cX11_fitOf 10 = .ok (.aload_n 0, 1) := by decide +kernel
theorem dX11_fitOf_11 : decode cX11_fitOf 11 = .ok (.getfield 88, 3) := by decide +kernel
theorem dX11_fitOf_14 : decode cX11_fitOf 14 = .ok (.getfield 233, 3) := by decide +kernel
theorem dX11_fitOf_17 : decode cX11_fitOf 17 = .ok (.iload_n 1, 1) := by decide +kernel
theorem dX11_fitOf_18 : decode cX11_fitOf 18 = .ok (.iaload, 1) := by decide +kernel
theorem dX11_fitOf_19 : decode cX11_fitOf 19 = .ok (.goto 4, 3) := by decide +kernel
theorem dX11_fitOf_22 : decode cX11_fitOf 22 = .ok (.iconst (-1), 1) := by decide +kernel
theorem dX11_fitOf_23 : decode cX11_fitOf 23 = .ok (.ireturn, 1) := by decide +kernel
theorem dX11_letIn_0 : decode cX11_letIn 0 = .ok (.aload_n 0, 1) := by decide +kernel
theorem dX11_letIn_1 : decode cX11_letIn 1 = .ok (.getfield 53, 3) := by decide +kernel
theorem dX11_letIn_4 : decode cX11_letIn 4 = .ok (.iload_n 1, 1) := by decide +kernel
theorem dX11_letIn_5 : decode cX11_letIn 5 = .ok (.invokevirtual 131, 3) := by decide +kernel
theorem dX11_letIn_8 : decode cX11_letIn 8 = .ok (.ifCond .eq 25, 3) := by decide +kernel
theorem dX11_letIn_11 : decode cX11_letIn 11 = .ok (.aload_n 0, 1) := by decide +kernel
theorem dX11_letIn_12 : decode cX11_letIn 12 = .ok (.getfield 60, 3) := by decide +kernel
theorem dX11_letIn_15 : decode cX11_letIn 15 = .ok (.iload_n 1, 1) := by decide +kernel
theorem dX11_letIn_16 : decode cX11_letIn 16 = .ok (.invokevirtual 158, 3) := by decide +kernel
theorem dX11_letIn_19 : decode cX11_letIn 19 = .ok (.ifCond .ne 14, 3) := by decide +kernel
theorem dX11_letIn_22 : decode cX11_letIn 22 = .ok (.aload_n 0, 1) := by decide +kernel
theorem dX11_letIn_23 : decode cX11_letIn 23 = .ok (.getfield 53, 3) := by decide +kernel
theorem dX11_letIn_26 : decode cX11_letIn 26 = .ok (.iload_n 1, 1) := by decide +kernel
theorem dX11_letIn_27 : decode cX11_letIn 27 = .ok (.invokevirtual 234, 3) := by decide +kernel
theorem dX11_letIn_30 : decode cX11_letIn 30 = .ok (.ifCond .eq 6, 3) := by decide +kernel
theorem dX11_letIn_33 : decode cX11_letIn 33 = .ok (.bipush (-2), 2) := by decide +kernel
theorem dX11_letIn_35 : decode cX11_letIn 35 = .ok (.ireturn, 1) := by decide +kernel
theorem dX11_letIn_36 : decode cX11_letIn 36 = .ok (.aload_n 0, 1) := by decide +kernel
theorem dX11_letIn_37 : decode cX11_letIn 37 = .ok (.getfield 79, 3) := by decide +kernel
theorem dX11_letIn_40 : decode cX11_letIn 40 = .ok (.iload_n 1, 1) := by decide +kernel
theorem dX11_letIn_41 : decode cX11_letIn 41 = .ok (.invokevirtual 237, 3) := by decide +kernel
theorem dX11_letIn_44 : decode cX11_letIn 44 = .ok (.ireturn, 1) := by decide +kernel
theorem dX11_narrow_0 : decode cX11_narrow 0 = .ok (.aload_n 0, 1) := by decide +kernel
theorem dX11_narrow_1 : decode cX11_narrow 1 = .ok (.getfield 95, 3) := by decide +kernel
theorem dX11_narrow_4 : decode cX11_narrow 4 = .ok (.invokevirtual 240, 3) := by decide +kernel
theorem dX11_narrow_7 : decode cX11_narrow 7 = .ok (.ireturn, 1) := by decide +kernel
theorem dX11_narrowCost_0 : decode cX11_narrowCost 0 = .ok (.aload_n 0, 1) := by decide +kernel
theorem dX11_narrowCost_1 : decode cX11_narrowCost 1 = .ok (.getfield 95, 3) := by decide +kernel
theorem dX11_narrowCost_4 : decode cX11_narrowCost 4 = .ok (.getfield 243, 3) := by decide +kernel
theorem dX11_narrowCost_7 : decode cX11_narrowCost 7 = .ok (.ireturn, 1) := by decide +kernel
theorem dX11_sell_0 : decode cX11_sell 0 = .ok (.iload_n 1, 1) := by decide +kernel
theorem dX11_sell_1 : decode cX11_sell 1 = .ok (.iload_n 2, 1) := by decide +kernel
theorem dX11_sell_2 : decode cX11_sell 2 = .ok (.if_icmp .eq 19, 3) := by decide +kernel
theorem dX11_sell_5 : decode cX11_sell 5 = .ok (.aload_n 0, 1) := by decide +kernel
theorem dX11_sell_6 : decode cX11_sell 6 = .ok (.iload_n 1, 1) := by decide +kernel
theorem dX11_sell_7 : decode cX11_sell 7 = .ok (.invokevirtual 168, 3) := by decide +kernel
theorem dX11_sell_10 : decode cX11_sell 10 = .ok (.ifCond .eq 11, 3) := by decide +kernel
theorem dX11_sell_13 : decode cX11_sell 13 = .ok (.aload_n 0, 1) := by decide +kernel
theorem dX11_sell_14 : decode cX11_sell 14 = .ok (.iload_n 2, 1) := by decide +kernel
theorem dX11_sell_15 : decode cX11_sell 15 = .ok (.invokevirtual 168, 3) := by decide +kernel
theorem dX11_sell_18 : decode cX11_sell 18 = .ok (.ifCond .ne 5, 3) := by decide +kernel
theorem dX11_sell_21 : decode cX11_sell 21 = .ok (.iconst (-1), 1) := by decide +kernel
theorem dX11_sell_22 : decode cX11_sell 22 = .ok (.ireturn, 1) := by decide +kernel
theorem dX11_sell_23 : decode cX11_sell 23 = .ok (.aload_n 0, 1) := by decide +kernel
theorem dX11_sell_24 : decode cX11_sell 24 = .ok (.getfield 64, 3) := by decide +kernel
theorem dX11_sell_27 : decode cX11_sell 27 = .ok (.aload_n 0, 1) := by decide +kernel
theorem dX11_sell_28 : decode cX11_sell 28 = .ok (.getfield 60, 3) := by decide +kernel
theorem dX11_sell_31 : decode cX11_sell 31 = .ok (.invokevirtual 246, 3) := by decide +kernel
theorem dX11_sell_34 : decode cX11_sell 34 = .ok (.aload_n 0, 1) := by decide +kernel
theorem dX11_sell_35 : decode cX11_sell 35 = .ok (.getfield 64, 3) := by decide +kernel
theorem dX11_sell_38 : decode cX11_sell 38 = .ok (.iload_n 1, 1) := by decide +kernel
theorem dX11_sell_39 : decode cX11_sell 39 = .ok (.iload_n 2, 1) := by decide +kernel
theorem dX11_sell_40 : decode cX11_sell 40 = .ok (.invokevirtual 248, 3) := by decide +kernel
theorem dX11_sell_43 : decode cX11_sell 43 = .ok (.aload_n 0, 1) := by decide +kernel
theorem dX11_sell_44 : decode cX11_sell 44 = .ok (.iload_n 1, 1) := by decide +kernel
theorem dX11_sell_45 : decode cX11_sell 45 = .ok (.iload_n 2, 1) := by decide +kernel
theorem dX11_sell_46 : decode cX11_sell 46 = .ok (.invokevirtual 252, 3) := by decide +kernel
theorem dX11_sell_49 : decode cX11_sell 49 = .ok (.ifCond .ne 5, 3) := by decide +kernel
theorem dX11_sell_52 : decode cX11_sell 52 = .ok (.iconst 0, 1) := by decide +kernel
theorem dX11_sell_53 : decode cX11_sell 53 = .ok (.ireturn, 1) := by decide +kernel
theorem dX11_sell_54 : decode cX11_sell 54 = .ok (.aload_n 0, 1) := by decide +kernel
theorem dX11_sell_55 : decode cX11_sell 55 = .ok (.getfield 60, 3) := by decide +kernel
theorem dX11_sell_58 : decode cX11_sell 58 = .ok (.aload_n 0, 1) := by decide +kernel
theorem dX11_sell_59 : decode cX11_sell 59 = .ok (.getfield 64, 3) := by decide +kernel
theorem dX11_sell_62 : decode cX11_sell 62 = .ok (.invokevirtual 246, 3) := by decide +kernel
theorem dX11_sell_65 : decode cX11_sell 65 = .ok (.iconst 1, 1) := by decide +kernel
theorem dX11_sell_66 : decode cX11_sell 66 = .ok (.ireturn, 1) := by decide +kernel
theorem dX11_good_0 : decode cX11_good 0 = .ok (.aload_n 0, 1) := by decide +kernel
theorem dX11_good_1 : decode cX11_good 1 = .ok (.getfield 53, 3) := by decide +kernel
theorem dX11_good_4 : decode cX11_good 4 = .ok (.iload_n 1, 1) := by decide +kernel
theorem dX11_good_5 : decode cX11_good 5 = .ok (.invokevirtual 131, 3) := by decide +kernel
theorem dX11_good_8 : decode cX11_good 8 = .ok (.ifCond .eq 10, 3) := by decide +kernel
theorem dX11_good_11 : decode cX11_good 11 = .ok (.iload_n 2, 1) := by decide +kernel
theorem dX11_good_12 : decode cX11_good 12 = .ok (.invokestatic 255, 3) := by decide +kernel
theorem dX11_good_15 : decode cX11_good 15 = .ok (.ifCond .ne 5, 3) := by decide +kernel
theorem dX11_good_18 : decode cX11_good 18 = .ok (.iconst (-1), 1) := by decide +kernel
theorem dX11_good_19 : decode cX11_good 19 = .ok (.ireturn, 1) := by decide +kernel
theorem dX11_good_20 : decode cX11_good 20 = .ok (.aload_n 0, 1) := by decide +kernel
theorem dX11_good_21 : decode cX11_good 21 = .ok (.getfield 102, 3) := by decide +kernel
theorem dX11_good_24 : decode cX11_good 24 = .ok (.iload_n 1, 1) := by decide +kernel
theorem dX11_good_25 : decode cX11_good 25 = .ok (.iload_n 2, 1) := by decide +kernel
theorem dX11_good_26 : decode cX11_good 26 = .ok (.invokevirtual 258, 3) := by decide +kernel
theorem dX11_good_29 : decode cX11_good 29 = .ok (.ifCond .eq 7, 3) := by decide +kernel
theorem dX11_good_32 : decode cX11_good 32 = .ok (.iconst 1, 1) := by decide +kernel
theorem dX11_good_33 : decode cX11_good 33 = .ok (.goto 4, 3) := by decide +kernel
theorem dX11_good_36 : decode cX11_good 36 = .ok (.iconst 0, 1) := by decide +kernel
theorem dX11_good_37 : decode cX11_good 37 = .ok (.ireturn, 1) := by decide +kernel
theorem dX11_right_0 : decode cX11_right 0 = .ok (.iload_n 1, 1) := by decide +kernel
theorem dX11_right_1 : decode cX11_right 1 = .ok (.iload_n 2, 1) := by decide +kernel
theorem dX11_right_2 : decode cX11_right 2 = .ok (.if_icmp .eq 32, 3) := by decide +kernel
theorem dX11_right_5 : decode cX11_right 5 = .ok (.aload_n 0, 1) := by decide +kernel
theorem dX11_right_6 : decode cX11_right 6 = .ok (.getfield 53, 3) := by decide +kernel
theorem dX11_right_9 : decode cX11_right 9 = .ok (.iload_n 1, 1) := by decide +kernel
theorem dX11_right_10 : decode cX11_right 10 = .ok (.invokevirtual 131, 3) := by decide +kernel
theorem dX11_right_13 : decode cX11_right 13 = .ok (.ifCond .eq 21, 3) := by decide +kernel
theorem dX11_right_16 : decode cX11_right 16 = .ok (.aload_n 0, 1) := by decide +kernel
theorem dX11_right_17 : decode cX11_right 17 = .ok (.getfield 53, 3) := by decide +kernel
theorem dX11_right_20 : decode cX11_right 20 = .ok (.iload_n 2, 1) := by decide +kernel
theorem dX11_right_21 : decode cX11_right 21 = .ok (.invokevirtual 131, 3) := by decide +kernel
theorem dX11_right_24 : decode cX11_right 24 = .ok (.ifCond .eq 10, 3) := by decide +kernel
theorem dX11_right_27 : decode cX11_right 27 = .ok (.iload_n 3, 1) := by decide +kernel
theorem dX11_right_28 : decode cX11_right 28 = .ok (.invokestatic 255, 3) := by decide +kernel
theorem dX11_right_31 : decode cX11_right 31 = .ok (.ifCond .ne 6, 3) := by decide +kernel
theorem dX11_right_34 : decode cX11_right 34 = .ok (.bipush (-2), 2) := by decide +kernel
theorem dX11_right_36 : decode cX11_right 36 = .ok (.ireturn, 1) := by decide +kernel
theorem dX11_right_37 : decode cX11_right 37 = .ok (.aload_n 0, 1) := by decide +kernel
theorem dX11_right_38 : decode cX11_right 38 = .ok (.getfield 102, 3) := by decide +kernel
theorem dX11_right_41 : decode cX11_right 41 = .ok (.iload_n 1, 1) := by decide +kernel
theorem dX11_right_42 : decode cX11_right 42 = .ok (.iload_n 2, 1) := by decide +kernel
theorem dX11_right_43 : decode cX11_right 43 = .ok (.iload_n 3, 1) := by decide +kernel
theorem dX11_right_44 : decode cX11_right 44 = .ok (.invokevirtual 261, 3) := by decide +kernel
theorem dX11_right_47 : decode cX11_right 47 = .ok (.ireturn, 1) := by decide +kernel
theorem dX11_barred_0 : decode cX11_barred 0 = .ok (.aload_n 0, 1) := by decide +kernel
theorem dX11_barred_1 : decode cX11_barred 1 = .ok (.getfield 53, 3) := by decide +kernel
theorem dX11_barred_4 : decode cX11_barred 4 = .ok (.iload_n 1, 1) := by decide +kernel
theorem dX11_barred_5 : decode cX11_barred 5 = .ok (.invokevirtual 131, 3) := by decide +kernel
theorem dX11_barred_8 : decode cX11_barred 8 = .ok (.ifCond .eq 19, 3) := by decide +kernel
theorem dX11_barred_11 : decode cX11_barred 11 = .ok (.iload_n 2, 1) := by decide +kernel
theorem dX11_barred_12 : decode cX11_barred 12 = .ok (.invokestatic 255, 3) := by decide +kernel
theorem dX11_barred_15 : decode cX11_barred 15 = .ok (.ifCond .eq 12, 3) := by decide +kernel
theorem dX11_barred_18 : decode cX11_barred 18 = .ok (.iload_n 3, 1) := by decide +kernel
theorem dX11_barred_19 : decode cX11_barred 19 = .ok (.ifCond .lt 8, 3) := by decide +kernel
theorem dX11_barred_22 : decode cX11_barred 22 = .ok (.iload_n 3, 1) := by decide +kernel
theorem dX11_barred_23 : decode cX11_barred 23 = .ok (.iconst 1, 1) := by decide +kernel
theorem dX11_barred_24 : decode cX11_barred 24 = .ok (.if_icmp .le 5, 3) := by decide +kernel
theorem dX11_barred_27 : decode cX11_barred 27 = .ok (.iconst (-1), 1) := by decide +kernel
theorem dX11_barred_28 : decode cX11_barred 28 = .ok (.ireturn, 1) := by decide +kernel
theorem dX11_barred_29 : decode cX11_barred 29 = .ok (.iload_n 3, 1) := by decide +kernel
theorem dX11_barred_30 : decode cX11_barred 30 = .ok (.ifCond .ne 15, 3) := by decide +kernel
theorem dX11_barred_33 : decode cX11_barred 33 = .ok (.aload_n 0, 1) := by decide +kernel
theorem dX11_barred_34 : decode cX11_barred 34 = .ok (.getfield 102, 3) := by decide +kernel
theorem dX11_barred_37 : decode cX11_barred 37 = .ok (.iload_n 1, 1) := by decide +kernel
theorem dX11_barred_38 : decode cX11_barred 38 = .ok (.iload_n 2, 1) := by decide +kernel
theorem dX11_barred_39 : decode cX11_barred 39 = .ok (.invokevirtual 265, 3) := by decide +kernel
theorem dX11_barred_42 : decode cX11_barred 42 = .ok (.goto 12, 3) := by decide +kernel
theorem dX11_barred_45 : decode cX11_barred 45 = .ok (.aload_n 0, 1) := by decide +kernel
theorem dX11_barred_46 : decode cX11_barred 46 = .ok (.getfield 102, 3) := by decide +kernel
theorem dX11_barred_49 : decode cX11_barred 49 = .ok (.iload_n 1, 1) := by decide +kernel
theorem dX11_barred_50 : decode cX11_barred 50 = .ok (.iload_n 2, 1) := by decide +kernel
theorem dX11_barred_51 : decode cX11_barred 51 = .ok (.invokevirtual 268, 3) := by decide +kernel
theorem dX11_barred_54 : decode cX11_barred 54 = .ok (.ireturn, 1) := by decide +kernel
theorem dX11_shares_0 : decode cX11_shares 0 = .ok (.iload_n 1, 1) := by decide +kernel
theorem dX11_shares_1 : decode cX11_shares 1 = .ok (.ifCond .lt 8, 3) := by decide +kernel
theorem dX11_shares_4 : decode cX11_shares 4 = .ok (.iload_n 1, 1) := by decide +kernel
theorem dX11_shares_5 : decode cX11_shares 5 = .ok (.iconst 1, 1) := by decide +kernel
theorem dX11_shares_6 : decode cX11_shares 6 = .ok (.if_icmp .le 5, 3) := by decide +kernel
theorem dX11_shares_9 : decode cX11_shares 9 = .ok (.iconst (-1), 1) := by decide +kernel
theorem dX11_shares_10 : decode cX11_shares 10 = .ok (.ireturn, 1) := by decide +kernel
theorem dX11_shares_11 : decode cX11_shares 11 = .ok (.aload_n 0, 1) := by decide +kernel
theorem dX11_shares_12 : decode cX11_shares 12 = .ok (.getfield 109, 3) := by decide +kernel
theorem dX11_shares_15 : decode cX11_shares 15 = .ok (.invokevirtual 271, 3) := by decide +kernel
theorem dX11_shares_18 : decode cX11_shares 18 = .ok (.iload_n 1, 1) := by decide +kernel
theorem dX11_shares_19 : decode cX11_shares 19 = .ok (.ifCond .ne 13, 3) := by decide +kernel
theorem dX11_shares_22 : decode cX11_shares 22 = .ok (.aload_n 0, 1) := by decide +kernel
theorem dX11_shares_23 : decode cX11_shares 23 = .ok (.getfield 109, 3) := by decide +kernel
theorem dX11_shares_26 : decode cX11_shares 26 = .ok (.getfield 274, 3) := by decide +kernel
theorem dX11_shares_29 : decode cX11_shares 29 = .ok (.goto 10, 3) := by decide +kernel
theorem dX11_shares_32 : decode cX11_shares 32 = .ok (.aload_n 0, 1) := by decide +kernel
theorem dX11_shares_33 : decode cX11_shares 33 = .ok (.getfield 109, 3) := by decide +kernel
theorem dX11_shares_36 : decode cX11_shares 36 = .ok (.getfield 277, 3) := by decide +kernel
theorem dX11_shares_39 : decode cX11_shares 39 = .ok (.ireturn, 1) := by decide +kernel
theorem dX11_drift_0 : decode cX11_drift 0 = .ok (.aload_n 0, 1) := by decide +kernel
theorem dX11_drift_1 : decode cX11_drift 1 = .ok (.iload_n 1, 1) := by decide +kernel
theorem dX11_drift_2 : decode cX11_drift 2 = .ok (.invokevirtual 280, 3) := by decide +kernel
theorem dX11_drift_5 : decode cX11_drift 5 = .ok (.ifCond .eq 17, 3) := by decide +kernel
theorem dX11_drift_8 : decode cX11_drift 8 = .ok (.iload_n 2, 1) := by decide +kernel
theorem dX11_drift_9 : decode cX11_drift 9 = .ok (.invokestatic 152, 3) := by decide +kernel
theorem dX11_drift_12 : decode cX11_drift 12 = .ok (.ifCond .eq 10, 3) := by decide +kernel
theorem dX11_drift_15 : decode cX11_drift 15 = .ok (.iload_n 3, 1) := by decide +kernel
theorem dX11_drift_16 : decode cX11_drift 16 = .ok (.invokestatic 255, 3) := by decide +kernel
theorem dX11_drift_19 : decode cX11_drift 19 = .ok (.ifCond .ne 11, 3) := by decide +kernel
theorem dX11_drift_22 : decode cX11_drift 22 = .ok (.new 135, 3) := by decide +kernel
theorem dX11_drift_25 : decode cX11_drift 25 = .ok (.dup, 1) := by decide +kernel
theorem dX11_drift_26 : decode cX11_drift 26 = .ok (.invokespecial 137, 3) := by decide +kernel
theorem dX11_drift_29 : decode cX11_drift 29 = .ok (.athrow, 1) := by decide +kernel
theorem dX11_drift_30 : decode cX11_drift 30 = .ok (.aload_n 0, 1) := by decide +kernel
theorem dX11_drift_31 : decode cX11_drift 31 = .ok (.getfield 53, 3) := by decide +kernel
theorem dX11_drift_34 : decode cX11_drift 34 = .ok (.iload_n 1, 1) := by decide +kernel
theorem dX11_drift_35 : decode cX11_drift 35 = .ok (.iload_n 2, 1) := by decide +kernel
theorem dX11_drift_36 : decode cX11_drift 36 = .ok (.iload_n 3, 1) := by decide +kernel
theorem dX11_drift_37 : decode cX11_drift 37 = .ok (.invokevirtual 283, 3) := by decide +kernel
theorem dX11_drift_40 : decode cX11_drift 40 = .ok (.ireturn, 1) := by decide +kernel
theorem dX11_meets_0 : decode cX11_meets 0 = .ok (.aload_n 0, 1) := by decide +kernel
theorem dX11_meets_1 : decode cX11_meets 1 = .ok (.iload_n 1, 1) := by decide +kernel
theorem dX11_meets_2 : decode cX11_meets 2 = .ok (.invokevirtual 280, 3) := by decide +kernel
theorem dX11_meets_5 : decode cX11_meets 5 = .ok (.ifCond .eq 25, 3) := by decide +kernel
theorem dX11_meets_8 : decode cX11_meets 8 = .ok (.iload_n 2, 1) := by decide +kernel
theorem dX11_meets_9 : decode cX11_meets 9 = .ok (.invokestatic 152, 3) := by decide +kernel
theorem dX11_meets_12 : decode cX11_meets 12 = .ok (.ifCond .eq 18, 3) := by decide +kernel
theorem dX11_meets_15 : decode cX11_meets 15 = .ok (.iload_n 3, 1) := by decide +kernel
theorem dX11_meets_16 : decode cX11_meets 16 = .ok (.invokestatic 155, 3) := by decide +kernel
theorem dX11_meets_19 : decode cX11_meets 19 = .ok (.ifCond .eq 11, 3) := by decide +kernel
theorem dX11_meets_22 : decode cX11_meets 22 = .ok (.iload 4, 2) := by decide +kernel
theorem dX11_meets_24 : decode cX11_meets 24 = .ok (.invokestatic 255, 3) := by decide +kernel
theorem dX11_meets_27 : decode cX11_meets 27 = .ok (.ifCond .ne 6, 3) := by decide +kernel
theorem dX11_meets_30 : decode cX11_meets 30 = .ok (.bipush (-2), 2) := by decide +kernel
theorem dX11_meets_32 : decode cX11_meets 32 = .ok (.ireturn, 1) := by decide +kernel
theorem dX11_meets_33 : decode cX11_meets 33 = .ok (.iload 4, 2) := by decide +kernel
theorem dX11_meets_35 : decode cX11_meets 35 = .ok (.istore 5, 2) := by decide +kernel
theorem dX11_meets_37 : decode cX11_meets 37 = .ok (.iload 5, 2) := by decide +kernel
theorem dX11_meets_39 : decode cX11_meets 39 = .ok (.sipush 1000, 3) := by decide +kernel
theorem dX11_meets_42 : decode cX11_meets 42 = .ok (.if_icmp .ge 35, 3) := by decide +kernel
theorem dX11_meets_45 : decode cX11_meets 45 = .ok (.aload_n 0, 1) := by decide +kernel
theorem dX11_meets_46 : decode cX11_meets 46 = .ok (.getfield 60, 3) := by decide +kernel
theorem dX11_meets_49 : decode cX11_meets 49 = .ok (.iload_n 1, 1) := by decide +kernel
theorem dX11_meets_50 : decode cX11_meets 50 = .ok (.aload_n 0, 1) := by decide +kernel
theorem dX11_meets_51 : decode cX11_meets 51 = .ok (.getfield 53, 3) := by decide +kernel
theorem dX11_meets_54 : decode cX11_meets 54 = .ok (.iload_n 1, 1) := by decide +kernel
theorem dX11_meets_55 : decode cX11_meets 55 = .ok (.iload_n 2, 1) := by decide +kernel
theorem dX11_meets_56 : decode cX11_meets 56 = .ok (.iload 5, 2) := by decide +kernel
theorem dX11_meets_58 : decode cX11_meets 58 = .ok (.invokevirtual 283, 3) := by decide +kernel
theorem dX11_meets_61 : decode cX11_meets 61 = .ok (.iload_n 3, 1) := by decide +kernel
theorem dX11_meets_62 : decode cX11_meets 62 = .ok (.invokevirtual 286, 3) := by decide +kernel
theorem dX11_meets_65 : decode cX11_meets 65 = .ok (.ifCond .eq 6, 3) := by decide +kernel
theorem dX11_meets_68 : decode cX11_meets 68 = .ok (.iload 5, 2) := by decide +kernel
theorem dX11_meets_70 : decode cX11_meets 70 = .ok (.ireturn, 1) := by decide +kernel
theorem dX11_meets_71 : decode cX11_meets 71 = .ok (.iinc 5 1, 3) := by decide +kernel
theorem dX11_meets_74 : decode cX11_meets 74 = .ok (.goto (-37), 3) := by decide +kernel
theorem dX11_meets_77 : decode cX11_meets 77 = .ok (.iconst (-1), 1) := by decide +kernel
theorem dX11_meets_78 : decode cX11_meets 78 = .ok (.ireturn, 1) := by decide +kernel
theorem dX11_image_0 : decode cX11_image 0 = .ok (.iload_n 1, 1) := by decide +kernel
theorem dX11_image_1 : decode cX11_image 1 = .ok (.ifCond .lt 8, 3) := by decide +kernel
theorem dX11_image_4 : decode cX11_image 4 = .ok (.iload_n 1, 1) := by decide +kernel
theorem dX11_image_5 : decode cX11_image 5 = .ok (.iconst 2, 1) := by decide +kernel
theorem dX11_image_6 : decode cX11_image 6 = .ok (.if_icmp .lt 5, 3) := by decide +kernel
theorem dX11_image_9 : decode cX11_image 9 = .ok (.iconst 0, 1) := by decide +kernel
theorem dX11_image_10 : decode cX11_image 10 = .ok (.ireturn, 1) := by decide +kernel
theorem dX11_image_11 : decode cX11_image 11 = .ok (.aload_n 0, 1) := by decide +kernel
theorem dX11_image_12 : decode cX11_image 12 = .ok (.getfield 33, 3) := by decide +kernel
theorem dX11_image_15 : decode cX11_image 15 = .ok (.iload_n 1, 1) := by decide +kernel
theorem dX11_image_16 : decode cX11_image 16 = .ok (.aaload, 1) := by decide +kernel
theorem dX11_image_17 : decode cX11_image 17 = .ok (.aload_n 0, 1) := by decide +kernel
theorem dX11_image_18 : decode cX11_image 18 = .ok (.getfield 53, 3) := by decide +kernel
theorem dX11_image_21 : decode cX11_image 21 = .ok (.invokevirtual 125, 3) := by decide +kernel
theorem dX11_image_24 : decode cX11_image 24 = .ok (.aload_n 0, 1) := by decide +kernel
theorem dX11_image_25 : decode cX11_image 25 = .ok (.getfield 39, 3) := by decide +kernel
theorem dX11_image_28 : decode cX11_image 28 = .ok (.iload_n 1, 1) := by decide +kernel
theorem dX11_image_29 : decode cX11_image 29 = .ok (.aaload, 1) := by decide +kernel
theorem dX11_image_30 : decode cX11_image 30 = .ok (.aload_n 0, 1) := by decide +kernel
theorem dX11_image_31 : decode cX11_image 31 = .ok (.getfield 60, 3) := by decide +kernel
theorem dX11_image_34 : decode cX11_image 34 = .ok (.invokevirtual 246, 3) := by decide +kernel
theorem dX11_image_37 : decode cX11_image 37 = .ok (.aload_n 0, 1) := by decide +kernel
theorem dX11_image_38 : decode cX11_image 38 = .ok (.getfield 27, 3) := by decide +kernel
theorem dX11_image_41 : decode cX11_image 41 = .ok (.iload_n 1, 1) := by decide +kernel
theorem dX11_image_42 : decode cX11_image 42 = .ok (.iconst 1, 1) := by decide +kernel
theorem dX11_image_43 : decode cX11_image 43 = .ok (.bastore, 1) := by decide +kernel
theorem dX11_image_44 : decode cX11_image 44 = .ok (.iconst 1, 1) := by decide +kernel
theorem dX11_image_45 : decode cX11_image 45 = .ok (.ireturn, 1) := by decide +kernel
theorem dX11_restore_0 : decode cX11_restore 0 = .ok (.iload_n 1, 1) := by decide +kernel
theorem dX11_restore_1 : decode cX11_restore 1 = .ok (.ifCond .lt 17, 3) := by decide +kernel
theorem dX11_restore_4 : decode cX11_restore 4 = .ok (.iload_n 1, 1) := by decide +kernel
theorem dX11_restore_5 : decode cX11_restore 5 = .ok (.iconst 2, 1) := by decide +kernel
theorem dX11_restore_6 : decode cX11_restore 6 = .ok (.if_icmp .ge 12, 3) := by decide +kernel
theorem dX11_restore_9 : decode cX11_restore 9 = .ok (.aload_n 0, 1) := by decide +kernel
theorem dX11_restore_10 : decode cX11_restore 10 = .ok (.getfield 27, 3) := by decide +kernel
theorem dX11_restore_13 : decode cX11_restore 13 = .ok (.iload_n 1, 1) := by decide +kernel
theorem dX11_restore_14 : decode cX11_restore 14 = .ok (.baload, 1) := by decide +kernel
theorem dX11_restore_15 : decode cX11_restore 15 = .ok (.ifCond .ne 5, 3) := by decide +kernel
theorem dX11_restore_18 : decode cX11_restore 18 = .ok (.iconst 0, 1) := by decide +kernel
theorem dX11_restore_19 : decode cX11_restore 19 = .ok (.ireturn, 1) := by decide +kernel
theorem dX11_restore_20 : decode cX11_restore 20 = .ok (.aload_n 0, 1) := by decide +kernel
theorem dX11_restore_21 : decode cX11_restore 21 = .ok (.getfield 53, 3) := by decide +kernel
theorem dX11_restore_24 : decode cX11_restore 24 = .ok (.aload_n 0, 1) := by decide +kernel
theorem dX11_restore_25 : decode cX11_restore 25 = .ok (.getfield 33, 3) := by decide +kernel
theorem dX11_restore_28 : decode cX11_restore 28 = .ok (.iload_n 1, 1) := by decide +kernel
theorem dX11_restore_29 : decode cX11_restore 29 = .ok (.aaload, 1) := by decide +kernel
theorem dX11_restore_30 : decode cX11_restore 30 = .ok (.invokevirtual 125, 3) := by decide +kernel
theorem dX11_restore_33 : decode cX11_restore 33 = .ok (.aload_n 0, 1) := by decide +kernel
theorem dX11_restore_34 : decode cX11_restore 34 = .ok (.getfield 60, 3) := by decide +kernel
theorem dX11_restore_37 : decode cX11_restore 37 = .ok (.aload_n 0, 1) := by decide +kernel
theorem dX11_restore_38 : decode cX11_restore 38 = .ok (.getfield 39, 3) := by decide +kernel
theorem dX11_restore_41 : decode cX11_restore 41 = .ok (.iload_n 1, 1) := by decide +kernel
theorem dX11_restore_42 : decode cX11_restore 42 = .ok (.aaload, 1) := by decide +kernel
theorem dX11_restore_43 : decode cX11_restore 43 = .ok (.invokevirtual 246, 3) := by decide +kernel
theorem dX11_restore_46 : decode cX11_restore 46 = .ok (.iconst 1, 1) := by decide +kernel
theorem dX11_restore_47 : decode cX11_restore 47 = .ok (.ireturn, 1) := by decide +kernel
theorem dX11_count_0 : decode cX11_count 0 = .ok (.iload_n 1, 1) := by decide +kernel
theorem dX11_count_1 : decode cX11_count 1 = .ok (.tableswitch 84 0 5 #[39, 47, 55, 63, 71, 79], 39) := by decide +kernel
theorem dX11_count_40 : decode cX11_count 40 = .ok (.aload_n 0, 1) := by decide +kernel
theorem dX11_count_41 : decode cX11_count 41 = .ok (.getfield 53, 3) := by decide +kernel
theorem dX11_count_44 : decode cX11_count 44 = .ok (.getfield 290, 3) := by decide +kernel
theorem dX11_count_47 : decode cX11_count 47 = .ok (.ireturn, 1) := by decide +kernel
theorem dX11_count_48 : decode cX11_count 48 = .ok (.aload_n 0, 1) := by decide +kernel
theorem dX11_count_49 : decode cX11_count 49 = .ok (.getfield 53, 3) := by decide +kernel
theorem dX11_count_52 : decode cX11_count 52 = .ok (.getfield 291, 3) := by decide +kernel
theorem dX11_count_55 : decode cX11_count 55 = .ok (.ireturn, 1) := by decide +kernel
theorem dX11_count_56 : decode cX11_count 56 = .ok (.aload_n 0, 1) := by decide +kernel
theorem dX11_count_57 : decode cX11_count 57 = .ok (.getfield 53, 3) := by decide +kernel
theorem dX11_count_60 : decode cX11_count 60 = .ok (.getfield 146, 3) := by decide +kernel
theorem dX11_count_63 : decode cX11_count 63 = .ok (.ireturn, 1) := by decide +kernel
theorem dX11_count_64 : decode cX11_count 64 = .ok (.aload_n 0, 1) := by decide +kernel
theorem dX11_count_65 : decode cX11_count 65 = .ok (.getfield 60, 3) := by decide +kernel
theorem dX11_count_68 : decode cX11_count 68 = .ok (.invokevirtual 294, 3) := by decide +kernel
theorem dX11_count_71 : decode cX11_count 71 = .ok (.ireturn, 1) := by decide +kernel
theorem dX11_count_72 : decode cX11_count 72 = .ok (.aload_n 0, 1) := by decide +kernel
theorem dX11_count_73 : decode cX11_count 73 = .ok (.getfield 53, 3) := by decide +kernel
theorem dX11_count_76 : decode cX11_count 76 = .ok (.getfield 297, 3) := by decide +kernel
theorem dX11_count_79 : decode cX11_count 79 = .ok (.ireturn, 1) := by decide +kernel
theorem dX11_count_80 : decode cX11_count 80 = .ok (.aload_n 0, 1) := by decide +kernel
theorem dX11_count_81 : decode cX11_count 81 = .ok (.getfield 13, 3) := by decide +kernel
theorem dX11_count_84 : decode cX11_count 84 = .ok (.ireturn, 1) := by decide +kernel
theorem dX11_count_85 : decode cX11_count 85 = .ok (.iconst (-1), 1) := by decide +kernel
theorem dX11_count_86 : decode cX11_count 86 = .ok (.ireturn, 1) := by decide +kernel
theorem dX11_append_0 : decode cX11_append 0 = .ok (.bipush 24, 2) := by decide +kernel
theorem dX11_append_2 : decode cX11_append 2 = .ok (.istore_n 2, 1) := by decide +kernel
theorem dX11_append_3 : decode cX11_append 3 = .ok (.iload_n 2, 1) := by decide +kernel
theorem dX11_append_4 : decode cX11_append 4 = .ok (.ifCond .lt 42, 3) := by decide +kernel
theorem dX11_append_7 : decode cX11_append 7 = .ok (.aload_n 0, 1) := by decide +kernel
theorem dX11_append_8 : decode cX11_append 8 = .ok (.getfield 13, 3) := by decide +kernel
theorem dX11_append_11 : decode cX11_append 11 = .ok (.sipush 1240, 3) := by decide +kernel
theorem dX11_append_14 : decode cX11_append 14 = .ok (.if_icmp .ge 32, 3) := by decide +kernel
theorem dX11_append_17 : decode cX11_append 17 = .ok (.aload_n 0, 1) := by decide +kernel
theorem dX11_append_18 : decode cX11_append 18 = .ok (.getfield 9, 3) := by decide +kernel
theorem dX11_append_21 : decode cX11_append 21 = .ok (.aload_n 0, 1) := by decide +kernel
theorem dX11_append_22 : decode cX11_append 22 = .ok (.getfield 13, 3) := by decide +kernel
theorem dX11_append_25 : decode cX11_append 25 = .ok (.iload_n 1, 1) := by decide +kernel
theorem dX11_append_26 : decode cX11_append 26 = .ok (.iload_n 2, 1) := by decide +kernel
theorem dX11_append_27 : decode cX11_append 27 = .ok (.iushr, 1) := by decide +kernel
theorem dX11_append_28 : decode cX11_append 28 = .ok (.i2b, 1) := by decide +kernel
theorem dX11_append_29 : decode cX11_append 29 = .ok (.bastore, 1) := by decide +kernel
theorem dX11_append_30 : decode cX11_append 30 = .ok (.aload_n 0, 1) := by decide +kernel
theorem dX11_append_31 : decode cX11_append 31 = .ok (.dup, 1) := by decide +kernel
theorem dX11_append_32 : decode cX11_append 32 = .ok (.getfield 13, 3) := by decide +kernel
theorem dX11_append_35 : decode cX11_append 35 = .ok (.iconst 1, 1) := by decide +kernel
theorem dX11_append_36 : decode cX11_append 36 = .ok (.iadd, 1) := by decide +kernel
theorem dX11_append_37 : decode cX11_append 37 = .ok (.putfield 13, 3) := by decide +kernel
theorem dX11_append_40 : decode cX11_append 40 = .ok (.iinc 2 (-8), 3) := by decide +kernel
theorem dX11_append_43 : decode cX11_append 43 = .ok (.goto (-40), 3) := by decide +kernel
theorem dX11_append_46 : decode cX11_append 46 = .ok (.return_, 1) := by decide +kernel
theorem dX11_isDegree_0 : decode cX11_isDegree 0 = .ok (.iload_n 0, 1) := by decide +kernel
theorem dX11_isDegree_1 : decode cX11_isDegree 1 = .ok (.ifCond .lt 14, 3) := by decide +kernel
theorem dX11_isDegree_4 : decode cX11_isDegree 4 = .ok (.iload_n 0, 1) := by decide +kernel
theorem dX11_isDegree_5 : decode cX11_isDegree 5 = .ok (.sipush 3600, 3) := by decide +kernel
theorem dX11_isDegree_8 : decode cX11_isDegree 8 = .ok (.if_icmp .ge 7, 3) := by decide +kernel
theorem dX11_isDegree_11 : decode cX11_isDegree 11 = .ok (.iconst 1, 1) := by decide +kernel
theorem dX11_isDegree_12 : decode cX11_isDegree 12 = .ok (.goto 4, 3) := by decide +kernel
theorem dX11_isDegree_15 : decode cX11_isDegree 15 = .ok (.iconst 0, 1) := by decide +kernel
theorem dX11_isDegree_16 : decode cX11_isDegree 16 = .ok (.ireturn, 1) := by decide +kernel
theorem dX11_isVoice_0 : decode cX11_isVoice 0 = .ok (.iload_n 0, 1) := by decide +kernel
theorem dX11_isVoice_1 : decode cX11_isVoice 1 = .ok (.ifCond .lt 12, 3) := by decide +kernel
theorem dX11_isVoice_4 : decode cX11_isVoice 4 = .ok (.iload_n 0, 1) := by decide +kernel
theorem dX11_isVoice_5 : decode cX11_isVoice 5 = .ok (.iconst 4, 1) := by decide +kernel
theorem dX11_isVoice_6 : decode cX11_isVoice 6 = .ok (.if_icmp .ge 7, 3) := by decide +kernel
theorem dX11_isVoice_9 : decode cX11_isVoice 9 = .ok (.iconst 1, 1) := by decide +kernel
theorem dX11_isVoice_10 : decode cX11_isVoice 10 = .ok (.goto 4, 3) := by decide +kernel
theorem dX11_isVoice_13 : decode cX11_isVoice 13 = .ok (.iconst 0, 1) := by decide +kernel
theorem dX11_isVoice_14 : decode cX11_isVoice 14 = .ok (.ireturn, 1) := by decide +kernel
theorem dX11_isDay_0 : decode cX11_isDay 0 = .ok (.iload_n 0, 1) := by decide +kernel
theorem dX11_isDay_1 : decode cX11_isDay 1 = .ok (.ifCond .lt 14, 3) := by decide +kernel
theorem dX11_isDay_4 : decode cX11_isDay 4 = .ok (.iload_n 0, 1) := by decide +kernel
theorem dX11_isDay_5 : decode cX11_isDay 5 = .ok (.sipush 1000, 3) := by decide +kernel
theorem dX11_isDay_8 : decode cX11_isDay 8 = .ok (.if_icmp .ge 7, 3) := by decide +kernel
theorem dX11_isDay_11 : decode cX11_isDay 11 = .ok (.iconst 1, 1) := by decide +kernel
theorem dX11_isDay_12 : decode cX11_isDay 12 = .ok (.goto 4, 3) := by decide +kernel
theorem dX11_isDay_15 : decode cX11_isDay 15 = .ok (.iconst 0, 1) := by decide +kernel
theorem dX11_isDay_16 : decode cX11_isDay 16 = .ok (.ireturn, 1) := by decide +kernel
theorem dX11_hasUp_0 : decode cX11_hasUp 0 = .ok (.aload_n 0, 1) := by decide +kernel
theorem dX11_hasUp_1 : decode cX11_hasUp 1 = .ok (.getfield 53, 3) := by decide +kernel
theorem dX11_hasUp_4 : decode cX11_hasUp 4 = .ok (.iload_n 1, 1) := by decide +kernel
theorem dX11_hasUp_5 : decode cX11_hasUp 5 = .ok (.invokevirtual 131, 3) := by decide +kernel
theorem dX11_hasUp_8 : decode cX11_hasUp 8 = .ok (.ifCond .eq 18, 3) := by decide +kernel
theorem dX11_hasUp_11 : decode cX11_hasUp 11 = .ok (.aload_n 0, 1) := by decide +kernel
theorem dX11_hasUp_12 : decode cX11_hasUp 12 = .ok (.getfield 60, 3) := by decide +kernel
theorem dX11_hasUp_15 : decode cX11_hasUp 15 = .ok (.iload_n 1, 1) := by decide +kernel
theorem dX11_hasUp_16 : decode cX11_hasUp 16 = .ok (.invokevirtual 158, 3) := by decide +kernel
theorem dX11_hasUp_19 : decode cX11_hasUp 19 = .ok (.ifCond .eq 7, 3) := by decide +kernel
theorem dX11_hasUp_22 : decode cX11_hasUp 22 = .ok (.iconst 1, 1) := by decide +kernel
theorem dX11_hasUp_23 : decode cX11_hasUp 23 = .ok (.goto 4, 3) := by decide +kernel
theorem dX11_hasUp_26 : decode cX11_hasUp 26 = .ok (.iconst 0, 1) := by decide +kernel
theorem dX11_hasUp_27 : decode cX11_hasUp 27 = .ok (.ireturn, 1) := by decide +kernel
theorem dX11_hasDead_0 : decode cX11_hasDead 0 = .ok (.aload_n 0, 1) := by decide +kernel
theorem dX11_hasDead_1 : decode cX11_hasDead 1 = .ok (.getfield 53, 3) := by decide +kernel
theorem dX11_hasDead_4 : decode cX11_hasDead 4 = .ok (.iload_n 1, 1) := by decide +kernel
theorem dX11_hasDead_5 : decode cX11_hasDead 5 = .ok (.invokevirtual 131, 3) := by decide +kernel
theorem dX11_hasDead_8 : decode cX11_hasDead 8 = .ok (.ifCond .eq 18, 3) := by decide +kernel
theorem dX11_hasDead_11 : decode cX11_hasDead 11 = .ok (.aload_n 0, 1) := by decide +kernel
theorem dX11_hasDead_12 : decode cX11_hasDead 12 = .ok (.getfield 53, 3) := by decide +kernel
theorem dX11_hasDead_15 : decode cX11_hasDead 15 = .ok (.iload_n 1, 1) := by decide +kernel
theorem dX11_hasDead_16 : decode cX11_hasDead 16 = .ok (.invokevirtual 234, 3) := by decide +kernel
theorem dX11_hasDead_19 : decode cX11_hasDead 19 = .ok (.ifCond .eq 7, 3) := by decide +kernel
theorem dX11_hasDead_22 : decode cX11_hasDead 22 = .ok (.iconst 1, 1) := by decide +kernel
theorem dX11_hasDead_23 : decode cX11_hasDead 23 = .ok (.goto 4, 3) := by decide +kernel
theorem dX11_hasDead_26 : decode cX11_hasDead 26 = .ok (.iconst 0, 1) := by decide +kernel
theorem dX11_hasDead_27 : decode cX11_hasDead 27 = .ok (.ireturn, 1) := by decide +kernel
theorem dX11_takeRow_0 : decode cX11_takeRow 0 = .ok (.aload_n 0, 1) := by decide +kernel
theorem dX11_takeRow_1 : decode cX11_takeRow 1 = .ok (.iconst 0, 1) := by decide +kernel
theorem dX11_takeRow_2 : decode cX11_takeRow 2 = .ok (.putfield 24, 3) := by decide +kernel
theorem dX11_takeRow_5 : decode cX11_takeRow 5 = .ok (.aload_n 0, 1) := by decide +kernel
theorem dX11_takeRow_6 : decode cX11_takeRow 6 = .ok (.getfield 13, 3) := by decide +kernel
theorem dX11_takeRow_9 : decode cX11_takeRow 9 = .ok (.istore_n 3, 1) := by decide +kernel
theorem dX11_takeRow_10 : decode cX11_takeRow 10 = .ok (.aload_n 0, 1) := by decide +kernel
theorem dX11_takeRow_11 : decode cX11_takeRow 11 = .ok (.iconst 0, 1) := by decide +kernel
theorem dX11_takeRow_12 : decode cX11_takeRow 12 = .ok (.putfield 13, 3) := by decide +kernel
theorem dX11_takeRow_15 : decode cX11_takeRow 15 = .ok (.iload_n 3, 1) := by decide +kernel
theorem dX11_takeRow_16 : decode cX11_takeRow 16 = .ok (.iload_n 1, 1) := by decide +kernel
theorem dX11_takeRow_17 : decode cX11_takeRow 17 = .ok (.if_icmp .lt 14, 3) := by decide +kernel
theorem dX11_takeRow_20 : decode cX11_takeRow 20 = .ok (.iload_n 3, 1) := by decide +kernel
theorem dX11_takeRow_21 : decode cX11_takeRow 21 = .ok (.iload_n 2, 1) := by decide +kernel
theorem dX11_takeRow_22 : decode cX11_takeRow 22 = .ok (.if_icmp .gt 9, 3) := by decide +kernel
theorem dX11_takeRow_25 : decode cX11_takeRow 25 = .ok (.iload_n 3, 1) := by decide +kernel
theorem dX11_takeRow_26 : decode cX11_takeRow 26 = .ok (.bipush 12, 2) := by decide +kernel
theorem dX11_takeRow_28 : decode cX11_takeRow 28 = .ok (.if_icmp .le 5, 3) := by decide +kernel
theorem dX11_takeRow_31 : decode cX11_takeRow 31 = .ok (.iconst 0, 1) := by decide +kernel
theorem dX11_takeRow_32 : decode cX11_takeRow 32 = .ok (.ireturn, 1) := by decide +kernel
theorem dX11_takeRow_33 : decode cX11_takeRow 33 = .ok (.iconst 0, 1) := by decide +kernel
theorem dX11_takeRow_34 : decode cX11_takeRow 34 = .ok (.istore 4, 2) := by decide +kernel
theorem dX11_takeRow_36 : decode cX11_takeRow 36 = .ok (.iload 4, 2) := by decide +kernel
theorem dX11_takeRow_38 : decode cX11_takeRow 38 = .ok (.iload_n 3, 1) := by decide +kernel
theorem dX11_takeRow_39 : decode cX11_takeRow 39 = .ok (.if_icmp .ge 66, 3) := by decide +kernel
theorem dX11_takeRow_42 : decode cX11_takeRow 42 = .ok (.aload_n 0, 1) := by decide +kernel
theorem dX11_takeRow_43 : decode cX11_takeRow 43 = .ok (.getfield 9, 3) := by decide +kernel
theorem dX11_takeRow_46 : decode cX11_takeRow 46 = .ok (.iload 4, 2) := by decide +kernel
theorem dX11_takeRow_48 : decode cX11_takeRow 48 = .ok (.baload, 1) := by decide +kernel
theorem dX11_takeRow_49 : decode cX11_takeRow 49 = .ok (.sipush 255, 3) := by decide +kernel
theorem dX11_takeRow_52 : decode cX11_takeRow 52 = .ok (.iand, 1) := by decide +kernel
theorem dX11_takeRow_53 : decode cX11_takeRow 53 = .ok (.istore 5, 2) := by decide +kernel
theorem dX11_takeRow_55 : decode cX11_takeRow 55 = .ok (.aload_n 0, 1) := by decide +kernel
theorem dX11_takeRow_56 : decode cX11_takeRow 56 = .ok (.getfield 53, 3) := by decide +kernel
theorem dX11_takeRow_59 : decode cX11_takeRow 59 = .ok (.iload 5, 2) := by decide +kernel
theorem dX11_takeRow_61 : decode cX11_takeRow 61 = .ok (.invokevirtual 131, 3) := by decide +kernel
theorem dX11_takeRow_64 : decode cX11_takeRow 64 = .ok (.ifCond .eq 12, 3) := by decide +kernel
theorem dX11_takeRow_67 : decode cX11_takeRow 67 = .ok (.aload_n 0, 1) := by decide +kernel
theorem dX11_takeRow_68 : decode cX11_takeRow 68 = .ok (.iload 5, 2) := by decide +kernel
theorem dX11_takeRow_70 : decode cX11_takeRow 70 = .ok (.invokevirtual 300, 3) := by decide +kernel
theorem dX11_takeRow_73 : decode cX11_takeRow 73 = .ok (.ifCond .eq 5, 3) := by decide +kernel
theorem dX11_takeRow_76 : decode cX11_takeRow 76 = .ok (.iconst 0, 1) := by decide +kernel
theorem dX11_takeRow_77 : decode cX11_takeRow 77 = .ok (.ireturn, 1) := by decide +kernel
theorem dX11_takeRow_78 : decode cX11_takeRow 78 = .ok (.aload_n 0, 1) := by decide +kernel
theorem dX11_takeRow_79 : decode cX11_takeRow 79 = .ok (.getfield 20, 3) := by decide +kernel
theorem dX11_takeRow_82 : decode cX11_takeRow 82 = .ok (.aload_n 0, 1) := by decide +kernel
theorem dX11_takeRow_83 : decode cX11_takeRow 83 = .ok (.getfield 24, 3) := by decide +kernel
theorem dX11_takeRow_86 : decode cX11_takeRow 86 = .ok (.iload 5, 2) := by decide +kernel
theorem dX11_takeRow_88 : decode cX11_takeRow 88 = .ok (.iastore, 1) := by decide +kernel
theorem dX11_takeRow_89 : decode cX11_takeRow 89 = .ok (.aload_n 0, 1) := by decide +kernel
theorem dX11_takeRow_90 : decode cX11_takeRow 90 = .ok (.dup, 1) := by decide +kernel
theorem dX11_takeRow_91 : decode cX11_takeRow 91 = .ok (.getfield 24, 3) := by decide +kernel
theorem dX11_takeRow_94 : decode cX11_takeRow 94 = .ok (.iconst 1, 1) := by decide +kernel
theorem dX11_takeRow_95 : decode cX11_takeRow 95 = .ok (.iadd, 1) := by decide +kernel
theorem dX11_takeRow_96 : decode cX11_takeRow 96 = .ok (.putfield 24, 3) := by decide +kernel
theorem dX11_takeRow_99 : decode cX11_takeRow 99 = .ok (.iinc 4 1, 3) := by decide +kernel
theorem dX11_takeRow_102 : decode cX11_takeRow 102 = .ok (.goto (-66), 3) := by decide +kernel
theorem dX11_takeRow_105 : decode cX11_takeRow 105 = .ok (.iconst 1, 1) := by decide +kernel
theorem dX11_takeRow_106 : decode cX11_takeRow 106 = .ok (.ireturn, 1) := by decide +kernel
theorem dX11_isInRow_0 : decode cX11_isInRow 0 = .ok (.iconst 0, 1) := by decide +kernel
theorem dX11_isInRow_1 : decode cX11_isInRow 1 = .ok (.istore_n 2, 1) := by decide +kernel
theorem dX11_isInRow_2 : decode cX11_isInRow 2 = .ok (.iload_n 2, 1) := by decide +kernel
theorem dX11_isInRow_3 : decode cX11_isInRow 3 = .ok (.aload_n 0, 1) := by decide +kernel
theorem dX11_isInRow_4 : decode cX11_isInRow 4 = .ok (.getfield 24, 3) := by decide +kernel
theorem dX11_isInRow_7 : decode cX11_isInRow 7 = .ok (.if_icmp .ge 21, 3) := by decide +kernel
theorem dX11_isInRow_10 : decode cX11_isInRow 10 = .ok (.aload_n 0, 1) := by decide +kernel
theorem dX11_isInRow_11 : decode cX11_isInRow 11 = .ok (.getfield 20, 3) := by decide +kernel
theorem dX11_isInRow_14 : decode cX11_isInRow 14 = .ok (.iload_n 2, 1) := by decide +kernel
theorem dX11_isInRow_15 : decode cX11_isInRow 15 = .ok (.iaload, 1) := by decide +kernel
theorem dX11_isInRow_16 : decode cX11_isInRow 16 = .ok (.iload_n 1, 1) := by decide +kernel
theorem dX11_isInRow_17 : decode cX11_isInRow 17 = .ok (.if_icmp .ne 5, 3) := by decide +kernel
theorem dX11_isInRow_20 : decode cX11_isInRow 20 = .ok (.iconst 1, 1) := by decide +kernel
theorem dX11_isInRow_21 : decode cX11_isInRow 21 = .ok (.ireturn, 1) := by decide +kernel
theorem dX11_isInRow_22 : decode cX11_isInRow 22 = .ok (.iinc 2 1, 3) := by decide +kernel
theorem dX11_isInRow_25 : decode cX11_isInRow 25 = .ok (.goto (-23), 3) := by decide +kernel
theorem dX11_isInRow_28 : decode cX11_isInRow 28 = .ok (.iconst 0, 1) := by decide +kernel
theorem dX11_isInRow_29 : decode cX11_isInRow 29 = .ok (.ireturn, 1) := by decide +kernel
theorem dX11_takeLiving_0 : decode cX11_takeLiving 0 = .ok (.aload_n 0, 1) := by decide +kernel
theorem dX11_takeLiving_1 : decode cX11_takeLiving 1 = .ok (.iconst 1, 1) := by decide +kernel
theorem dX11_takeLiving_2 : decode cX11_takeLiving 2 = .ok (.iconst 4, 1) := by decide +kernel
theorem dX11_takeLiving_3 : decode cX11_takeLiving 3 = .ok (.invokevirtual 200, 3) := by decide +kernel
theorem dX11_takeLiving_6 : decode cX11_takeLiving 6 = .ok (.ifCond .ne 5, 3) := by decide +kernel
theorem dX11_takeLiving_9 : decode cX11_takeLiving 9 = .ok (.iconst 0, 1) := by decide +kernel
theorem dX11_takeLiving_10 : decode cX11_takeLiving 10 = .ok (.ireturn, 1) := by decide +kernel
theorem dX11_takeLiving_11 : decode cX11_takeLiving 11 = .ok (.iconst 0, 1) := by decide +kernel
theorem dX11_takeLiving_12 : decode cX11_takeLiving 12 = .ok (.istore_n 1, 1) := by decide +kernel
theorem dX11_takeLiving_13 : decode cX11_takeLiving 13 = .ok (.iload_n 1, 1) := by decide +kernel
theorem dX11_takeLiving_14 : decode cX11_takeLiving 14 = .ok (.aload_n 0, 1) := by decide +kernel
theorem dX11_takeLiving_15 : decode cX11_takeLiving 15 = .ok (.getfield 24, 3) := by decide +kernel
theorem dX11_takeLiving_18 : decode cX11_takeLiving 18 = .ok (.if_icmp .ge 27, 3) := by decide +kernel
theorem dX11_takeLiving_21 : decode cX11_takeLiving 21 = .ok (.aload_n 0, 1) := by decide +kernel
theorem dX11_takeLiving_22 : decode cX11_takeLiving 22 = .ok (.getfield 53, 3) := by decide +kernel
theorem dX11_takeLiving_25 : decode cX11_takeLiving 25 = .ok (.aload_n 0, 1) := by decide +kernel
theorem dX11_takeLiving_26 : decode cX11_takeLiving 26 = .ok (.getfield 20, 3) := by decide +kernel
theorem dX11_takeLiving_29 : decode cX11_takeLiving 29 = .ok (.iload_n 1, 1) := by decide +kernel
theorem dX11_takeLiving_30 : decode cX11_takeLiving 30 = .ok (.iaload, 1) := by decide +kernel
theorem dX11_takeLiving_31 : decode cX11_takeLiving 31 = .ok (.invokevirtual 234, 3) := by decide +kernel
theorem dX11_takeLiving_34 : decode cX11_takeLiving 34 = .ok (.ifCond .eq 5, 3) := by decide +kernel
theorem dX11_takeLiving_37 : decode cX11_takeLiving 37 = .ok (.iconst 0, 1) := by decide +kernel
theorem dX11_takeLiving_38 : decode cX11_takeLiving 38 = .ok (.ireturn, 1) := by decide +kernel
theorem dX11_takeLiving_39 : decode cX11_takeLiving 39 = .ok (.iinc 1 1, 3) := by decide +kernel
theorem dX11_takeLiving_42 : decode cX11_takeLiving 42 = .ok (.goto (-29), 3) := by decide +kernel
theorem dX11_takeLiving_45 : decode cX11_takeLiving 45 = .ok (.iconst 1, 1) := by decide +kernel
theorem dX11_takeLiving_46 : decode cX11_takeLiving 46 = .ok (.ireturn, 1) := by decide +kernel
theorem dX11_isSaleLet_0 : decode cX11_isSaleLet 0 = .ok (.aload_n 0, 1) := by decide +kernel
theorem dX11_isSaleLet_1 : decode cX11_isSaleLet 1 = .ok (.getfield 64, 3) := by decide +kernel
theorem dX11_isSaleLet_4 : decode cX11_isSaleLet 4 = .ok (.invokevirtual 193, 3) := by decide +kernel
theorem dX11_isSaleLet_7 : decode cX11_isSaleLet 7 = .ok (.iconst (-1), 1) := by decide +kernel
theorem dX11_isSaleLet_8 : decode cX11_isSaleLet 8 = .ok (.if_icmp .eq 5, 3) := by decide +kernel
theorem dX11_isSaleLet_11 : decode cX11_isSaleLet 11 = .ok (.iconst 0, 1) := by decide +kernel
theorem dX11_isSaleLet_12 : decode cX11_isSaleLet 12 = .ok (.ireturn, 1) := by decide +kernel
theorem dX11_isSaleLet_13 : decode cX11_isSaleLet 13 = .ok (.iconst 0, 1) := by decide +kernel
theorem dX11_isSaleLet_14 : decode cX11_isSaleLet 14 = .ok (.istore_n 3, 1) := by decide +kernel
theorem dX11_isSaleLet_15 : decode cX11_isSaleLet 15 = .ok (.iload_n 3, 1) := by decide +kernel
theorem dX11_isSaleLet_16 : decode cX11_isSaleLet 16 = .ok (.aload_n 0, 1) := by decide +kernel
theorem dX11_isSaleLet_17 : decode cX11_isSaleLet 17 = .ok (.getfield 53, 3) := by decide +kernel
theorem dX11_isSaleLet_20 : decode cX11_isSaleLet 20 = .ok (.getfield 291, 3) := by decide +kernel
theorem dX11_isSaleLet_23 : decode cX11_isSaleLet 23 = .ok (.if_icmp .ge 42, 3) := by decide +kernel
theorem dX11_isSaleLet_26 : decode cX11_isSaleLet 26 = .ok (.iload_n 3, 1) := by decide +kernel
theorem dX11_isSaleLet_27 : decode cX11_isSaleLet 27 = .ok (.iload_n 1, 1) := by decide +kernel
theorem dX11_isSaleLet_28 : decode cX11_isSaleLet 28 = .ok (.if_icmp .eq 31, 3) := by decide +kernel
theorem dX11_isSaleLet_31 : decode cX11_isSaleLet 31 = .ok (.iload_n 3, 1) := by decide +kernel
theorem dX11_isSaleLet_32 : decode cX11_isSaleLet 32 = .ok (.iload_n 2, 1) := by decide +kernel
theorem dX11_isSaleLet_33 : decode cX11_isSaleLet 33 = .ok (.if_icmp .eq 26, 3) := by decide +kernel
theorem dX11_isSaleLet_36 : decode cX11_isSaleLet 36 = .ok (.aload_n 0, 1) := by decide +kernel
theorem dX11_isSaleLet_37 : decode cX11_isSaleLet 37 = .ok (.getfield 64, 3) := by decide +kernel
theorem dX11_isSaleLet_40 : decode cX11_isSaleLet 40 = .ok (.getfield 184, 3) := by decide +kernel
theorem dX11_isSaleLet_43 : decode cX11_isSaleLet 43 = .ok (.iload_n 3, 1) := by decide +kernel
theorem dX11_isSaleLet_44 : decode cX11_isSaleLet 44 = .ok (.iaload, 1) := by decide +kernel
theorem dX11_isSaleLet_45 : decode cX11_isSaleLet 45 = .ok (.aload_n 0, 1) := by decide +kernel
theorem dX11_isSaleLet_46 : decode cX11_isSaleLet 46 = .ok (.getfield 60, 3) := by decide +kernel
theorem dX11_isSaleLet_49 : decode cX11_isSaleLet 49 = .ok (.getfield 184, 3) := by decide +kernel
theorem dX11_isSaleLet_52 : decode cX11_isSaleLet 52 = .ok (.iload_n 3, 1) := by decide +kernel
theorem dX11_isSaleLet_53 : decode cX11_isSaleLet 53 = .ok (.iaload, 1) := by decide +kernel
theorem dX11_isSaleLet_54 : decode cX11_isSaleLet 54 = .ok (.if_icmp .le 5, 3) := by decide +kernel
theorem dX11_isSaleLet_57 : decode cX11_isSaleLet 57 = .ok (.iconst 0, 1) := by decide +kernel
theorem dX11_isSaleLet_58 : decode cX11_isSaleLet 58 = .ok (.ireturn, 1) := by decide +kernel
theorem dX11_isSaleLet_59 : decode cX11_isSaleLet 59 = .ok (.iinc 3 1, 3) := by decide +kernel
theorem dX11_isSaleLet_62 : decode cX11_isSaleLet 62 = .ok (.goto (-47), 3) := by decide +kernel
theorem dX11_isSaleLet_65 : decode cX11_isSaleLet 65 = .ok (.iconst 1, 1) := by decide +kernel
theorem dX11_isSaleLet_66 : decode cX11_isSaleLet 66 = .ok (.ireturn, 1) := by decide +kernel
theorem dX11_gapBetween_0 : decode cX11_gapBetween 0 = .ok (.iload_n 0, 1) := by decide +kernel
theorem dX11_gapBetween_1 : decode cX11_gapBetween 1 = .ok (.iload_n 1, 1) := by decide +kernel
theorem dX11_gapBetween_2 : decode cX11_gapBetween 2 = .ok (.if_icmp .ge 9, 3) := by decide +kernel
theorem dX11_gapBetween_5 : decode cX11_gapBetween 5 = .ok (.iload_n 1, 1) := by decide +kernel
theorem dX11_gapBetween_6 : decode cX11_gapBetween 6 = .ok (.iload_n 0, 1) := by decide +kernel
theorem dX11_gapBetween_7 : decode cX11_gapBetween 7 = .ok (.isub, 1) := by decide +kernel
theorem dX11_gapBetween_8 : decode cX11_gapBetween 8 = .ok (.goto 6, 3) := by decide +kernel
theorem dX11_gapBetween_11 : decode cX11_gapBetween 11 = .ok (.iload_n 0, 1) := by decide +kernel
theorem dX11_gapBetween_12 : decode cX11_gapBetween 12 = .ok (.iload_n 1, 1) := by decide +kernel
theorem dX11_gapBetween_13 : decode cX11_gapBetween 13 = .ok (.isub, 1) := by decide +kernel
theorem dX11_gapBetween_14 : decode cX11_gapBetween 14 = .ok (.istore_n 2, 1) := by decide +kernel
theorem dX11_gapBetween_15 : decode cX11_gapBetween 15 = .ok (.iload_n 2, 1) := by decide +kernel
theorem dX11_gapBetween_16 : decode cX11_gapBetween 16 = .ok (.sipush 3600, 3) := by decide +kernel
theorem dX11_gapBetween_19 : decode cX11_gapBetween 19 = .ok (.iload_n 2, 1) := by decide +kernel
theorem dX11_gapBetween_20 : decode cX11_gapBetween 20 = .ok (.isub, 1) := by decide +kernel
theorem dX11_gapBetween_21 : decode cX11_gapBetween 21 = .ok (.if_icmp .gt 7, 3) := by decide +kernel
theorem dX11_gapBetween_24 : decode cX11_gapBetween 24 = .ok (.iload_n 2, 1) := by decide +kernel
theorem dX11_gapBetween_25 : decode cX11_gapBetween 25 = .ok (.goto 8, 3) := by decide +kernel
theorem dX11_gapBetween_28 : decode cX11_gapBetween 28 = .ok (.sipush 3600, 3) := by decide +kernel
theorem dX11_gapBetween_31 : decode cX11_gapBetween 31 = .ok (.iload_n 2, 1) := by decide +kernel
theorem dX11_gapBetween_32 : decode cX11_gapBetween 32 = .ok (.isub, 1) := by decide +kernel
theorem dX11_gapBetween_33 : decode cX11_gapBetween 33 = .ok (.ireturn, 1) := by decide +kernel
theorem dX11_reachAt_0 : decode cX11_reachAt 0 = .ok (.bipush 10, 2) := by decide +kernel
theorem dX11_reachAt_2 : decode cX11_reachAt 2 = .ok (.iload_n 1, 1) := by decide +kernel
theorem dX11_reachAt_3 : decode cX11_reachAt 3 = .ok (.iload_n 2, 1) := by decide +kernel
theorem dX11_reachAt_4 : decode cX11_reachAt 4 = .ok (.imul, 1) := by decide +kernel
theorem dX11_reachAt_5 : decode cX11_reachAt 5 = .ok (.iadd, 1) := by decide +kernel
theorem dX11_reachAt_6 : decode cX11_reachAt 6 = .ok (.istore_n 3, 1) := by decide +kernel
theorem dX11_reachAt_7 : decode cX11_reachAt 7 = .ok (.iload_n 3, 1) := by decide +kernel
theorem dX11_reachAt_8 : decode cX11_reachAt 8 = .ok (.ifCond .le 13, 3) := by decide +kernel
theorem dX11_reachAt_11 : decode cX11_reachAt 11 = .ok (.iload_n 0, 1) := by decide +kernel
theorem dX11_reachAt_12 : decode cX11_reachAt 12 = .ok (.sipush 1000, 3) := by decide +kernel
theorem dX11_reachAt_15 : decode cX11_reachAt 15 = .ok (.imul, 1) := by decide +kernel
theorem dX11_reachAt_16 : decode cX11_reachAt 16 = .ok (.iload_n 3, 1) := by decide +kernel
theorem dX11_reachAt_17 : decode cX11_reachAt 17 = .ok (.idiv, 1) := by decide +kernel
theorem dX11_reachAt_18 : decode cX11_reachAt 18 = .ok (.goto 4, 3) := by decide +kernel
theorem dX11_reachAt_21 : decode cX11_reachAt 21 = .ok (.iconst 0, 1) := by decide +kernel
theorem dX11_reachAt_22 : decode cX11_reachAt 22 = .ok (.ireturn, 1) := by decide +kernel
theorem dX12_init_0 : decode cX12_init 0 = .ok (.aload_n 0, 1) := by decide +kernel
theorem dX12_init_1 : decode cX12_init 1 = .ok (.invokespecial 1, 3) := by decide +kernel
theorem dX12_init_4 : decode cX12_init 4 = .ok (.aload_n 0, 1) := by decide +kernel
theorem dX12_init_5 : decode cX12_init 5 = .ok (.sipush 1240, 3) := by decide +kernel
theorem dX12_init_8 : decode cX12_init 8 = .ok (.newarray .int, 2) := by decide +kernel
theorem dX12_init_10 : decode cX12_init 10 = .ok (.putfield 7, 3) := by decide +kernel
theorem dX12_init_13 : decode cX12_init 13 = .ok (.aload_n 0, 1) := by decide +kernel
theorem dX12_init_14 : decode cX12_init 14 = .ok (.sipush 380, 3) := by decide +kernel
theorem dX12_init_17 : decode cX12_init 17 = .ok (.newarray .int, 2) := by decide +kernel
theorem dX12_init_19 : decode cX12_init 19 = .ok (.putfield 13, 3) := by decide +kernel
theorem dX12_init_22 : decode cX12_init 22 = .ok (.aload_n 0, 1) := by decide +kernel
theorem dX12_init_23 : decode cX12_init 23 = .ok (.sipush 340, 3) := by decide +kernel
theorem dX12_init_26 : decode cX12_init 26 = .ok (.newarray .int, 2) := by decide +kernel
theorem dX12_init_28 : decode cX12_init 28 = .ok (.putfield 16, 3) := by decide +kernel
theorem dX12_init_31 : decode cX12_init 31 = .ok (.aload_n 0, 1) := by decide +kernel
theorem dX12_init_32 : decode cX12_init 32 = .ok (.sipush 760, 3) := by decide +kernel
theorem dX12_init_35 : decode cX12_init 35 = .ok (.newarray .int, 2) := by decide +kernel
theorem dX12_init_37 : decode cX12_init 37 = .ok (.putfield 19, 3) := by decide +kernel
theorem dX12_init_40 : decode cX12_init 40 = .ok (.aload_n 0, 1) := by decide +kernel
theorem dX12_init_41 : decode cX12_init 41 = .ok (.bipush 16, 2) := by decide +kernel
theorem dX12_init_43 : decode cX12_init 43 = .ok (.newarray .long, 2) := by decide +kernel
theorem dX12_init_45 : decode cX12_init 45 = .ok (.putfield 22, 3) := by decide +kernel
theorem dX12_init_48 : decode cX12_init 48 = .ok (.aload_n 0, 1) := by decide +kernel
theorem dX12_init_49 : decode cX12_init 49 = .ok (.bipush 16, 2) := by decide +kernel
theorem dX12_init_51 : decode cX12_init 51 = .ok (.newarray .long, 2) := by decide +kernel
theorem dX12_init_53 : decode cX12_init 53 = .ok (.putfield 26, 3) := by decide +kernel
theorem dX12_init_56 : decode cX12_init 56 = .ok (.aload_n 0, 1) := by decide +kernel
theorem dX12_init_57 : decode cX12_init 57 = .ok (.bipush 32, 2) := by decide +kernel
theorem dX12_init_59 : decode cX12_init 59 = .ok (.newarray .long, 2) := by decide +kernel
theorem dX12_init_61 : decode cX12_init 61 = .ok (.putfield 29, 3) := by decide +kernel
theorem dX12_init_64 : decode cX12_init 64 = .ok (.aload_n 0, 1) := by decide +kernel
theorem dX12_init_65 : decode cX12_init 65 = .ok (.bipush 24, 2) := by decide +kernel
theorem dX12_init_67 : decode cX12_init 67 = .ok (.newarray .long, 2) := by decide +kernel
theorem dX12_init_69 : decode cX12_init 69 = .ok (.putfield 32, 3) := by decide +kernel
theorem dX12_init_72 : decode cX12_init 72 = .ok (.aload_n 0, 1) := by decide +kernel
theorem dX12_init_73 : decode cX12_init 73 = .ok (.iconst 2, 1) := by decide +kernel
theorem dX12_init_74 : decode cX12_init 74 = .ok (.newarray .boolean, 2) := by decide +kernel
theorem dX12_init_76 : decode cX12_init 76 = .ok (.putfield 35, 3) := by decide +kernel
theorem dX12_init_79 : decode cX12_init 79 = .ok (.aload_n 0, 1) := by decide +kernel
theorem dX12_init_80 : decode cX12_init 80 = .ok (.bipush 16, 2) := by decide +kernel
theorem dX12_init_82 : decode cX12_init 82 = .ok (.newarray .int, 2) := by decide +kernel
theorem dX12_init_84 : decode cX12_init 84 = .ok (.putfield 39, 3) := by decide +kernel
theorem dX12_init_87 : decode cX12_init 87 = .ok (.aload_n 0, 1) := by decide +kernel
theorem dX12_init_88 : decode cX12_init 88 = .ok (.bipush 16, 2) := by decide +kernel
theorem dX12_init_90 : decode cX12_init 90 = .ok (.newarray .int, 2) := by decide +kernel
theorem dX12_init_92 : decode cX12_init 92 = .ok (.putfield 42, 3) := by decide +kernel
theorem dX12_init_95 : decode cX12_init 95 = .ok (.aload_n 0, 1) := by decide +kernel
theorem dX12_init_96 : decode cX12_init 96 = .ok (.bipush 12, 2) := by decide +kernel
theorem dX12_init_98 : decode cX12_init 98 = .ok (.newarray .int, 2) := by decide +kernel
theorem dX12_init_100 : decode cX12_init 100 = .ok (.putfield 45, 3) := by decide +kernel
theorem dX12_init_103 : decode cX12_init 103 = .ok (.aload_n 0, 1) := by decide +kernel
theorem dX12_init_104 : decode cX12_init 104 = .ok (.bipush 12, 2) := by decide +kernel
theorem dX12_init_106 : decode cX12_init 106 = .ok (.newarray .int, 2) := by decide +kernel
theorem dX12_init_108 : decode cX12_init 108 = .ok (.putfield 48, 3) := by decide +kernel
theorem dX12_init_111 : decode cX12_init 111 = .ok (.aload_n 0, 1) := by decide +kernel
theorem dX12_init_112 : decode cX12_init 112 = .ok (.sipush 144, 3) := by decide +kernel
theorem dX12_init_115 : decode cX12_init 115 = .ok (.newarray .int, 2) := by decide +kernel
theorem dX12_init_117 : decode cX12_init 117 = .ok (.putfield 51, 3) := by decide +kernel
theorem dX12_init_120 : decode cX12_init 120 = .ok (.aload_n 0, 1) := by decide +kernel
theorem dX12_init_121 : decode cX12_init 121 = .ok (.bipush 7, 2) := by decide +kernel
theorem dX12_init_123 : decode cX12_init 123 = .ok (.newarray .int, 2) := by decide +kernel
theorem dX12_init_125 : decode cX12_init 125 = .ok (.putfield 54, 3) := by decide +kernel
theorem dX12_init_128 : decode cX12_init 128 = .ok (.aload_n 0, 1) := by decide +kernel
theorem dX12_init_129 : decode cX12_init 129 = .ok (.bipush 12, 2) := by decide +kernel
theorem dX12_init_131 : decode cX12_init 131 = .ok (.newarray .int, 2) := by decide +kernel
theorem dX12_init_133 : decode cX12_init 133 = .ok (.putfield 57, 3) := by decide +kernel
theorem dX12_init_136 : decode cX12_init 136 = .ok (.aload_n 0, 1) := by decide +kernel
theorem dX12_init_137 : decode cX12_init 137 = .ok (.bipush 7, 2) := by decide +kernel
theorem dX12_init_139 : decode cX12_init 139 = .ok (.newarray .int, 2) := by decide +kernel
theorem dX12_init_141 : decode cX12_init 141 = .ok (.putfield 60, 3) := by decide +kernel
theorem dX12_init_144 : decode cX12_init 144 = .ok (.aload_n 0, 1) := by decide +kernel
theorem dX12_init_145 : decode cX12_init 145 = .ok (.bipush 32, 2) := by decide +kernel
theorem dX12_init_147 : decode cX12_init 147 = .ok (.newarray .int, 2) := by decide +kernel
theorem dX12_init_149 : decode cX12_init 149 = .ok (.putfield 63, 3) := by decide +kernel
theorem dX12_init_152 : decode cX12_init 152 = .ok (.aload_n 0, 1) := by decide +kernel
theorem dX12_init_153 : decode cX12_init 153 = .ok (.bipush 32, 2) := by decide +kernel
theorem dX12_init_155 : decode cX12_init 155 = .ok (.newarray .int, 2) := by decide +kernel
theorem dX12_init_157 : decode cX12_init 157 = .ok (.putfield 66, 3) := by decide +kernel
theorem dX12_init_160 : decode cX12_init 160 = .ok (.aload_n 0, 1) := by decide +kernel
theorem dX12_init_161 : decode cX12_init 161 = .ok (.bipush 16, 2) := by decide +kernel
theorem dX12_init_163 : decode cX12_init 163 = .ok (.newarray .int, 2) := by decide +kernel
theorem dX12_init_165 : decode cX12_init 165 = .ok (.putfield 69, 3) := by decide +kernel
theorem dX12_init_168 : decode cX12_init 168 = .ok (.aload_n 0, 1) := by decide +kernel
theorem dX12_init_169 : decode cX12_init 169 = .ok (.bipush 16, 2) := by decide +kernel
theorem dX12_init_171 : decode cX12_init 171 = .ok (.newarray .int, 2) := by decide +kernel
theorem dX12_init_173 : decode cX12_init 173 = .ok (.putfield 72, 3) := by decide +kernel
theorem dX12_init_176 : decode cX12_init 176 = .ok (.aload_n 0, 1) := by decide +kernel
theorem dX12_init_177 : decode cX12_init 177 = .ok (.iconst (-1), 1) := by decide +kernel
theorem dX12_init_178 : decode cX12_init 178 = .ok (.putfield 75, 3) := by decide +kernel
theorem dX12_init_181 : decode cX12_init 181 = .ok (.aload_n 0, 1) := by decide +kernel
theorem dX12_init_182 : decode cX12_init 182 = .ok (.bipush 6, 2) := by decide +kernel
theorem dX12_init_184 : decode cX12_init 184 = .ok (.newarray .int, 2) := by decide +kernel
theorem dX12_init_186 : decode cX12_init 186 = .ok (.putfield 79, 3) := by decide +kernel
theorem dX12_init_189 : decode cX12_init 189 = .ok (.aload_n 0, 1) := by decide +kernel
theorem dX12_init_190 : decode cX12_init 190 = .ok (.bipush 16, 2) := by decide +kernel
theorem dX12_init_192 : decode cX12_init 192 = .ok (.newarray .int, 2) := by decide +kernel
theorem dX12_init_194 : decode cX12_init 194 = .ok (.putfield 82, 3) := by decide +kernel
theorem dX12_init_197 : decode cX12_init 197 = .ok (.aload_n 0, 1) := by decide +kernel
theorem dX12_init_198 : decode cX12_init 198 = .ok (.bipush 64, 2) := by decide +kernel
theorem dX12_init_200 : decode cX12_init 200 = .ok (.newarray .int, 2) := by decide +kernel
theorem dX12_init_202 : decode cX12_init 202 = .ok (.putfield 85, 3) := by decide +kernel
theorem dX12_init_205 : decode cX12_init 205 = .ok (.aload_n 0, 1) := by decide +kernel
theorem dX12_init_206 : decode cX12_init 206 = .ok (.bipush 64, 2) := by decide +kernel
theorem dX12_init_208 : decode cX12_init 208 = .ok (.newarray .int, 2) := by decide +kernel
theorem dX12_init_210 : decode cX12_init 210 = .ok (.putfield 88, 3) := by decide +kernel
theorem dX12_init_213 : decode cX12_init 213 = .ok (.aload_n 0, 1) := by decide +kernel
theorem dX12_init_214 : decode cX12_init 214 = .ok (.bipush 64, 2) := by decide +kernel
theorem dX12_init_216 : decode cX12_init 216 = .ok (.newarray .int, 2) := by decide +kernel
theorem dX12_init_218 : decode cX12_init 218 = .ok (.putfield 91, 3) := by decide +kernel
theorem dX12_init_221 : decode cX12_init 221 = .ok (.aload_n 0, 1) := by decide +kernel
theorem dX12_init_222 : decode cX12_init 222 = .ok (.bipush 64, 2) := by decide +kernel
theorem dX12_init_224 : decode cX12_init 224 = .ok (.newarray .int, 2) := by decide +kernel
theorem dX12_init_226 : decode cX12_init 226 = .ok (.putfield 94, 3) := by decide +kernel
theorem dX12_init_229 : decode cX12_init 229 = .ok (.return_, 1) := by decide +kernel
theorem dX12_thrown_0 : decode cX12_thrown 0 = .ok (.aload_n 0, 1) := by decide +kernel
theorem dX12_thrown_1 : decode cX12_thrown 1 = .ok (.getfield 97, 3) := by decide +kernel
theorem dX12_thrown_4 : decode cX12_thrown 4 = .ok (.ireturn, 1) := by decide +kernel
theorem dX12_refuse_0 : decode cX12_refuse 0 = .ok (.aload_n 0, 1) := by decide +kernel
theorem dX12_refuse_1 : decode cX12_refuse 1 = .ok (.iconst 1, 1) := by decide +kernel
theorem dX12_refuse_2 : decode cX12_refuse 2 = .ok (.putfield 97, 3) := by decide +kernel
theorem dX12_refuse_5 : decode cX12_refuse 5 = .ok (.iconst 0, 1) := by decide +kernel
theorem dX12_refuse_6 : decode cX12_refuse 6 = .ok (.ireturn, 1) := by decide +kernel
theorem dX12_come_0 : decode cX12_come 0 = .ok (.bipush 24, 2) := by decide +kernel
theorem dX12_come_2 : decode cX12_come 2 = .ok (.istore_n 2, 1) := by decide +kernel
theorem dX12_come_3 : decode cX12_come 3 = .ok (.iload_n 2, 1) := by decide +kernel
theorem dX12_come_4 : decode cX12_come 4 = .ok (.ifCond .lt 35, 3) := by decide +kernel
theorem dX12_come_7 : decode cX12_come 7 = .ok (.aload_n 0, 1) := by decide +kernel
theorem dX12_come_8 : decode cX12_come 8 = .ok (.getfield 7, 3) := by decide +kernel
theorem dX12_come_11 : decode cX12_come 11 = .ok (.aload_n 0, 1) := by decide +kernel
theorem dX12_come_12 : decode cX12_come 12 = .ok (.getfield 100, 3) := by decide +kernel
theorem dX12_come_15 : decode cX12_come 15 = .ok (.iload_n 1, 1) := by decide +kernel
theorem dX12_come_16 : decode cX12_come 16 = .ok (.iload_n 2, 1) := by decide +kernel
theorem dX12_come_17 : decode cX12_come 17 = .ok (.iushr, 1) := by decide +kernel
theorem dX12_come_18 : decode cX12_come 18 = .ok (.sipush 255, 3) := by decide +kernel
theorem dX12_come_21 : decode cX12_come 21 = .ok (.iand, 1) := by decide +kernel
theorem dX12_come_22 : decode cX12_come 22 = .ok (.iastore, 1) := by decide +kernel
theorem dX12_come_23 : decode cX12_come 23 = .ok (.aload_n 0, 1) := by decide +kernel
theorem dX12_come_24 : decode cX12_come 24 = .ok (.dup, 1) := by decide +kernel
theorem dX12_come_25 : decode cX12_come 25 = .ok (.getfield 100, 3) := by decide +kernel
theorem dX12_come_28 : decode cX12_come 28 = .ok (.iconst 1, 1) := by decide +kernel
theorem dX12_come_29 : decode cX12_come 29 = .ok (.iadd, 1) := by decide +kernel
theorem dX12_come_30 : decode cX12_come 30 = .ok (.putfield 100, 3) := by decide +kernel
theorem dX12_come_33 : decode cX12_come 33 = .ok (.iinc 2 (-8), 3) := by decide +kernel
theorem dX12_come_36 : decode cX12_come 36 = .ok (.goto (-33), 3) := by decide +kernel
theorem dX12_come_39 : decode cX12_come 39 = .ok (.return_, 1) := by decide +kernel
theorem dX12_feed_0 : decode cX12_feed 0 = .ok (.aload_n 0, 1) := by decide +kernel
theorem dX12_feed_1 : decode cX12_feed 1 = .ok (.iconst 0, 1) := by decide +kernel
theorem dX12_feed_2 : decode cX12_feed 2 = .ok (.putfield 97, 3) := by decide +kernel
theorem dX12_feed_5 : decode cX12_feed 5 = .ok (.aload_n 0, 1) := by decide +kernel
theorem dX12_feed_6 : decode cX12_feed 6 = .ok (.getfield 100, 3) := by decide +kernel
theorem dX12_feed_9 : decode cX12_feed 9 = .ok (.bipush 20, 2) := by decide +kernel
theorem dX12_feed_11 : decode cX12_feed 11 = .ok (.iadd, 1) := by decide +kernel
theorem dX12_feed_12 : decode cX12_feed 12 = .ok (.sipush 1240, 3) := by decide +kernel
theorem dX12_feed_15 : decode cX12_feed 15 = .ok (.if_icmp .le 5, 3) := by decide +kernel
theorem dX12_feed_18 : decode cX12_feed 18 = .ok (.iconst (-1), 1) := by decide +kernel
theorem dX12_feed_19 : decode cX12_feed 19 = .ok (.ireturn, 1) := by decide +kernel
theorem dX12_feed_20 : decode cX12_feed 20 = .ok (.aload_n 0, 1) := by decide +kernel
theorem dX12_feed_21 : decode cX12_feed 21 = .ok (.iload_n 1, 1) := by decide +kernel
theorem dX12_feed_22 : decode cX12_feed 22 = .ok (.invokevirtual 103, 3) := by decide +kernel
theorem dX12_feed_25 : decode cX12_feed 25 = .ok (.aload_n 0, 1) := by decide +kernel
theorem dX12_feed_26 : decode cX12_feed 26 = .ok (.iload_n 2, 1) := by decide +kernel
theorem dX12_feed_27 : decode cX12_feed 27 = .ok (.invokevirtual 103, 3) := by decide +kernel
theorem dX12_feed_30 : decode cX12_feed 30 = .ok (.aload_n 0, 1) := by decide +kernel
theorem dX12_feed_31 : decode cX12_feed 31 = .ok (.iload_n 3, 1) := by decide +kernel
theorem dX12_feed_32 : decode cX12_feed 32 = .ok (.invokevirtual 103, 3) := by decide +kernel
theorem dX12_feed_35 : decode cX12_feed 35 = .ok (.aload_n 0, 1) := by decide +kernel
theorem dX12_feed_36 : decode cX12_feed 36 = .ok (.iload 4, 2) := by decide +kernel
theorem dX12_feed_38 : decode cX12_feed 38 = .ok (.invokevirtual 103, 3) := by decide +kernel
theorem dX12_feed_41 : decode cX12_feed 41 = .ok (.aload_n 0, 1) := by decide +kernel
theorem dX12_feed_42 : decode cX12_feed 42 = .ok (.iload 5, 2) := by decide +kernel
theorem dX12_feed_44 : decode cX12_feed 44 = .ok (.invokevirtual 103, 3) := by decide +kernel
theorem dX12_feed_47 : decode cX12_feed 47 = .ok (.aload_n 0, 1) := by decide +kernel
theorem dX12_feed_48 : decode cX12_feed 48 = .ok (.getfield 100, 3) := by decide +kernel
theorem dX12_feed_51 : decode cX12_feed 51 = .ok (.ireturn, 1) := by decide +kernel
theorem dX12_end_0 : decode cX12_end 0 = .ok (.aload_n 0, 1) := by decide +kernel
theorem dX12_end_1 : decode cX12_end 1 = .ok (.iconst 0, 1) := by decide +kernel
theorem dX12_end_2 : decode cX12_end 2 = .ok (.putfield 97, 3) := by decide +kernel
theorem dX12_end_5 : decode cX12_end 5 = .ok (.iload_n 1, 1) := by decide +kernel
theorem dX12_end_6 : decode cX12_end 6 = .ok (.ifCond .lt 11, 3) := by decide +kernel
theorem dX12_end_9 : decode cX12_end 9 = .ok (.iload_n 1, 1) := by decide +kernel
theorem dX12_end_10 : decode cX12_end 10 = .ok (.aload_n 0, 1) := by decide +kernel
theorem dX12_end_11 : decode cX12_end 11 = .ok (.getfield 100, 3) := by decide +kernel
theorem dX12_end_14 : decode cX12_end 14 = .ok (.if_icmp .le 5, 3) := by decide +kernel
theorem dX12_end_17 : decode cX12_end 17 = .ok (.iconst 0, 1) := by decide +kernel
theorem dX12_end_18 : decode cX12_end 18 = .ok (.ireturn, 1) := by decide +kernel
theorem dX12_end_19 : decode cX12_end 19 = .ok (.aload_n 0, 1) := by decide +kernel
theorem dX12_end_20 : decode cX12_end 20 = .ok (.iload_n 1, 1) := by decide +kernel
theorem dX12_end_21 : decode cX12_end 21 = .ok (.putfield 100, 3) := by decide +kernel
theorem dX12_end_24 : decode cX12_end 24 = .ok (.iconst 1, 1) := by decide +kernel
theorem dX12_end_25 : decode cX12_end 25 = .ok (.ireturn, 1) := by decide +kernel
theorem dX12_take_0 : decode cX12_take 0 = .ok (.aload_n 0, 1) := by decide +kernel
theorem dX12_take_1 : decode cX12_take 1 = .ok (.getfield 100, 3) := by decide +kernel
theorem dX12_take_4 : decode cX12_take 4 = .ok (.istore_n 1, 1) := by decide +kernel
theorem dX12_take_5 : decode cX12_take 5 = .ok (.aload_n 0, 1) := by decide +kernel
theorem dX12_take_6 : decode cX12_take 6 = .ok (.iconst 0, 1) := by decide +kernel
theorem dX12_take_7 : decode cX12_take 7 = .ok (.putfield 100, 3) := by decide +kernel
theorem dX12_take_10 : decode cX12_take 10 = .ok (.iload_n 1, 1) := by decide +kernel
theorem dX12_take_11 : decode cX12_take 11 = .ok (.ireturn, 1) := by decide +kernel
theorem dX12_isIn_0 : decode cX12_isIn 0 = .ok (.iload_n 0, 1) := by decide +kernel
theorem dX12_isIn_1 : decode cX12_isIn 1 = .ok (.iload_n 1, 1) := by decide +kernel
theorem dX12_isIn_2 : decode cX12_isIn 2 = .ok (.if_icmp .lt 12, 3) := by decide +kernel
theorem dX12_isIn_5 : decode cX12_isIn 5 = .ok (.iload_n 0, 1) := by decide +kernel
theorem dX12_isIn_6 : decode cX12_isIn 6 = .ok (.iload_n 2, 1) := by decide +kernel
theorem dX12_isIn_7 : decode cX12_isIn 7 = .ok (.if_icmp .gt 7, 3) := by decide +kernel
theorem dX12_isIn_10 : decode cX12_isIn 10 = .ok (.iconst 1, 1) := by decide +kernel
theorem dX12_isIn_11 : decode cX12_isIn 11 = .ok (.goto 4, 3) := by decide +kernel
theorem dX12_isIn_14 : decode cX12_isIn 14 = .ok (.iconst 0, 1) := by decide +kernel
theorem dX12_isIn_15 : decode cX12_isIn 15 = .ok (.ireturn, 1) := by decide +kernel
theorem dX12_has_0 : decode cX12_has 0 = .ok (.iload_n 0, 1) := by decide +kernel
theorem dX12_has_1 : decode cX12_has 1 = .ok (.iload_n 1, 1) := by decide +kernel
theorem dX12_has_2 : decode cX12_has 2 = .ok (.ishr, 1) := by decide +kernel
theorem dX12_has_3 : decode cX12_has 3 = .ok (.iconst 1, 1) := by decide +kernel
theorem dX12_has_4 : decode cX12_has 4 = .ok (.iand, 1) := by decide +kernel
theorem dX12_has_5 : decode cX12_has 5 = .ok (.iconst 1, 1) := by decide +kernel
theorem dX12_has_6 : decode cX12_has 6 = .ok (.if_icmp .ne 7, 3) := by decide +kernel
theorem dX12_has_9 : decode cX12_has 9 = .ok (.iconst 1, 1) := by decide +kernel
theorem dX12_has_10 : decode cX12_has 10 = .ok (.goto 4, 3) := by decide +kernel
theorem dX12_has_13 : decode cX12_has 13 = .ok (.iconst 0, 1) := by decide +kernel
theorem dX12_has_14 : decode cX12_has 14 = .ok (.ireturn, 1) := by decide +kernel
theorem dX12_bits_0 : decode cX12_bits 0 = .ok (.iconst 0, 1) := by decide +kernel
theorem dX12_bits_1 : decode cX12_bits 1 = .ok (.istore_n 1, 1) := by decide +kernel
theorem dX12_bits_2 : decode cX12_bits 2 = .ok (.iload_n 0, 1) := by decide +kernel
theorem dX12_bits_3 : decode cX12_bits 3 = .ok (.istore_n 2, 1) := by decide +kernel
theorem dX12_bits_4 : decode cX12_bits 4 = .ok (.iload_n 2, 1) := by decide +kernel
theorem dX12_bits_5 : decode cX12_bits 5 = .ok (.ifCond .eq 15, 3) := by decide +kernel
theorem dX12_bits_8 : decode cX12_bits 8 = .ok (.iinc 1 1, 3) := by decide +kernel
theorem dX12_bits_11 : decode cX12_bits 11 = .ok (.iload_n 2, 1) := by decide +kernel
theorem dX12_bits_12 : decode cX12_bits 12 = .ok (.iload_n 2, 1) := by decide +kernel
theorem dX12_bits_13 : decode cX12_bits 13 = .ok (.iconst 1, 1) := by decide +kernel
theorem dX12_bits_14 : decode cX12_bits 14 = .ok (.isub, 1) := by decide +kernel
theorem dX12_bits_15 : decode cX12_bits 15 = .ok (.iand, 1) := by decide +kernel
theorem dX12_bits_16 : decode cX12_bits 16 = .ok (.istore_n 2, 1) := by decide +kernel
theorem dX12_bits_17 : decode cX12_bits 17 = .ok (.goto (-13), 3) := by decide +kernel
theorem dX12_bits_20 : decode cX12_bits 20 = .ok (.iload_n 1, 1) := by decide +kernel
theorem dX12_bits_21 : decode cX12_bits 21 = .ok (.ireturn, 1) := by decide +kernel
theorem dX12_byteAt_0 : decode cX12_byteAt 0 = .ok (.iload_n 1, 1) := by decide +kernel
theorem dX12_byteAt_1 : decode cX12_byteAt 1 = .ok (.aload_n 0, 1) := by decide +kernel
theorem dX12_byteAt_2 : decode cX12_byteAt 2 = .ok (.getfield 107, 3) := by decide +kernel
theorem dX12_byteAt_5 : decode cX12_byteAt 5 = .ok (.if_icmp .ge 12, 3) := by decide +kernel
theorem dX12_byteAt_8 : decode cX12_byteAt 8 = .ok (.aload_n 0, 1) := by decide +kernel
theorem dX12_byteAt_9 : decode cX12_byteAt 9 = .ok (.getfield 7, 3) := by decide +kernel
theorem dX12_byteAt_12 : decode cX12_byteAt 12 = .ok (.iload_n 1, 1) := by decide +kernel
theorem dX12_byteAt_13 : decode cX12_byteAt 13 = .ok (.iaload, 1) := by decide +kernel
theorem dX12_byteAt_14 : decode cX12_byteAt 14 = .ok (.goto 4, 3) := by decide +kernel
theorem dX12_byteAt_17 : decode cX12_byteAt 17 = .ok (.iconst 0, 1) := by decide +kernel
theorem dX12_byteAt_18 : decode cX12_byteAt 18 = .ok (.ireturn, 1) := by decide +kernel
theorem dX12_isDigit_0 : decode cX12_isDigit 0 = .ok (.iload_n 0, 1) := by decide +kernel
theorem dX12_isDigit_1 : decode cX12_isDigit 1 = .ok (.bipush 48, 2) := by decide +kernel
theorem dX12_isDigit_3 : decode cX12_isDigit 3 = .ok (.if_icmp .lt 13, 3) := by decide +kernel
theorem dX12_isDigit_6 : decode cX12_isDigit 6 = .ok (.iload_n 0, 1) := by decide +kernel
theorem dX12_isDigit_7 : decode cX12_isDigit 7 = .ok (.bipush 57, 2) := by decide +kernel
theorem dX12_isDigit_9 : decode cX12_isDigit 9 = .ok (.if_icmp .gt 7, 3) := by decide +kernel
theorem dX12_isDigit_12 : decode cX12_isDigit 12 = .ok (.iconst 1, 1) := by decide +kernel
theorem dX12_isDigit_13 : decode cX12_isDigit 13 = .ok (.goto 4, 3) := by decide +kernel
theorem dX12_isDigit_16 : decode cX12_isDigit 16 = .ok (.iconst 0, 1) := by decide +kernel
theorem dX12_isDigit_17 : decode cX12_isDigit 17 = .ok (.ireturn, 1) := by decide +kernel
theorem dX12_isLetter_0 : decode cX12_isLetter 0 = .ok (.iload_n 0, 1) := by decide +kernel
theorem dX12_isLetter_1 : decode cX12_isLetter 1 = .ok (.bipush 97, 2) := by decide +kernel
theorem dX12_isLetter_3 : decode cX12_isLetter 3 = .ok (.if_icmp .lt 13, 3) := by decide +kernel
theorem dX12_isLetter_6 : decode cX12_isLetter 6 = .ok (.iload_n 0, 1) := by decide +kernel
theorem dX12_isLetter_7 : decode cX12_isLetter 7 = .ok (.bipush 122, 2) := by decide +kernel
theorem dX12_isLetter_9 : decode cX12_isLetter 9 = .ok (.if_icmp .gt 7, 3) := by decide +kernel
theorem dX12_isLetter_12 : decode cX12_isLetter 12 = .ok (.iconst 1, 1) := by decide +kernel
theorem dX12_isLetter_13 : decode cX12_isLetter 13 = .ok (.goto 4, 3) := by decide +kernel
theorem dX12_isLetter_16 : decode cX12_isLetter 16 = .ok (.iconst 0, 1) := by decide +kernel
theorem dX12_isLetter_17 : decode cX12_isLetter 17 = .ok (.ireturn, 1) := by decide +kernel
theorem dX12_go_0 : decode cX12_go 0 = .ok (.aload_n 0, 1) := by decide +kernel
theorem dX12_go_1 : decode cX12_go 1 = .ok (.getfield 110, 3) := by decide +kernel
theorem dX12_go_4 : decode cX12_go 4 = .ok (.aload_n 0, 1) := by decide +kernel
theorem dX12_go_5 : decode cX12_go 5 = .ok (.getfield 107, 3) := by decide +kernel
theorem dX12_go_8 : decode cX12_go 8 = .ok (.if_icmp .ge 44, 3) := by decide +kernel
theorem dX12_go_11 : decode cX12_go 11 = .ok (.aload_n 0, 1) := by decide +kernel
theorem dX12_go_12 : decode cX12_go 12 = .ok (.getfield 7, 3) := by decide +kernel
theorem dX12_go_15 : decode cX12_go 15 = .ok (.aload_n 0, 1) := by decide +kernel
theorem dX12_go_16 : decode cX12_go 16 = .ok (.getfield 110, 3) := by decide +kernel
theorem dX12_go_19 : decode cX12_go 19 = .ok (.iaload, 1) := by decide +kernel
theorem dX12_go_20 : decode cX12_go 20 = .ok (.bipush 32, 2) := by decide +kernel
theorem dX12_go_22 : decode cX12_go 22 = .ok (.if_icmp .eq 17, 3) := by decide +kernel
theorem dX12_go_25 : decode cX12_go 25 = .ok (.aload_n 0, 1) := by decide +kernel
theorem dX12_go_26 : decode cX12_go 26 = .ok (.getfield 7, 3) := by decide +kernel
theorem dX12_go_29 : decode cX12_go 29 = .ok (.aload_n 0, 1) := by decide +kernel
theorem dX12_go_30 : decode cX12_go 30 = .ok (.getfield 110, 3) := by decide +kernel
theorem dX12_go_33 : decode cX12_go 33 = .ok (.iaload, 1) := by decide +kernel
theorem dX12_go_34 : decode cX12_go 34 = .ok (.bipush 10, 2) := by decide +kernel
theorem dX12_go_36 : decode cX12_go 36 = .ok (.if_icmp .ne 16, 3) := by decide +kernel
theorem dX12_go_39 : decode cX12_go 39 = .ok (.aload_n 0, 1) := by decide +kernel
theorem dX12_go_40 : decode cX12_go 40 = .ok (.dup, 1) := by decide +kernel
theorem dX12_go_41 : decode cX12_go 41 = .ok (.getfield 110, 3) := by decide +kernel
theorem dX12_go_44 : decode cX12_go 44 = .ok (.iconst 1, 1) := by decide +kernel
theorem dX12_go_45 : decode cX12_go 45 = .ok (.iadd, 1) := by decide +kernel
theorem dX12_go_46 : decode cX12_go 46 = .ok (.putfield 110, 3) := by decide +kernel
theorem dX12_go_49 : decode cX12_go 49 = .ok (.goto (-49), 3) := by decide +kernel
theorem dX12_go_52 : decode cX12_go 52 = .ok (.aload_n 0, 1) := by decide +kernel
theorem dX12_go_53 : decode cX12_go 53 = .ok (.aload_n 0, 1) := by decide +kernel
theorem dX12_go_54 : decode cX12_go 54 = .ok (.getfield 110, 3) := by decide +kernel
theorem dX12_go_57 : decode cX12_go 57 = .ok (.putfield 113, 3) := by decide +kernel
theorem dX12_go_60 : decode cX12_go 60 = .ok (.aload_n 0, 1) := by decide +kernel
theorem dX12_go_61 : decode cX12_go 61 = .ok (.getfield 107, 3) := by decide +kernel
theorem dX12_go_64 : decode cX12_go 64 = .ok (.sipush 1200, 3) := by decide +kernel
theorem dX12_go_67 : decode cX12_go 67 = .ok (.if_icmp .le 26, 3) := by decide +kernel
theorem dX12_go_70 : decode cX12_go 70 = .ok (.aload_n 0, 1) := by decide +kernel
theorem dX12_go_71 : decode cX12_go 71 = .ok (.getfield 113, 3) := by decide +kernel
theorem dX12_go_74 : decode cX12_go 74 = .ok (.sipush 1200, 3) := by decide +kernel
theorem dX12_go_77 : decode cX12_go 77 = .ok (.if_icmp .lt 16, 3) := by decide +kernel
theorem dX12_go_80 : decode cX12_go 80 = .ok (.aload_n 0, 1) := by decide +kernel
theorem dX12_go_81 : decode cX12_go 81 = .ok (.sipush 1200, 3) := by decide +kernel
theorem dX12_go_84 : decode cX12_go 84 = .ok (.putfield 113, 3) := by decide +kernel
theorem dX12_go_87 : decode cX12_go 87 = .ok (.aload_n 0, 1) := by decide +kernel
theorem dX12_go_88 : decode cX12_go 88 = .ok (.iconst 1, 1) := by decide +kernel
theorem dX12_go_89 : decode cX12_go 89 = .ok (.putfield 116, 3) := by decide +kernel
theorem dX12_go_92 : decode cX12_go 92 = .ok (.return_, 1) := by decide +kernel
theorem dX12_go_93 : decode cX12_go 93 = .ok (.aload_n 0, 1) := by decide +kernel
theorem dX12_go_94 : decode cX12_go 94 = .ok (.getfield 110, 3) := by decide +kernel
theorem dX12_go_97 : decode cX12_go 97 = .ok (.aload_n 0, 1) := by decide +kernel
theorem dX12_go_98 : decode cX12_go 98 = .ok (.getfield 107, 3) := by decide +kernel
theorem dX12_go_101 : decode cX12_go 101 = .ok (.if_icmp .lt 9, 3) := by decide +kernel
theorem dX12_go_104 : decode cX12_go 104 = .ok (.aload_n 0, 1) := by decide +kernel
theorem dX12_go_105 : decode cX12_go 105 = .ok (.iconst 0, 1) := by decide +kernel
theorem dX12_go_106 : decode cX12_go 106 = .ok (.putfield 116, 3) := by decide +kernel
theorem dX12_go_109 : decode cX12_go 109 = .ok (.return_, 1) := by decide +kernel
