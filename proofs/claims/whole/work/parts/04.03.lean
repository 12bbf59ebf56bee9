theorem dX12_tryWorth_66 : decode cX12_tryWorth 66 = .ok (.if_icmp .ge 75, 3) := by decide +kernel
theorem dX12_tryWorth_69 : decode cX12_tryWorth 69 = .ok (.aload_n 0, 1) := by decide +kernel
theorem dX12_tryWorth_70 : decode cX12_tryWorth 70 = .ok (.iload_n 3, 1) := by decide +kernel
theorem dX12_tryWorth_71 : decode cX12_tryWorth 71 = .ok (.iconst 3, 1) := by decide +kernel
theorem dX12_tryWorth_72 : decode cX12_tryWorth 72 = .ok (.invokevirtual 180, 3) := by decide +kernel
theorem dX12_tryWorth_75 : decode cX12_tryWorth 75 = .ok (.iload 5, 2) := by decide +kernel
theorem dX12_tryWorth_77 : decode cX12_tryWorth 77 = .ok (.invokestatic 204, 3) := by decide +kernel
theorem dX12_tryWorth_80 : decode cX12_tryWorth 80 = .ok (.ifCond .eq 55, 3) := by decide +kernel
theorem dX12_tryWorth_83 : decode cX12_tryWorth 83 = .ok (.aload_n 0, 1) := by decide +kernel
theorem dX12_tryWorth_84 : decode cX12_tryWorth 84 = .ok (.iload_n 3, 1) := by decide +kernel
theorem dX12_tryWorth_85 : decode cX12_tryWorth 85 = .ok (.aload_n 0, 1) := by decide +kernel
theorem dX12_tryWorth_86 : decode cX12_tryWorth 86 = .ok (.getfield 13, 3) := by decide +kernel
theorem dX12_tryWorth_89 : decode cX12_tryWorth 89 = .ok (.iconst 5, 1) := by decide +kernel
theorem dX12_tryWorth_90 : decode cX12_tryWorth 90 = .ok (.iload 4, 2) := by decide +kernel
theorem dX12_tryWorth_92 : decode cX12_tryWorth 92 = .ok (.iadd, 1) := by decide +kernel
theorem dX12_tryWorth_93 : decode cX12_tryWorth 93 = .ok (.iaload, 1) := by decide +kernel
theorem dX12_tryWorth_94 : decode cX12_tryWorth 94 = .ok (.invokevirtual 272, 3) := by decide +kernel
theorem dX12_tryWorth_97 : decode cX12_tryWorth 97 = .ok (.ifCond .ne 6, 3) := by decide +kernel
theorem dX12_tryWorth_100 : decode cX12_tryWorth 100 = .ok (.goto 35, 3) := by decide +kernel
theorem dX12_tryWorth_103 : decode cX12_tryWorth 103 = .ok (.aload_n 0, 1) := by decide +kernel
theorem dX12_tryWorth_104 : decode cX12_tryWorth 104 = .ok (.iload_n 3, 1) := by decide +kernel
theorem dX12_tryWorth_105 : decode cX12_tryWorth 105 = .ok (.aload_n 0, 1) := by decide +kernel
theorem dX12_tryWorth_106 : decode cX12_tryWorth 106 = .ok (.getfield 13, 3) := by decide +kernel
theorem dX12_tryWorth_109 : decode cX12_tryWorth 109 = .ok (.iconst 5, 1) := by decide +kernel
theorem dX12_tryWorth_110 : decode cX12_tryWorth 110 = .ok (.iload 4, 2) := by decide +kernel
theorem dX12_tryWorth_112 : decode cX12_tryWorth 112 = .ok (.iadd, 1) := by decide +kernel
theorem dX12_tryWorth_113 : decode cX12_tryWorth 113 = .ok (.iaload, 1) := by decide +kernel
theorem dX12_tryWorth_114 : decode cX12_tryWorth 114 = .ok (.iload 5, 2) := by decide +kernel
theorem dX12_tryWorth_116 : decode cX12_tryWorth 116 = .ok (.invokevirtual 243, 3) := by decide +kernel
theorem dX12_tryWorth_119 : decode cX12_tryWorth 119 = .ok (.aload_n 0, 1) := by decide +kernel
theorem dX12_tryWorth_120 : decode cX12_tryWorth 120 = .ok (.iload_n 1, 1) := by decide +kernel
theorem dX12_tryWorth_121 : decode cX12_tryWorth 121 = .ok (.iconst 1, 1) := by decide +kernel
theorem dX12_tryWorth_122 : decode cX12_tryWorth 122 = .ok (.iadd, 1) := by decide +kernel
theorem dX12_tryWorth_123 : decode cX12_tryWorth 123 = .ok (.iload_n 2, 1) := by decide +kernel
theorem dX12_tryWorth_124 : decode cX12_tryWorth 124 = .ok (.aload_n 0, 1) := by decide +kernel
theorem dX12_tryWorth_125 : decode cX12_tryWorth 125 = .ok (.iload_n 3, 1) := by decide +kernel
theorem dX12_tryWorth_126 : decode cX12_tryWorth 126 = .ok (.bipush 7, 2) := by decide +kernel
theorem dX12_tryWorth_128 : decode cX12_tryWorth 128 = .ok (.invokevirtual 180, 3) := by decide +kernel
theorem dX12_tryWorth_131 : decode cX12_tryWorth 131 = .ok (.iadd, 1) := by decide +kernel
theorem dX12_tryWorth_132 : decode cX12_tryWorth 132 = .ok (.invokevirtual 341, 3) := by decide +kernel
theorem dX12_tryWorth_135 : decode cX12_tryWorth 135 = .ok (.iinc 5 1, 3) := by decide +kernel
theorem dX12_tryWorth_138 : decode cX12_tryWorth 138 = .ok (.goto (-75), 3) := by decide +kernel
theorem dX12_tryWorth_141 : decode cX12_tryWorth 141 = .ok (.iinc 4 1, 3) := by decide +kernel
theorem dX12_tryWorth_144 : decode cX12_tryWorth 144 = .ok (.goto (-95), 3) := by decide +kernel
theorem dX12_tryWorth_147 : decode cX12_tryWorth 147 = .ok (.aload_n 0, 1) := by decide +kernel
theorem dX12_tryWorth_148 : decode cX12_tryWorth 148 = .ok (.iload_n 3, 1) := by decide +kernel
theorem dX12_tryWorth_149 : decode cX12_tryWorth 149 = .ok (.iconst (-1), 1) := by decide +kernel
theorem dX12_tryWorth_150 : decode cX12_tryWorth 150 = .ok (.iconst 0, 1) := by decide +kernel
theorem dX12_tryWorth_151 : decode cX12_tryWorth 151 = .ok (.invokevirtual 243, 3) := by decide +kernel
theorem dX12_tryWorth_154 : decode cX12_tryWorth 154 = .ok (.aload_n 0, 1) := by decide +kernel
theorem dX12_tryWorth_155 : decode cX12_tryWorth 155 = .ok (.iload_n 1, 1) := by decide +kernel
theorem dX12_tryWorth_156 : decode cX12_tryWorth 156 = .ok (.iconst 1, 1) := by decide +kernel
theorem dX12_tryWorth_157 : decode cX12_tryWorth 157 = .ok (.iadd, 1) := by decide +kernel
theorem dX12_tryWorth_158 : decode cX12_tryWorth 158 = .ok (.iload_n 2, 1) := by decide +kernel
theorem dX12_tryWorth_159 : decode cX12_tryWorth 159 = .ok (.invokevirtual 341, 3) := by decide +kernel
theorem dX12_tryWorth_162 : decode cX12_tryWorth 162 = .ok (.return_, 1) := by decide +kernel
theorem dX12_most_0 : decode cX12_most 0 = .ok (.aload_n 0, 1) := by decide +kernel
theorem dX12_most_1 : decode cX12_most 1 = .ok (.iconst 0, 1) := by decide +kernel
theorem dX12_most_2 : decode cX12_most 2 = .ok (.putfield 97, 3) := by decide +kernel
theorem dX12_most_5 : decode cX12_most 5 = .ok (.aload_n 0, 1) := by decide +kernel
theorem dX12_most_6 : decode cX12_most 6 = .ok (.iconst 4, 1) := by decide +kernel
theorem dX12_most_7 : decode cX12_most 7 = .ok (.invokevirtual 322, 3) := by decide +kernel
theorem dX12_most_10 : decode cX12_most 10 = .ok (.ifCond .ne 5, 3) := by decide +kernel
theorem dX12_most_13 : decode cX12_most 13 = .ok (.iconst (-1), 1) := by decide +kernel
theorem dX12_most_14 : decode cX12_most 14 = .ok (.ireturn, 1) := by decide +kernel
theorem dX12_most_15 : decode cX12_most 15 = .ok (.aload_n 0, 1) := by decide +kernel
theorem dX12_most_16 : decode cX12_most 16 = .ok (.invokevirtual 284, 3) := by decide +kernel
theorem dX12_most_19 : decode cX12_most 19 = .ok (.aload_n 0, 1) := by decide +kernel
theorem dX12_most_20 : decode cX12_most 20 = .ok (.aload_n 0, 1) := by decide +kernel
theorem dX12_most_21 : decode cX12_most 21 = .ok (.getfield 63, 3) := by decide +kernel
theorem dX12_most_24 : decode cX12_most 24 = .ok (.invokevirtual 325, 3) := by decide +kernel
theorem dX12_most_27 : decode cX12_most 27 = .ok (.aload_n 0, 1) := by decide +kernel
theorem dX12_most_28 : decode cX12_most 28 = .ok (.invokevirtual 329, 3) := by decide +kernel
theorem dX12_most_31 : decode cX12_most 31 = .ok (.aload_n 0, 1) := by decide +kernel
theorem dX12_most_32 : decode cX12_most 32 = .ok (.iconst (-1), 1) := by decide +kernel
theorem dX12_most_33 : decode cX12_most 33 = .ok (.putfield 338, 3) := by decide +kernel
theorem dX12_most_36 : decode cX12_most 36 = .ok (.aload_n 0, 1) := by decide +kernel
theorem dX12_most_37 : decode cX12_most 37 = .ok (.iconst 0, 1) := by decide +kernel
theorem dX12_most_38 : decode cX12_most 38 = .ok (.iconst 0, 1) := by decide +kernel
theorem dX12_most_39 : decode cX12_most 39 = .ok (.invokevirtual 341, 3) := by decide +kernel
theorem dX12_most_42 : decode cX12_most 42 = .ok (.aload_n 0, 1) := by decide +kernel
theorem dX12_most_43 : decode cX12_most 43 = .ok (.aload_n 0, 1) := by decide +kernel
theorem dX12_most_44 : decode cX12_most 44 = .ok (.getfield 338, 3) := by decide +kernel
theorem dX12_most_47 : decode cX12_most 47 = .ok (.iconst (-1), 1) := by decide +kernel
theorem dX12_most_48 : decode cX12_most 48 = .ok (.if_icmp .ne 10, 3) := by decide +kernel
theorem dX12_most_51 : decode cX12_most 51 = .ok (.aload_n 0, 1) := by decide +kernel
theorem dX12_most_52 : decode cX12_most 52 = .ok (.getfield 63, 3) := by decide +kernel
theorem dX12_most_55 : decode cX12_most 55 = .ok (.goto 7, 3) := by decide +kernel
theorem dX12_most_58 : decode cX12_most 58 = .ok (.aload_n 0, 1) := by decide +kernel
theorem dX12_most_59 : decode cX12_most 59 = .ok (.getfield 66, 3) := by decide +kernel
theorem dX12_most_62 : decode cX12_most 62 = .ok (.invokevirtual 332, 3) := by decide +kernel
theorem dX12_most_65 : decode cX12_most 65 = .ok (.aload_n 0, 1) := by decide +kernel
theorem dX12_most_66 : decode cX12_most 66 = .ok (.getfield 338, 3) := by decide +kernel
theorem dX12_most_69 : decode cX12_most 69 = .ok (.ireturn, 1) := by decide +kernel
theorem dX12_louder_0 : decode cX12_louder 0 = .ok (.iconst 0, 1) := by decide +kernel
theorem dX12_louder_1 : decode cX12_louder 1 = .ok (.istore_n 1, 1) := by decide +kernel
theorem dX12_louder_2 : decode cX12_louder 2 = .ok (.iconst 0, 1) := by decide +kernel
theorem dX12_louder_3 : decode cX12_louder 3 = .ok (.istore_n 2, 1) := by decide +kernel
theorem dX12_louder_4 : decode cX12_louder 4 = .ok (.iload_n 2, 1) := by decide +kernel
theorem dX12_louder_5 : decode cX12_louder 5 = .ok (.aload_n 0, 1) := by decide +kernel
theorem dX12_louder_6 : decode cX12_louder 6 = .ok (.invokevirtual 176, 3) := by decide +kernel
theorem dX12_louder_9 : decode cX12_louder 9 = .ok (.if_icmp .ge 100, 3) := by decide +kernel
theorem dX12_louder_12 : decode cX12_louder 12 = .ok (.aload_n 0, 1) := by decide +kernel
theorem dX12_louder_13 : decode cX12_louder 13 = .ok (.iload_n 2, 1) := by decide +kernel
theorem dX12_louder_14 : decode cX12_louder 14 = .ok (.invokevirtual 253, 3) := by decide +kernel
theorem dX12_louder_17 : decode cX12_louder 17 = .ok (.ifCond .eq 86, 3) := by decide +kernel
theorem dX12_louder_20 : decode cX12_louder 20 = .ok (.aload_n 0, 1) := by decide +kernel
theorem dX12_louder_21 : decode cX12_louder 21 = .ok (.iload_n 2, 1) := by decide +kernel
theorem dX12_louder_22 : decode cX12_louder 22 = .ok (.invokevirtual 278, 3) := by decide +kernel
theorem dX12_louder_25 : decode cX12_louder 25 = .ok (.ifCond .eq 6, 3) := by decide +kernel
theorem dX12_louder_28 : decode cX12_louder 28 = .ok (.goto 75, 3) := by decide +kernel
theorem dX12_louder_31 : decode cX12_louder 31 = .ok (.aload_n 0, 1) := by decide +kernel
theorem dX12_louder_32 : decode cX12_louder 32 = .ok (.iload_n 2, 1) := by decide +kernel
theorem dX12_louder_33 : decode cX12_louder 33 = .ok (.bipush 6, 2) := by decide +kernel
theorem dX12_louder_35 : decode cX12_louder 35 = .ok (.invokevirtual 180, 3) := by decide +kernel
theorem dX12_louder_38 : decode cX12_louder 38 = .ok (.bipush 10, 2) := by decide +kernel
theorem dX12_louder_40 : decode cX12_louder 40 = .ok (.aload_n 0, 1) := by decide +kernel
theorem dX12_louder_41 : decode cX12_louder 41 = .ok (.iload_n 2, 1) := by decide +kernel
theorem dX12_louder_42 : decode cX12_louder 42 = .ok (.invokevirtual 275, 3) := by decide +kernel
theorem dX12_louder_45 : decode cX12_louder 45 = .ok (.imul, 1) := by decide +kernel
theorem dX12_louder_46 : decode cX12_louder 46 = .ok (.iadd, 1) := by decide +kernel
theorem dX12_louder_47 : decode cX12_louder 47 = .ok (.bipush 19, 2) := by decide +kernel
theorem dX12_louder_49 : decode cX12_louder 49 = .ok (.iadd, 1) := by decide +kernel
theorem dX12_louder_50 : decode cX12_louder 50 = .ok (.bipush 20, 2) := by decide +kernel
theorem dX12_louder_52 : decode cX12_louder 52 = .ok (.idiv, 1) := by decide +kernel
theorem dX12_louder_53 : decode cX12_louder 53 = .ok (.istore_n 3, 1) := by decide +kernel
theorem dX12_louder_54 : decode cX12_louder 54 = .ok (.aload_n 0, 1) := by decide +kernel
theorem dX12_louder_55 : decode cX12_louder 55 = .ok (.getfield 69, 3) := by decide +kernel
theorem dX12_louder_58 : decode cX12_louder 58 = .ok (.iload_n 2, 1) := by decide +kernel
theorem dX12_louder_59 : decode cX12_louder 59 = .ok (.iload_n 3, 1) := by decide +kernel
theorem dX12_louder_60 : decode cX12_louder 60 = .ok (.iconst 1, 1) := by decide +kernel
theorem dX12_louder_61 : decode cX12_louder 61 = .ok (.if_icmp .ge 7, 3) := by decide +kernel
theorem dX12_louder_64 : decode cX12_louder 64 = .ok (.iconst 1, 1) := by decide +kernel
theorem dX12_louder_65 : decode cX12_louder 65 = .ok (.goto 4, 3) := by decide +kernel
theorem dX12_louder_68 : decode cX12_louder 68 = .ok (.iload_n 3, 1) := by decide +kernel
theorem dX12_louder_69 : decode cX12_louder 69 = .ok (.iastore, 1) := by decide +kernel
theorem dX12_louder_70 : decode cX12_louder 70 = .ok (.aload_n 0, 1) := by decide +kernel
theorem dX12_louder_71 : decode cX12_louder 71 = .ok (.getfield 69, 3) := by decide +kernel
theorem dX12_louder_74 : decode cX12_louder 74 = .ok (.iload_n 2, 1) := by decide +kernel
theorem dX12_louder_75 : decode cX12_louder 75 = .ok (.iaload, 1) := by decide +kernel
theorem dX12_louder_76 : decode cX12_louder 76 = .ok (.sipush 999, 3) := by decide +kernel
theorem dX12_louder_79 : decode cX12_louder 79 = .ok (.if_icmp .le 7, 3) := by decide +kernel
theorem dX12_louder_82 : decode cX12_louder 82 = .ok (.ldc_w 344, 3) := by decide +kernel
theorem dX12_louder_85 : decode cX12_louder 85 = .ok (.ireturn, 1) := by decide +kernel
theorem dX12_louder_86 : decode cX12_louder 86 = .ok (.aload_n 0, 1) := by decide +kernel
theorem dX12_louder_87 : decode cX12_louder 87 = .ok (.getfield 69, 3) := by decide +kernel
theorem dX12_louder_90 : decode cX12_louder 90 = .ok (.iload_n 2, 1) := by decide +kernel
theorem dX12_louder_91 : decode cX12_louder 91 = .ok (.iaload, 1) := by decide +kernel
theorem dX12_louder_92 : decode cX12_louder 92 = .ok (.aload_n 0, 1) := by decide +kernel
theorem dX12_louder_93 : decode cX12_louder 93 = .ok (.getfield 39, 3) := by decide +kernel
theorem dX12_louder_96 : decode cX12_louder 96 = .ok (.iload_n 2, 1) := by decide +kernel
theorem dX12_louder_97 : decode cX12_louder 97 = .ok (.iaload, 1) := by decide +kernel
theorem dX12_louder_98 : decode cX12_louder 98 = .ok (.if_icmp .eq 5, 3) := by decide +kernel
theorem dX12_louder_101 : decode cX12_louder 101 = .ok (.iconst 1, 1) := by decide +kernel
theorem dX12_louder_102 : decode cX12_louder 102 = .ok (.istore_n 1, 1) := by decide +kernel
theorem dX12_louder_103 : decode cX12_louder 103 = .ok (.iinc 2 1, 3) := by decide +kernel
theorem dX12_louder_106 : decode cX12_louder 106 = .ok (.goto (-102), 3) := by decide +kernel
theorem dX12_louder_109 : decode cX12_louder 109 = .ok (.iconst 0, 1) := by decide +kernel
theorem dX12_louder_110 : decode cX12_louder 110 = .ok (.istore_n 2, 1) := by decide +kernel
theorem dX12_louder_111 : decode cX12_louder 111 = .ok (.iload_n 2, 1) := by decide +kernel
theorem dX12_louder_112 : decode cX12_louder 112 = .ok (.aload_n 0, 1) := by decide +kernel
theorem dX12_louder_113 : decode cX12_louder 113 = .ok (.invokevirtual 176, 3) := by decide +kernel
theorem dX12_louder_116 : decode cX12_louder 116 = .ok (.if_icmp .ge 37, 3) := by decide +kernel
theorem dX12_louder_119 : decode cX12_louder 119 = .ok (.aload_n 0, 1) := by decide +kernel
theorem dX12_louder_120 : decode cX12_louder 120 = .ok (.iload_n 2, 1) := by decide +kernel
theorem dX12_louder_121 : decode cX12_louder 121 = .ok (.invokevirtual 253, 3) := by decide +kernel
theorem dX12_louder_124 : decode cX12_louder 124 = .ok (.ifCond .eq 23, 3) := by decide +kernel
theorem dX12_louder_127 : decode cX12_louder 127 = .ok (.aload_n 0, 1) := by decide +kernel
theorem dX12_louder_128 : decode cX12_louder 128 = .ok (.iload_n 2, 1) := by decide +kernel
theorem dX12_louder_129 : decode cX12_louder 129 = .ok (.invokevirtual 278, 3) := by decide +kernel
theorem dX12_louder_132 : decode cX12_louder 132 = .ok (.ifCond .ne 15, 3) := by decide +kernel
theorem dX12_louder_135 : decode cX12_louder 135 = .ok (.aload_n 0, 1) := by decide +kernel
theorem dX12_louder_136 : decode cX12_louder 136 = .ok (.getfield 39, 3) := by decide +kernel
theorem dX12_louder_139 : decode cX12_louder 139 = .ok (.iload_n 2, 1) := by decide +kernel
theorem dX12_louder_140 : decode cX12_louder 140 = .ok (.aload_n 0, 1) := by decide +kernel
theorem dX12_louder_141 : decode cX12_louder 141 = .ok (.getfield 69, 3) := by decide +kernel
theorem dX12_louder_144 : decode cX12_louder 144 = .ok (.iload_n 2, 1) := by decide +kernel
theorem dX12_louder_145 : decode cX12_louder 145 = .ok (.iaload, 1) := by decide +kernel
theorem dX12_louder_146 : decode cX12_louder 146 = .ok (.iastore, 1) := by decide +kernel
theorem dX12_louder_147 : decode cX12_louder 147 = .ok (.iinc 2 1, 3) := by decide +kernel
theorem dX12_louder_150 : decode cX12_louder 150 = .ok (.goto (-39), 3) := by decide +kernel
theorem dX12_louder_153 : decode cX12_louder 153 = .ok (.iload_n 1, 1) := by decide +kernel
theorem dX12_louder_154 : decode cX12_louder 154 = .ok (.ireturn, 1) := by decide +kernel
theorem dX12_fit_0 : decode cX12_fit 0 = .ok (.aload_n 0, 1) := by decide +kernel
theorem dX12_fit_1 : decode cX12_fit 1 = .ok (.iconst 0, 1) := by decide +kernel
theorem dX12_fit_2 : decode cX12_fit 2 = .ok (.putfield 97, 3) := by decide +kernel
theorem dX12_fit_5 : decode cX12_fit 5 = .ok (.aload_n 0, 1) := by decide +kernel
theorem dX12_fit_6 : decode cX12_fit 6 = .ok (.invokevirtual 234, 3) := by decide +kernel
theorem dX12_fit_9 : decode cX12_fit 9 = .ok (.aload_n 0, 1) := by decide +kernel
theorem dX12_fit_10 : decode cX12_fit 10 = .ok (.invokevirtual 284, 3) := by decide +kernel
theorem dX12_fit_13 : decode cX12_fit 13 = .ok (.iconst 0, 1) := by decide +kernel
theorem dX12_fit_14 : decode cX12_fit 14 = .ok (.istore_n 1, 1) := by decide +kernel
theorem dX12_fit_15 : decode cX12_fit 15 = .ok (.iload_n 1, 1) := by decide +kernel
theorem dX12_fit_16 : decode cX12_fit 16 = .ok (.aload_n 0, 1) := by decide +kernel
theorem dX12_fit_17 : decode cX12_fit 17 = .ok (.invokevirtual 176, 3) := by decide +kernel
theorem dX12_fit_20 : decode cX12_fit 20 = .ok (.if_icmp .ge 32, 3) := by decide +kernel
theorem dX12_fit_23 : decode cX12_fit 23 = .ok (.aload_n 0, 1) := by decide +kernel
theorem dX12_fit_24 : decode cX12_fit 24 = .ok (.iload_n 1, 1) := by decide +kernel
theorem dX12_fit_25 : decode cX12_fit 25 = .ok (.invokevirtual 253, 3) := by decide +kernel
theorem dX12_fit_28 : decode cX12_fit 28 = .ok (.ifCond .eq 18, 3) := by decide +kernel
theorem dX12_fit_31 : decode cX12_fit 31 = .ok (.aload_n 0, 1) := by decide +kernel
theorem dX12_fit_32 : decode cX12_fit 32 = .ok (.iload_n 1, 1) := by decide +kernel
theorem dX12_fit_33 : decode cX12_fit 33 = .ok (.invokevirtual 278, 3) := by decide +kernel
theorem dX12_fit_36 : decode cX12_fit 36 = .ok (.ifCond .ne 10, 3) := by decide +kernel
theorem dX12_fit_39 : decode cX12_fit 39 = .ok (.aload_n 0, 1) := by decide +kernel
theorem dX12_fit_40 : decode cX12_fit 40 = .ok (.getfield 39, 3) := by decide +kernel
theorem dX12_fit_43 : decode cX12_fit 43 = .ok (.iload_n 1, 1) := by decide +kernel
theorem dX12_fit_44 : decode cX12_fit 44 = .ok (.iconst 1, 1) := by decide +kernel
theorem dX12_fit_45 : decode cX12_fit 45 = .ok (.iastore, 1) := by decide +kernel
theorem dX12_fit_46 : decode cX12_fit 46 = .ok (.iinc 1 1, 3) := by decide +kernel
theorem dX12_fit_49 : decode cX12_fit 49 = .ok (.goto (-34), 3) := by decide +kernel
theorem dX12_fit_52 : decode cX12_fit 52 = .ok (.iconst 1, 1) := by decide +kernel
theorem dX12_fit_53 : decode cX12_fit 53 = .ok (.istore_n 1, 1) := by decide +kernel
theorem dX12_fit_54 : decode cX12_fit 54 = .ok (.iload_n 1, 1) := by decide +kernel
theorem dX12_fit_55 : decode cX12_fit 55 = .ok (.iconst 1, 1) := by decide +kernel
theorem dX12_fit_56 : decode cX12_fit 56 = .ok (.if_icmp .ne 11, 3) := by decide +kernel
theorem dX12_fit_59 : decode cX12_fit 59 = .ok (.aload_n 0, 1) := by decide +kernel
theorem dX12_fit_60 : decode cX12_fit 60 = .ok (.invokevirtual 345, 3) := by decide +kernel
theorem dX12_fit_63 : decode cX12_fit 63 = .ok (.istore_n 1, 1) := by decide +kernel
theorem dX12_fit_64 : decode cX12_fit 64 = .ok (.goto (-10), 3) := by decide +kernel
theorem dX12_fit_67 : decode cX12_fit 67 = .ok (.iload_n 1, 1) := by decide +kernel
theorem dX12_fit_68 : decode cX12_fit 68 = .ok (.ldc_w 344, 3) := by decide +kernel
theorem dX12_fit_71 : decode cX12_fit 71 = .ok (.if_icmp .ne 5, 3) := by decide +kernel
theorem dX12_fit_74 : decode cX12_fit 74 = .ok (.iconst (-1), 1) := by decide +kernel
theorem dX12_fit_75 : decode cX12_fit 75 = .ok (.ireturn, 1) := by decide +kernel
theorem dX12_fit_76 : decode cX12_fit 76 = .ok (.iconst 0, 1) := by decide +kernel
theorem dX12_fit_77 : decode cX12_fit 77 = .ok (.istore_n 2, 1) := by decide +kernel
theorem dX12_fit_78 : decode cX12_fit 78 = .ok (.aload_n 0, 1) := by decide +kernel
theorem dX12_fit_79 : decode cX12_fit 79 = .ok (.aload_n 0, 1) := by decide +kernel
theorem dX12_fit_80 : decode cX12_fit 80 = .ok (.invokevirtual 176, 3) := by decide +kernel
theorem dX12_fit_83 : decode cX12_fit 83 = .ok (.putfield 348, 3) := by decide +kernel
theorem dX12_fit_86 : decode cX12_fit 86 = .ok (.iconst 0, 1) := by decide +kernel
theorem dX12_fit_87 : decode cX12_fit 87 = .ok (.istore_n 3, 1) := by decide +kernel
theorem dX12_fit_88 : decode cX12_fit 88 = .ok (.iload_n 3, 1) := by decide +kernel
theorem dX12_fit_89 : decode cX12_fit 89 = .ok (.aload_n 0, 1) := by decide +kernel
theorem dX12_fit_90 : decode cX12_fit 90 = .ok (.invokevirtual 176, 3) := by decide +kernel
theorem dX12_fit_93 : decode cX12_fit 93 = .ok (.if_icmp .ge 60, 3) := by decide +kernel
theorem dX12_fit_96 : decode cX12_fit 96 = .ok (.aload_n 0, 1) := by decide +kernel
theorem dX12_fit_97 : decode cX12_fit 97 = .ok (.getfield 72, 3) := by decide +kernel
theorem dX12_fit_100 : decode cX12_fit 100 = .ok (.iload_n 3, 1) := by decide +kernel
theorem dX12_fit_101 : decode cX12_fit 101 = .ok (.aload_n 0, 1) := by decide +kernel
theorem dX12_fit_102 : decode cX12_fit 102 = .ok (.iload_n 3, 1) := by decide +kernel
theorem dX12_fit_103 : decode cX12_fit 103 = .ok (.invokevirtual 253, 3) := by decide +kernel
theorem dX12_fit_106 : decode cX12_fit 106 = .ok (.ifCond .eq 20, 3) := by decide +kernel
theorem dX12_fit_109 : decode cX12_fit 109 = .ok (.aload_n 0, 1) := by decide +kernel
theorem dX12_fit_110 : decode cX12_fit 110 = .ok (.iload_n 3, 1) := by decide +kernel
theorem dX12_fit_111 : decode cX12_fit 111 = .ok (.invokevirtual 278, 3) := by decide +kernel
theorem dX12_fit_114 : decode cX12_fit 114 = .ok (.ifCond .ne 12, 3) := by decide +kernel
theorem dX12_fit_117 : decode cX12_fit 117 = .ok (.aload_n 0, 1) := by decide +kernel
theorem dX12_fit_118 : decode cX12_fit 118 = .ok (.getfield 39, 3) := by decide +kernel
theorem dX12_fit_121 : decode cX12_fit 121 = .ok (.iload_n 3, 1) := by decide +kernel
theorem dX12_fit_122 : decode cX12_fit 122 = .ok (.iaload, 1) := by decide +kernel
theorem dX12_fit_123 : decode cX12_fit 123 = .ok (.goto 4, 3) := by decide +kernel
theorem dX12_fit_126 : decode cX12_fit 126 = .ok (.iconst (-1), 1) := by decide +kernel
theorem dX12_fit_127 : decode cX12_fit 127 = .ok (.iastore, 1) := by decide +kernel
theorem dX12_fit_128 : decode cX12_fit 128 = .ok (.aload_n 0, 1) := by decide +kernel
theorem dX12_fit_129 : decode cX12_fit 129 = .ok (.getfield 72, 3) := by decide +kernel
theorem dX12_fit_132 : decode cX12_fit 132 = .ok (.iload_n 3, 1) := by decide +kernel
theorem dX12_fit_133 : decode cX12_fit 133 = .ok (.iaload, 1) := by decide +kernel
theorem dX12_fit_134 : decode cX12_fit 134 = .ok (.iconst (-1), 1) := by decide +kernel
theorem dX12_fit_135 : decode cX12_fit 135 = .ok (.if_icmp .eq 12, 3) := by decide +kernel
theorem dX12_fit_138 : decode cX12_fit 138 = .ok (.iload_n 2, 1) := by decide +kernel
theorem dX12_fit_139 : decode cX12_fit 139 = .ok (.aload_n 0, 1) := by decide +kernel
theorem dX12_fit_140 : decode cX12_fit 140 = .ok (.getfield 72, 3) := by decide +kernel
theorem dX12_fit_143 : decode cX12_fit 143 = .ok (.iload_n 3, 1) := by decide +kernel
theorem dX12_fit_144 : decode cX12_fit 144 = .ok (.iaload, 1) := by decide +kernel
theorem dX12_fit_145 : decode cX12_fit 145 = .ok (.iadd, 1) := by decide +kernel
theorem dX12_fit_146 : decode cX12_fit 146 = .ok (.istore_n 2, 1) := by decide +kernel
theorem dX12_fit_147 : decode cX12_fit 147 = .ok (.iinc 3 1, 3) := by decide +kernel
theorem dX12_fit_150 : decode cX12_fit 150 = .ok (.goto (-62), 3) := by decide +kernel
theorem dX12_fit_153 : decode cX12_fit 153 = .ok (.iload_n 2, 1) := by decide +kernel
theorem dX12_fit_154 : decode cX12_fit 154 = .ok (.ireturn, 1) := by decide +kernel
theorem dX12_fitOf_0 : decode cX12_fitOf 0 = .ok (.aload_n 0, 1) := by decide +kernel
theorem dX12_fitOf_1 : decode cX12_fitOf 1 = .ok (.iconst 0, 1) := by decide +kernel
theorem dX12_fitOf_2 : decode cX12_fitOf 2 = .ok (.putfield 97, 3) := by decide +kernel
theorem dX12_fitOf_5 : decode cX12_fitOf 5 = .ok (.iload_n 1, 1) := by decide +kernel
theorem dX12_fitOf_6 : decode cX12_fitOf 6 = .ok (.ifCond .lt 20, 3) := by decide +kernel
theorem dX12_fitOf_9 : decode cX12_fitOf 9 = .ok (.iload_n 1, 1) := by decide +kernel
theorem dX12_fitOf_10 : decode cX12_fitOf 10 = .ok (.aload_n 0, 1) := by decide +kernel
theorem dX12_fitOf_11 : decode cX12_fitOf 11 = .ok (.getfield 348, 3) := by decide +kernel
theorem dX12_fitOf_14 : decode cX12_fitOf 14 = .ok (.if_icmp .ge 12, 3) := by decide +kernel
theorem dX12_fitOf_17 : decode cX12_fitOf 17 = .ok (.aload_n 0, 1) := by decide +kernel
theorem dX12_fitOf_18 : decode cX12_fitOf 18 = .ok (.getfield 72, 3) := by decide +kernel
theorem dX12_fitOf_21 : decode cX12_fitOf 21 = .ok (.iload_n 1, 1) := by decide +kernel
theorem dX12_fitOf_22 : decode cX12_fitOf 22 = .ok (.iaload, 1) := by decide +kernel
theorem dX12_fitOf_23 : decode cX12_fitOf 23 = .ok (.goto 4, 3) := by decide +kernel
theorem dX12_fitOf_26 : decode cX12_fitOf 26 = .ok (.iconst (-1), 1) := by decide +kernel
theorem dX12_fitOf_27 : decode cX12_fitOf 27 = .ok (.ireturn, 1) := by decide +kernel
theorem dX12_isMovable_0 : decode cX12_isMovable 0 = .ok (.iconst 0, 1) := by decide +kernel
theorem dX12_isMovable_1 : decode cX12_isMovable 1 = .ok (.istore_n 2, 1) := by decide +kernel
theorem dX12_isMovable_2 : decode cX12_isMovable 2 = .ok (.iload_n 2, 1) := by decide +kernel
theorem dX12_isMovable_3 : decode cX12_isMovable 3 = .ok (.aload_n 0, 1) := by decide +kernel
theorem dX12_isMovable_4 : decode cX12_isMovable 4 = .ok (.invokevirtual 176, 3) := by decide +kernel
theorem dX12_isMovable_7 : decode cX12_isMovable 7 = .ok (.if_icmp .ge 35, 3) := by decide +kernel
theorem dX12_isMovable_10 : decode cX12_isMovable 10 = .ok (.iload_n 1, 1) := by decide +kernel
theorem dX12_isMovable_11 : decode cX12_isMovable 11 = .ok (.iload_n 2, 1) := by decide +kernel
theorem dX12_isMovable_12 : decode cX12_isMovable 12 = .ok (.invokestatic 204, 3) := by decide +kernel
theorem dX12_isMovable_15 : decode cX12_isMovable 15 = .ok (.ifCond .eq 21, 3) := by decide +kernel
theorem dX12_isMovable_18 : decode cX12_isMovable 18 = .ok (.aload_n 0, 1) := by decide +kernel
theorem dX12_isMovable_19 : decode cX12_isMovable 19 = .ok (.iload_n 2, 1) := by decide +kernel
theorem dX12_isMovable_20 : decode cX12_isMovable 20 = .ok (.invokevirtual 253, 3) := by decide +kernel
theorem dX12_isMovable_23 : decode cX12_isMovable 23 = .ok (.ifCond .eq 11, 3) := by decide +kernel
theorem dX12_isMovable_26 : decode cX12_isMovable 26 = .ok (.aload_n 0, 1) := by decide +kernel
theorem dX12_isMovable_27 : decode cX12_isMovable 27 = .ok (.iload_n 2, 1) := by decide +kernel
theorem dX12_isMovable_28 : decode cX12_isMovable 28 = .ok (.invokevirtual 278, 3) := by decide +kernel
theorem dX12_isMovable_31 : decode cX12_isMovable 31 = .ok (.ifCond .eq 5, 3) := by decide +kernel
theorem dX12_isMovable_34 : decode cX12_isMovable 34 = .ok (.iconst 0, 1) := by decide +kernel
theorem dX12_isMovable_35 : decode cX12_isMovable 35 = .ok (.ireturn, 1) := by decide +kernel
theorem dX12_isMovable_36 : decode cX12_isMovable 36 = .ok (.iinc 2 1, 3) := by decide +kernel
theorem dX12_isMovable_39 : decode cX12_isMovable 39 = .ok (.goto (-37), 3) := by decide +kernel
theorem dX12_isMovable_42 : decode cX12_isMovable 42 = .ok (.iconst 1, 1) := by decide +kernel
theorem dX12_isMovable_43 : decode cX12_isMovable 43 = .ok (.ireturn, 1) := by decide +kernel
theorem dX12_letIn_0 : decode cX12_letIn 0 = .ok (.aload_n 0, 1) := by decide +kernel
theorem dX12_letIn_1 : decode cX12_letIn 1 = .ok (.iconst 0, 1) := by decide +kernel
theorem dX12_letIn_2 : decode cX12_letIn 2 = .ok (.putfield 97, 3) := by decide +kernel
theorem dX12_letIn_5 : decode cX12_letIn 5 = .ok (.aload_n 0, 1) := by decide +kernel
theorem dX12_letIn_6 : decode cX12_letIn 6 = .ok (.invokevirtual 234, 3) := by decide +kernel
theorem dX12_letIn_9 : decode cX12_letIn 9 = .ok (.aload_n 0, 1) := by decide +kernel
theorem dX12_letIn_10 : decode cX12_letIn 10 = .ok (.iload_n 1, 1) := by decide +kernel
theorem dX12_letIn_11 : decode cX12_letIn 11 = .ok (.invokevirtual 247, 3) := by decide +kernel
theorem dX12_letIn_14 : decode cX12_letIn 14 = .ok (.ifCond .eq 19, 3) := by decide +kernel
theorem dX12_letIn_17 : decode cX12_letIn 17 = .ok (.aload_n 0, 1) := by decide +kernel
theorem dX12_letIn_18 : decode cX12_letIn 18 = .ok (.iload_n 1, 1) := by decide +kernel
theorem dX12_letIn_19 : decode cX12_letIn 19 = .ok (.invokevirtual 253, 3) := by decide +kernel
theorem dX12_letIn_22 : decode cX12_letIn 22 = .ok (.ifCond .ne 11, 3) := by decide +kernel
theorem dX12_letIn_25 : decode cX12_letIn 25 = .ok (.aload_n 0, 1) := by decide +kernel
theorem dX12_letIn_26 : decode cX12_letIn 26 = .ok (.iload_n 1, 1) := by decide +kernel
theorem dX12_letIn_27 : decode cX12_letIn 27 = .ok (.invokevirtual 278, 3) := by decide +kernel
theorem dX12_letIn_30 : decode cX12_letIn 30 = .ok (.ifCond .eq 6, 3) := by decide +kernel
theorem dX12_letIn_33 : decode cX12_letIn 33 = .ok (.bipush (-2), 2) := by decide +kernel
theorem dX12_letIn_35 : decode cX12_letIn 35 = .ok (.ireturn, 1) := by decide +kernel
theorem dX12_letIn_36 : decode cX12_letIn 36 = .ok (.aload_n 0, 1) := by decide +kernel
theorem dX12_letIn_37 : decode cX12_letIn 37 = .ok (.invokevirtual 284, 3) := by decide +kernel
theorem dX12_letIn_40 : decode cX12_letIn 40 = .ok (.aload_n 0, 1) := by decide +kernel
theorem dX12_letIn_41 : decode cX12_letIn 41 = .ok (.aload_n 0, 1) := by decide +kernel
theorem dX12_letIn_42 : decode cX12_letIn 42 = .ok (.getfield 63, 3) := by decide +kernel
theorem dX12_letIn_45 : decode cX12_letIn 45 = .ok (.invokevirtual 325, 3) := by decide +kernel
theorem dX12_letIn_48 : decode cX12_letIn 48 = .ok (.iconst 0, 1) := by decide +kernel
theorem dX12_letIn_49 : decode cX12_letIn 49 = .ok (.istore_n 2, 1) := by decide +kernel
theorem dX12_letIn_50 : decode cX12_letIn 50 = .ok (.iload_n 2, 1) := by decide +kernel
theorem dX12_letIn_51 : decode cX12_letIn 51 = .ok (.iconst 3, 1) := by decide +kernel
theorem dX12_letIn_52 : decode cX12_letIn 52 = .ok (.if_icmp .ge 132, 3) := by decide +kernel
theorem dX12_letIn_55 : decode cX12_letIn 55 = .ok (.iconst 0, 1) := by decide +kernel
theorem dX12_letIn_56 : decode cX12_letIn 56 = .ok (.istore_n 3, 1) := by decide +kernel
theorem dX12_letIn_57 : decode cX12_letIn 57 = .ok (.iload_n 3, 1) := by decide +kernel
theorem dX12_letIn_58 : decode cX12_letIn 58 = .ok (.iconst 1, 1) := by decide +kernel
theorem dX12_letIn_59 : decode cX12_letIn 59 = .ok (.aload_n 0, 1) := by decide +kernel
theorem dX12_letIn_60 : decode cX12_letIn 60 = .ok (.invokevirtual 176, 3) := by decide +kernel
theorem dX12_letIn_63 : decode cX12_letIn 63 = .ok (.ishl, 1) := by decide +kernel
theorem dX12_letIn_64 : decode cX12_letIn 64 = .ok (.if_icmp .ge 114, 3) := by decide +kernel
theorem dX12_letIn_67 : decode cX12_letIn 67 = .ok (.iload_n 3, 1) := by decide +kernel
theorem dX12_letIn_68 : decode cX12_letIn 68 = .ok (.invokestatic 351, 3) := by decide +kernel
theorem dX12_letIn_71 : decode cX12_letIn 71 = .ok (.iload_n 2, 1) := by decide +kernel
theorem dX12_letIn_72 : decode cX12_letIn 72 = .ok (.if_icmp .ne 100, 3) := by decide +kernel
theorem dX12_letIn_75 : decode cX12_letIn 75 = .ok (.aload_n 0, 1) := by decide +kernel
theorem dX12_letIn_76 : decode cX12_letIn 76 = .ok (.iload_n 3, 1) := by decide +kernel
theorem dX12_letIn_77 : decode cX12_letIn 77 = .ok (.invokevirtual 354, 3) := by decide +kernel
theorem dX12_letIn_80 : decode cX12_letIn 80 = .ok (.ifCond .ne 6, 3) := by decide +kernel
theorem dX12_letIn_83 : decode cX12_letIn 83 = .ok (.goto 89, 3) := by decide +kernel
theorem dX12_letIn_86 : decode cX12_letIn 86 = .ok (.aload_n 0, 1) := by decide +kernel
theorem dX12_letIn_87 : decode cX12_letIn 87 = .ok (.iconst 1, 1) := by decide +kernel
theorem dX12_letIn_88 : decode cX12_letIn 88 = .ok (.putfield 296, 3) := by decide +kernel
theorem dX12_letIn_91 : decode cX12_letIn 91 = .ok (.aload_n 0, 1) := by decide +kernel
theorem dX12_letIn_92 : decode cX12_letIn 92 = .ok (.getfield 45, 3) := by decide +kernel
theorem dX12_letIn_95 : decode cX12_letIn 95 = .ok (.iconst 0, 1) := by decide +kernel
theorem dX12_letIn_96 : decode cX12_letIn 96 = .ok (.iload_n 1, 1) := by decide +kernel
theorem dX12_letIn_97 : decode cX12_letIn 97 = .ok (.iastore, 1) := by decide +kernel
theorem dX12_letIn_98 : decode cX12_letIn 98 = .ok (.iconst 0, 1) := by decide +kernel
theorem dX12_letIn_99 : decode cX12_letIn 99 = .ok (.istore 4, 2) := by decide +kernel
theorem dX12_letIn_101 : decode cX12_letIn 101 = .ok (.iload 4, 2) := by decide +kernel
theorem dX12_letIn_103 : decode cX12_letIn 103 = .ok (.aload_n 0, 1) := by decide +kernel
theorem dX12_letIn_104 : decode cX12_letIn 104 = .ok (.invokevirtual 176, 3) := by decide +kernel
theorem dX12_letIn_107 : decode cX12_letIn 107 = .ok (.if_icmp .ge 42, 3) := by decide +kernel
theorem dX12_letIn_110 : decode cX12_letIn 110 = .ok (.iload_n 3, 1) := by decide +kernel
theorem dX12_letIn_111 : decode cX12_letIn 111 = .ok (.iload 4, 2) := by decide +kernel
theorem dX12_letIn_113 : decode cX12_letIn 113 = .ok (.invokestatic 204, 3) := by decide +kernel
theorem dX12_letIn_116 : decode cX12_letIn 116 = .ok (.ifCond .ne 6, 3) := by decide +kernel
theorem dX12_letIn_119 : decode cX12_letIn 119 = .ok (.goto 24, 3) := by decide +kernel
theorem dX12_letIn_122 : decode cX12_letIn 122 = .ok (.aload_n 0, 1) := by decide +kernel
theorem dX12_letIn_123 : decode cX12_letIn 123 = .ok (.getfield 45, 3) := by decide +kernel
theorem dX12_letIn_126 : decode cX12_letIn 126 = .ok (.aload_n 0, 1) := by decide +kernel
theorem dX12_letIn_127 : decode cX12_letIn 127 = .ok (.getfield 296, 3) := by decide +kernel
theorem dX12_letIn_130 : decode cX12_letIn 130 = .ok (.iload 4, 2) := by decide +kernel
theorem dX12_letIn_132 : decode cX12_letIn 132 = .ok (.iastore, 1) := by decide +kernel
theorem dX12_letIn_133 : decode cX12_letIn 133 = .ok (.aload_n 0, 1) := by decide +kernel
theorem dX12_letIn_134 : decode cX12_letIn 134 = .ok (.dup, 1) := by decide +kernel
theorem dX12_letIn_135 : decode cX12_letIn 135 = .ok (.getfield 296, 3) := by decide +kernel
theorem dX12_letIn_138 : decode cX12_letIn 138 = .ok (.iconst 1, 1) := by decide +kernel
theorem dX12_letIn_139 : decode cX12_letIn 139 = .ok (.iadd, 1) := by decide +kernel
theorem dX12_letIn_140 : decode cX12_letIn 140 = .ok (.putfield 296, 3) := by decide +kernel
theorem dX12_letIn_143 : decode cX12_letIn 143 = .ok (.iinc 4 1, 3) := by decide +kernel
theorem dX12_letIn_146 : decode cX12_letIn 146 = .ok (.goto (-45), 3) := by decide +kernel
theorem dX12_letIn_149 : decode cX12_letIn 149 = .ok (.aload_n 0, 1) := by decide +kernel
theorem dX12_letIn_150 : decode cX12_letIn 150 = .ok (.invokevirtual 329, 3) := by decide +kernel
theorem dX12_letIn_153 : decode cX12_letIn 153 = .ok (.aload_n 0, 1) := by decide +kernel
theorem dX12_letIn_154 : decode cX12_letIn 154 = .ok (.iconst 0, 1) := by decide +kernel
theorem dX12_letIn_155 : decode cX12_letIn 155 = .ok (.iload_n 3, 1) := by decide +kernel
theorem dX12_letIn_156 : decode cX12_letIn 156 = .ok (.invokevirtual 319, 3) := by decide +kernel
theorem dX12_letIn_159 : decode cX12_letIn 159 = .ok (.ifCond .eq 5, 3) := by decide +kernel
theorem dX12_letIn_162 : decode cX12_letIn 162 = .ok (.iload_n 2, 1) := by decide +kernel
theorem dX12_letIn_163 : decode cX12_letIn 163 = .ok (.ireturn, 1) := by decide +kernel
theorem dX12_letIn_164 : decode cX12_letIn 164 = .ok (.aload_n 0, 1) := by decide +kernel
theorem dX12_letIn_165 : decode cX12_letIn 165 = .ok (.aload_n 0, 1) := by decide +kernel
theorem dX12_letIn_166 : decode cX12_letIn 166 = .ok (.getfield 63, 3) := by decide +kernel
theorem dX12_letIn_169 : decode cX12_letIn 169 = .ok (.invokevirtual 332, 3) := by decide +kernel
theorem dX12_letIn_172 : decode cX12_letIn 172 = .ok (.iinc 3 1, 3) := by decide +kernel
theorem dX12_letIn_175 : decode cX12_letIn 175 = .ok (.goto (-118), 3) := by decide +kernel
theorem dX12_letIn_178 : decode cX12_letIn 178 = .ok (.iinc 2 1, 3) := by decide +kernel
theorem dX12_letIn_181 : decode cX12_letIn 181 = .ok (.goto (-131), 3) := by decide +kernel
theorem dX12_letIn_184 : decode cX12_letIn 184 = .ok (.iconst (-1), 1) := by decide +kernel
theorem dX12_letIn_185 : decode cX12_letIn 185 = .ok (.ireturn, 1) := by decide +kernel
theorem dX12_narrow_0 : decode cX12_narrow 0 = .ok (.aload_n 0, 1) := by decide +kernel
theorem dX12_narrow_1 : decode cX12_narrow 1 = .ok (.iconst 0, 1) := by decide +kernel
theorem dX12_narrow_2 : decode cX12_narrow 2 = .ok (.putfield 97, 3) := by decide +kernel
theorem dX12_narrow_5 : decode cX12_narrow 5 = .ok (.aload_n 0, 1) := by decide +kernel
theorem dX12_narrow_6 : decode cX12_narrow 6 = .ok (.invokevirtual 234, 3) := by decide +kernel
theorem dX12_narrow_9 : decode cX12_narrow 9 = .ok (.iconst 0, 1) := by decide +kernel
theorem dX12_narrow_10 : decode cX12_narrow 10 = .ok (.istore_n 1, 1) := by decide +kernel
theorem dX12_narrow_11 : decode cX12_narrow 11 = .ok (.iconst 0, 1) := by decide +kernel
theorem dX12_narrow_12 : decode cX12_narrow 12 = .ok (.istore_n 2, 1) := by decide +kernel
theorem dX12_narrow_13 : decode cX12_narrow 13 = .ok (.iload_n 2, 1) := by decide +kernel
theorem dX12_narrow_14 : decode cX12_narrow 14 = .ok (.aload_n 0, 1) := by decide +kernel
theorem dX12_narrow_15 : decode cX12_narrow 15 = .ok (.invokevirtual 176, 3) := by decide +kernel
theorem dX12_narrow_18 : decode cX12_narrow 18 = .ok (.if_icmp .ge 47, 3) := by decide +kernel
theorem dX12_narrow_21 : decode cX12_narrow 21 = .ok (.iload_n 1, 1) := by decide +kernel
theorem dX12_narrow_22 : decode cX12_narrow 22 = .ok (.bipush 6, 2) := by decide +kernel
theorem dX12_narrow_24 : decode cX12_narrow 24 = .ok (.if_icmp .ge 41, 3) := by decide +kernel
theorem dX12_narrow_27 : decode cX12_narrow 27 = .ok (.aload_n 0, 1) := by decide +kernel
theorem dX12_narrow_28 : decode cX12_narrow 28 = .ok (.iload_n 2, 1) := by decide +kernel
theorem dX12_narrow_29 : decode cX12_narrow 29 = .ok (.invokevirtual 253, 3) := by decide +kernel
theorem dX12_narrow_32 : decode cX12_narrow 32 = .ok (.ifCond .eq 27, 3) := by decide +kernel
theorem dX12_narrow_35 : decode cX12_narrow 35 = .ok (.aload_n 0, 1) := by decide +kernel
theorem dX12_narrow_36 : decode cX12_narrow 36 = .ok (.iload_n 2, 1) := by decide +kernel
theorem dX12_narrow_37 : decode cX12_narrow 37 = .ok (.bipush 13, 2) := by decide +kernel
theorem dX12_narrow_39 : decode cX12_narrow 39 = .ok (.invokevirtual 180, 3) := by decide +kernel
theorem dX12_narrow_42 : decode cX12_narrow 42 = .ok (.iconst (-1), 1) := by decide +kernel
theorem dX12_narrow_43 : decode cX12_narrow 43 = .ok (.if_icmp .ne 6, 3) := by decide +kernel
theorem dX12_narrow_46 : decode cX12_narrow 46 = .ok (.goto 13, 3) := by decide +kernel
theorem dX12_narrow_49 : decode cX12_narrow 49 = .ok (.aload_n 0, 1) := by decide +kernel
theorem dX12_narrow_50 : decode cX12_narrow 50 = .ok (.getfield 79, 3) := by decide +kernel
theorem dX12_narrow_53 : decode cX12_narrow 53 = .ok (.iload_n 1, 1) := by decide +kernel
theorem dX12_narrow_54 : decode cX12_narrow 54 = .ok (.iload_n 2, 1) := by decide +kernel
theorem dX12_narrow_55 : decode cX12_narrow 55 = .ok (.iastore, 1) := by decide +kernel
theorem dX12_narrow_56 : decode cX12_narrow 56 = .ok (.iinc 1 1, 3) := by decide +kernel
theorem dX12_narrow_59 : decode cX12_narrow 59 = .ok (.iinc 2 1, 3) := by decide +kernel
theorem dX12_narrow_62 : decode cX12_narrow 62 = .ok (.goto (-49), 3) := by decide +kernel
theorem dX12_narrow_65 : decode cX12_narrow 65 = .ok (.iconst (-1), 1) := by decide +kernel
theorem dX12_narrow_66 : decode cX12_narrow 66 = .ok (.istore_n 2, 1) := by decide +kernel
theorem dX12_narrow_67 : decode cX12_narrow 67 = .ok (.iconst 0, 1) := by decide +kernel
theorem dX12_narrow_68 : decode cX12_narrow 68 = .ok (.istore_n 3, 1) := by decide +kernel
theorem dX12_narrow_69 : decode cX12_narrow 69 = .ok (.iconst 0, 1) := by decide +kernel
theorem dX12_narrow_70 : decode cX12_narrow 70 = .ok (.istore 4, 2) := by decide +kernel
theorem dX12_narrow_72 : decode cX12_narrow 72 = .ok (.iload 4, 2) := by decide +kernel
theorem dX12_narrow_74 : decode cX12_narrow 74 = .ok (.iconst 1, 1) := by decide +kernel
theorem dX12_narrow_75 : decode cX12_narrow 75 = .ok (.iload_n 1, 1) := by decide +kernel
theorem dX12_narrow_76 : decode cX12_narrow 76 = .ok (.ishl, 1) := by decide +kernel
theorem dX12_narrow_77 : decode cX12_narrow 77 = .ok (.if_icmp .ge 153, 3) := by decide +kernel
theorem dX12_narrow_80 : decode cX12_narrow 80 = .ok (.aload_n 0, 1) := by decide +kernel
theorem dX12_narrow_81 : decode cX12_narrow 81 = .ok (.invokevirtual 284, 3) := by decide +kernel
theorem dX12_narrow_84 : decode cX12_narrow 84 = .ok (.iconst 0, 1) := by decide +kernel
theorem dX12_narrow_85 : decode cX12_narrow 85 = .ok (.istore 5, 2) := by decide +kernel
theorem dX12_narrow_87 : decode cX12_narrow 87 = .ok (.iconst 0, 1) := by decide +kernel
theorem dX12_narrow_88 : decode cX12_narrow 88 = .ok (.istore 6, 2) := by decide +kernel
theorem dX12_narrow_90 : decode cX12_narrow 90 = .ok (.iconst 0, 1) := by decide +kernel
theorem dX12_narrow_91 : decode cX12_narrow 91 = .ok (.istore 7, 2) := by decide +kernel
theorem dX12_narrow_93 : decode cX12_narrow 93 = .ok (.iload 7, 2) := by decide +kernel
theorem dX12_narrow_95 : decode cX12_narrow 95 = .ok (.iload_n 1, 1) := by decide +kernel
theorem dX12_narrow_96 : decode cX12_narrow 96 = .ok (.if_icmp .ge 88, 3) := by decide +kernel
theorem dX12_narrow_99 : decode cX12_narrow 99 = .ok (.iload 4, 2) := by decide +kernel
theorem dX12_narrow_101 : decode cX12_narrow 101 = .ok (.iload 7, 2) := by decide +kernel
theorem dX12_narrow_103 : decode cX12_narrow 103 = .ok (.invokestatic 204, 3) := by decide +kernel
theorem dX12_narrow_106 : decode cX12_narrow 106 = .ok (.ifCond .ne 6, 3) := by decide +kernel
theorem dX12_narrow_109 : decode cX12_narrow 109 = .ok (.goto 69, 3) := by decide +kernel
theorem dX12_narrow_112 : decode cX12_narrow 112 = .ok (.aload_n 0, 1) := by decide +kernel
theorem dX12_narrow_113 : decode cX12_narrow 113 = .ok (.getfield 79, 3) := by decide +kernel
theorem dX12_narrow_116 : decode cX12_narrow 116 = .ok (.iload 7, 2) := by decide +kernel
theorem dX12_narrow_118 : decode cX12_narrow 118 = .ok (.iaload, 1) := by decide +kernel
theorem dX12_narrow_119 : decode cX12_narrow 119 = .ok (.istore 8, 2) := by decide +kernel
theorem dX12_narrow_121 : decode cX12_narrow 121 = .ok (.iload 5, 2) := by decide +kernel
theorem dX12_narrow_123 : decode cX12_narrow 123 = .ok (.iconst 1, 1) := by decide +kernel
theorem dX12_narrow_124 : decode cX12_narrow 124 = .ok (.iload 8, 2) := by decide +kernel
theorem dX12_narrow_126 : decode cX12_narrow 126 = .ok (.ishl, 1) := by decide +kernel
theorem dX12_narrow_127 : decode cX12_narrow 127 = .ok (.ior, 1) := by decide +kernel
theorem dX12_narrow_128 : decode cX12_narrow 128 = .ok (.istore 5, 2) := by decide +kernel
theorem dX12_narrow_130 : decode cX12_narrow 130 = .ok (.iload 6, 2) := by decide +kernel
theorem dX12_narrow_132 : decode cX12_narrow 132 = .ok (.aload_n 0, 1) := by decide +kernel
theorem dX12_narrow_133 : decode cX12_narrow 133 = .ok (.iload 8, 2) := by decide +kernel
theorem dX12_narrow_135 : decode cX12_narrow 135 = .ok (.bipush 13, 2) := by decide +kernel
theorem dX12_narrow_137 : decode cX12_narrow 137 = .ok (.invokevirtual 180, 3) := by decide +kernel
theorem dX12_narrow_140 : decode cX12_narrow 140 = .ok (.iadd, 1) := by decide +kernel
theorem dX12_narrow_141 : decode cX12_narrow 141 = .ok (.istore 6, 2) := by decide +kernel
theorem dX12_narrow_143 : decode cX12_narrow 143 = .ok (.aload_n 0, 1) := by decide +kernel
theorem dX12_narrow_144 : decode cX12_narrow 144 = .ok (.getfield 42, 3) := by decide +kernel
theorem dX12_narrow_147 : decode cX12_narrow 147 = .ok (.iload 8, 2) := by decide +kernel
theorem dX12_narrow_149 : decode cX12_narrow 149 = .ok (.iconst 2, 1) := by decide +kernel
theorem dX12_narrow_150 : decode cX12_narrow 150 = .ok (.aload_n 0, 1) := by decide +kernel
theorem dX12_narrow_151 : decode cX12_narrow 151 = .ok (.iload 8, 2) := by decide +kernel
theorem dX12_narrow_153 : decode cX12_narrow 153 = .ok (.iconst 5, 1) := by decide +kernel
theorem dX12_narrow_154 : decode cX12_narrow 154 = .ok (.invokevirtual 180, 3) := by decide +kernel
theorem dX12_narrow_157 : decode cX12_narrow 157 = .ok (.imul, 1) := by decide +kernel
theorem dX12_narrow_158 : decode cX12_narrow 158 = .ok (.bipush 99, 2) := by decide +kernel
theorem dX12_narrow_160 : decode cX12_narrow 160 = .ok (.if_icmp .le 8, 3) := by decide +kernel
theorem dX12_narrow_163 : decode cX12_narrow 163 = .ok (.bipush 99, 2) := by decide +kernel
theorem dX12_narrow_165 : decode cX12_narrow 165 = .ok (.goto 12, 3) := by decide +kernel
theorem dX12_narrow_168 : decode cX12_narrow 168 = .ok (.iconst 2, 1) := by decide +kernel
theorem dX12_narrow_169 : decode cX12_narrow 169 = .ok (.aload_n 0, 1) := by decide +kernel
theorem dX12_narrow_170 : decode cX12_narrow 170 = .ok (.iload 8, 2) := by decide +kernel
theorem dX12_narrow_172 : decode cX12_narrow 172 = .ok (.iconst 5, 1) := by decide +kernel
theorem dX12_narrow_173 : decode cX12_narrow 173 = .ok (.invokevirtual 180, 3) := by decide +kernel
theorem dX12_narrow_176 : decode cX12_narrow 176 = .ok (.imul, 1) := by decide +kernel
theorem dX12_narrow_177 : decode cX12_narrow 177 = .ok (.iastore, 1) := by decide +kernel
theorem dX12_narrow_178 : decode cX12_narrow 178 = .ok (.iinc 7 1, 3) := by decide +kernel
theorem dX12_narrow_181 : decode cX12_narrow 181 = .ok (.goto (-88), 3) := by decide +kernel
theorem dX12_narrow_184 : decode cX12_narrow 184 = .ok (.iload_n 2, 1) := by decide +kernel
theorem dX12_narrow_185 : decode cX12_narrow 185 = .ok (.iconst (-1), 1) := by decide +kernel
theorem dX12_narrow_186 : decode cX12_narrow 186 = .ok (.if_icmp .eq 21, 3) := by decide +kernel
theorem dX12_narrow_189 : decode cX12_narrow 189 = .ok (.iload 6, 2) := by decide +kernel
theorem dX12_narrow_191 : decode cX12_narrow 191 = .ok (.iload_n 3, 1) := by decide +kernel
theorem dX12_narrow_192 : decode cX12_narrow 192 = .ok (.if_icmp .gt 32, 3) := by decide +kernel
theorem dX12_narrow_195 : decode cX12_narrow 195 = .ok (.iload 6, 2) := by decide +kernel
theorem dX12_narrow_197 : decode cX12_narrow 197 = .ok (.iload_n 3, 1) := by decide +kernel
theorem dX12_narrow_198 : decode cX12_narrow 198 = .ok (.if_icmp .ne 9, 3) := by decide +kernel
theorem dX12_narrow_201 : decode cX12_narrow 201 = .ok (.iload 5, 2) := by decide +kernel
theorem dX12_narrow_203 : decode cX12_narrow 203 = .ok (.iload_n 2, 1) := by decide +kernel
theorem dX12_narrow_204 : decode cX12_narrow 204 = .ok (.if_icmp .gt 20, 3) := by decide +kernel
theorem dX12_narrow_207 : decode cX12_narrow 207 = .ok (.aload_n 0, 1) := by decide +kernel
theorem dX12_narrow_208 : decode cX12_narrow 208 = .ok (.invokevirtual 287, 3) := by decide +kernel
theorem dX12_narrow_211 : decode cX12_narrow 211 = .ok (.iconst (-1), 1) := by decide +kernel
theorem dX12_narrow_212 : decode cX12_narrow 212 = .ok (.if_icmp .eq 6, 3) := by decide +kernel
theorem dX12_narrow_215 : decode cX12_narrow 215 = .ok (.goto 9, 3) := by decide +kernel
theorem dX12_narrow_218 : decode cX12_narrow 218 = .ok (.iload 5, 2) := by decide +kernel
theorem dX12_narrow_220 : decode cX12_narrow 220 = .ok (.istore_n 2, 1) := by decide +kernel
theorem dX12_narrow_221 : decode cX12_narrow 221 = .ok (.iload 6, 2) := by decide +kernel
theorem dX12_narrow_223 : decode cX12_narrow 223 = .ok (.istore_n 3, 1) := by decide +kernel
theorem dX12_narrow_224 : decode cX12_narrow 224 = .ok (.iinc 4 1, 3) := by decide +kernel
theorem dX12_narrow_227 : decode cX12_narrow 227 = .ok (.goto (-155), 3) := by decide +kernel
theorem dX12_narrow_230 : decode cX12_narrow 230 = .ok (.iload_n 2, 1) := by decide +kernel
theorem dX12_narrow_231 : decode cX12_narrow 231 = .ok (.iconst (-1), 1) := by decide +kernel
theorem dX12_narrow_232 : decode cX12_narrow 232 = .ok (.if_icmp .eq 8, 3) := by decide +kernel
theorem dX12_narrow_235 : decode cX12_narrow 235 = .ok (.aload_n 0, 1) := by decide +kernel
theorem dX12_narrow_236 : decode cX12_narrow 236 = .ok (.iload_n 3, 1) := by decide +kernel
theorem dX12_narrow_237 : decode cX12_narrow 237 = .ok (.putfield 75, 3) := by decide +kernel
theorem dX12_narrow_240 : decode cX12_narrow 240 = .ok (.iload_n 2, 1) := by decide +kernel
theorem dX12_narrow_241 : decode cX12_narrow 241 = .ok (.ireturn, 1) := by decide +kernel
theorem dX12_narrowCost_0 : decode cX12_narrowCost 0 = .ok (.aload_n 0, 1) := by decide +kernel
theorem dX12_narrowCost_1 : decode cX12_narrowCost 1 = .ok (.iconst 0, 1) := by decide +kernel
theorem dX12_narrowCost_2 : decode cX12_narrowCost 2 = .ok (.putfield 97, 3) := by decide +kernel
theorem dX12_narrowCost_5 : decode cX12_narrowCost 5 = .ok (.aload_n 0, 1) := by decide +kernel
theorem dX12_narrowCost_6 : decode cX12_narrowCost 6 = .ok (.getfield 75, 3) := by decide +kernel
theorem dX12_narrowCost_9 : decode cX12_narrowCost 9 = .ok (.ireturn, 1) := by decide +kernel
theorem dX12_isLet_0 : decode cX12_isLet 0 = .ok (.iconst 0, 1) := by decide +kernel
theorem dX12_isLet_1 : decode cX12_isLet 1 = .ok (.istore_n 3, 1) := by decide +kernel
theorem dX12_isLet_2 : decode cX12_isLet 2 = .ok (.iload_n 3, 1) := by decide +kernel
theorem dX12_isLet_3 : decode cX12_isLet 3 = .ok (.aload_n 0, 1) := by decide +kernel
theorem dX12_isLet_4 : decode cX12_isLet 4 = .ok (.invokevirtual 176, 3) := by decide +kernel
theorem dX12_isLet_7 : decode cX12_isLet 7 = .ok (.if_icmp .ge 64, 3) := by decide +kernel
theorem dX12_isLet_10 : decode cX12_isLet 10 = .ok (.aload_n 0, 1) := by decide +kernel
theorem dX12_isLet_11 : decode cX12_isLet 11 = .ok (.iload_n 3, 1) := by decide +kernel
theorem dX12_isLet_12 : decode cX12_isLet 12 = .ok (.invokevirtual 253, 3) := by decide +kernel
theorem dX12_isLet_15 : decode cX12_isLet 15 = .ok (.ifCond .ne 6, 3) := by decide +kernel
theorem dX12_isLet_18 : decode cX12_isLet 18 = .ok (.goto 47, 3) := by decide +kernel
theorem dX12_isLet_21 : decode cX12_isLet 21 = .ok (.iload_n 3, 1) := by decide +kernel
theorem dX12_isLet_22 : decode cX12_isLet 22 = .ok (.iload_n 1, 1) := by decide +kernel
theorem dX12_isLet_23 : decode cX12_isLet 23 = .ok (.if_icmp .eq 24, 3) := by decide +kernel
theorem dX12_isLet_26 : decode cX12_isLet 26 = .ok (.iload_n 3, 1) := by decide +kernel
theorem dX12_isLet_27 : decode cX12_isLet 27 = .ok (.iload_n 2, 1) := by decide +kernel
theorem dX12_isLet_28 : decode cX12_isLet 28 = .ok (.if_icmp .eq 19, 3) := by decide +kernel
theorem dX12_isLet_31 : decode cX12_isLet 31 = .ok (.aload_n 0, 1) := by decide +kernel
theorem dX12_isLet_32 : decode cX12_isLet 32 = .ok (.iload_n 3, 1) := by decide +kernel
theorem dX12_isLet_33 : decode cX12_isLet 33 = .ok (.invokevirtual 275, 3) := by decide +kernel
theorem dX12_isLet_36 : decode cX12_isLet 36 = .ok (.aload_n 0, 1) := by decide +kernel
theorem dX12_isLet_37 : decode cX12_isLet 37 = .ok (.getfield 82, 3) := by decide +kernel
theorem dX12_isLet_40 : decode cX12_isLet 40 = .ok (.iload_n 3, 1) := by decide +kernel
theorem dX12_isLet_41 : decode cX12_isLet 41 = .ok (.iaload, 1) := by decide +kernel
theorem dX12_isLet_42 : decode cX12_isLet 42 = .ok (.if_icmp .le 5, 3) := by decide +kernel
theorem dX12_isLet_45 : decode cX12_isLet 45 = .ok (.iconst 0, 1) := by decide +kernel
theorem dX12_isLet_46 : decode cX12_isLet 46 = .ok (.ireturn, 1) := by decide +kernel
theorem dX12_isLet_47 : decode cX12_isLet 47 = .ok (.aload_n 0, 1) := by decide +kernel
theorem dX12_isLet_48 : decode cX12_isLet 48 = .ok (.iload_n 3, 1) := by decide +kernel
theorem dX12_isLet_49 : decode cX12_isLet 49 = .ok (.invokevirtual 278, 3) := by decide +kernel
theorem dX12_isLet_52 : decode cX12_isLet 52 = .ok (.ifCond .ne 13, 3) := by decide +kernel
theorem dX12_isLet_55 : decode cX12_isLet 55 = .ok (.aload_n 0, 1) := by decide +kernel
theorem dX12_isLet_56 : decode cX12_isLet 56 = .ok (.iload_n 3, 1) := by decide +kernel
theorem dX12_isLet_57 : decode cX12_isLet 57 = .ok (.invokevirtual 281, 3) := by decide +kernel
theorem dX12_isLet_60 : decode cX12_isLet 60 = .ok (.ifCond .eq 5, 3) := by decide +kernel
theorem dX12_isLet_63 : decode cX12_isLet 63 = .ok (.iconst 0, 1) := by decide +kernel
theorem dX12_isLet_64 : decode cX12_isLet 64 = .ok (.ireturn, 1) := by decide +kernel
theorem dX12_isLet_65 : decode cX12_isLet 65 = .ok (.iinc 3 1, 3) := by decide +kernel
theorem dX12_isLet_68 : decode cX12_isLet 68 = .ok (.goto (-66), 3) := by decide +kernel
theorem dX12_isLet_71 : decode cX12_isLet 71 = .ok (.iconst 1, 1) := by decide +kernel
theorem dX12_isLet_72 : decode cX12_isLet 72 = .ok (.ireturn, 1) := by decide +kernel
theorem dX12_sell_0 : decode cX12_sell 0 = .ok (.aload_n 0, 1) := by decide +kernel
theorem dX12_sell_1 : decode cX12_sell 1 = .ok (.iconst 0, 1) := by decide +kernel
theorem dX12_sell_2 : decode cX12_sell 2 = .ok (.putfield 97, 3) := by decide +kernel
theorem dX12_sell_5 : decode cX12_sell 5 = .ok (.aload_n 0, 1) := by decide +kernel
theorem dX12_sell_6 : decode cX12_sell 6 = .ok (.invokevirtual 234, 3) := by decide +kernel
theorem dX12_sell_9 : decode cX12_sell 9 = .ok (.aload_n 0, 1) := by decide +kernel
theorem dX12_sell_10 : decode cX12_sell 10 = .ok (.iload_n 1, 1) := by decide +kernel
theorem dX12_sell_11 : decode cX12_sell 11 = .ok (.invokevirtual 247, 3) := by decide +kernel
theorem dX12_sell_14 : decode cX12_sell 14 = .ok (.ifCond .eq 32, 3) := by decide +kernel
theorem dX12_sell_17 : decode cX12_sell 17 = .ok (.aload_n 0, 1) := by decide +kernel
theorem dX12_sell_18 : decode cX12_sell 18 = .ok (.iload_n 2, 1) := by decide +kernel
theorem dX12_sell_19 : decode cX12_sell 19 = .ok (.invokevirtual 247, 3) := by decide +kernel
theorem dX12_sell_22 : decode cX12_sell 22 = .ok (.ifCond .eq 24, 3) := by decide +kernel
theorem dX12_sell_25 : decode cX12_sell 25 = .ok (.iload_n 1, 1) := by decide +kernel
theorem dX12_sell_26 : decode cX12_sell 26 = .ok (.iload_n 2, 1) := by decide +kernel
theorem dX12_sell_27 : decode cX12_sell 27 = .ok (.if_icmp .eq 19, 3) := by decide +kernel
theorem dX12_sell_30 : decode cX12_sell 30 = .ok (.aload_n 0, 1) := by decide +kernel
theorem dX12_sell_31 : decode cX12_sell 31 = .ok (.iload_n 1, 1) := by decide +kernel
theorem dX12_sell_32 : decode cX12_sell 32 = .ok (.invokevirtual 253, 3) := by decide +kernel
theorem dX12_sell_35 : decode cX12_sell 35 = .ok (.ifCond .eq 11, 3) := by decide +kernel
theorem dX12_sell_38 : decode cX12_sell 38 = .ok (.aload_n 0, 1) := by decide +kernel
theorem dX12_sell_39 : decode cX12_sell 39 = .ok (.iload_n 2, 1) := by decide +kernel
theorem dX12_sell_40 : decode cX12_sell 40 = .ok (.invokevirtual 253, 3) := by decide +kernel
theorem dX12_sell_43 : decode cX12_sell 43 = .ok (.ifCond .ne 5, 3) := by decide +kernel
theorem dX12_sell_46 : decode cX12_sell 46 = .ok (.iconst (-1), 1) := by decide +kernel
theorem dX12_sell_47 : decode cX12_sell 47 = .ok (.ireturn, 1) := by decide +kernel
theorem dX12_sell_48 : decode cX12_sell 48 = .ok (.aload_n 0, 1) := by decide +kernel
theorem dX12_sell_49 : decode cX12_sell 49 = .ok (.invokevirtual 284, 3) := by decide +kernel
theorem dX12_sell_52 : decode cX12_sell 52 = .ok (.iconst 0, 1) := by decide +kernel
theorem dX12_sell_53 : decode cX12_sell 53 = .ok (.istore_n 3, 1) := by decide +kernel
theorem dX12_sell_54 : decode cX12_sell 54 = .ok (.iload_n 3, 1) := by decide +kernel
theorem dX12_sell_55 : decode cX12_sell 55 = .ok (.aload_n 0, 1) := by decide +kernel
theorem dX12_sell_56 : decode cX12_sell 56 = .ok (.invokevirtual 176, 3) := by decide +kernel
theorem dX12_sell_59 : decode cX12_sell 59 = .ok (.if_icmp .ge 32, 3) := by decide +kernel
theorem dX12_sell_62 : decode cX12_sell 62 = .ok (.aload_n 0, 1) := by decide +kernel
theorem dX12_sell_63 : decode cX12_sell 63 = .ok (.getfield 82, 3) := by decide +kernel
theorem dX12_sell_66 : decode cX12_sell 66 = .ok (.iload_n 3, 1) := by decide +kernel
theorem dX12_sell_67 : decode cX12_sell 67 = .ok (.aload_n 0, 1) := by decide +kernel
theorem dX12_sell_68 : decode cX12_sell 68 = .ok (.iload_n 3, 1) := by decide +kernel
theorem dX12_sell_69 : decode cX12_sell 69 = .ok (.invokevirtual 253, 3) := by decide +kernel
theorem dX12_sell_72 : decode cX12_sell 72 = .ok (.ifCond .eq 11, 3) := by decide +kernel
theorem dX12_sell_75 : decode cX12_sell 75 = .ok (.aload_n 0, 1) := by decide +kernel
theorem dX12_sell_76 : decode cX12_sell 76 = .ok (.iload_n 3, 1) := by decide +kernel
theorem dX12_sell_77 : decode cX12_sell 77 = .ok (.invokevirtual 275, 3) := by decide +kernel
theorem dX12_sell_80 : decode cX12_sell 80 = .ok (.goto 4, 3) := by decide +kernel
theorem dX12_sell_83 : decode cX12_sell 83 = .ok (.iconst 0, 1) := by decide +kernel
theorem dX12_sell_84 : decode cX12_sell 84 = .ok (.iastore, 1) := by decide +kernel
theorem dX12_sell_85 : decode cX12_sell 85 = .ok (.iinc 3 1, 3) := by decide +kernel
theorem dX12_sell_88 : decode cX12_sell 88 = .ok (.goto (-34), 3) := by decide +kernel
theorem dX12_sell_91 : decode cX12_sell 91 = .ok (.aload_n 0, 1) := by decide +kernel
theorem dX12_sell_92 : decode cX12_sell 92 = .ok (.aload_n 0, 1) := by decide +kernel
theorem dX12_sell_93 : decode cX12_sell 93 = .ok (.getfield 63, 3) := by decide +kernel
theorem dX12_sell_96 : decode cX12_sell 96 = .ok (.invokevirtual 325, 3) := by decide +kernel
theorem dX12_sell_99 : decode cX12_sell 99 = .ok (.aload_n 0, 1) := by decide +kernel
theorem dX12_sell_100 : decode cX12_sell 100 = .ok (.iload_n 1, 1) := by decide +kernel
theorem dX12_sell_101 : decode cX12_sell 101 = .ok (.invokevirtual 184, 3) := by decide +kernel
theorem dX12_sell_104 : decode cX12_sell 104 = .ok (.istore_n 3, 1) := by decide +kernel
theorem dX12_sell_105 : decode cX12_sell 105 = .ok (.aload_n 0, 1) := by decide +kernel
theorem dX12_sell_106 : decode cX12_sell 106 = .ok (.iload_n 1, 1) := by decide +kernel
theorem dX12_sell_107 : decode cX12_sell 107 = .ok (.aload_n 0, 1) := by decide +kernel
theorem dX12_sell_108 : decode cX12_sell 108 = .ok (.iload_n 2, 1) := by decide +kernel
theorem dX12_sell_109 : decode cX12_sell 109 = .ok (.invokevirtual 184, 3) := by decide +kernel
theorem dX12_sell_112 : decode cX12_sell 112 = .ok (.aload_n 0, 1) := by decide +kernel
theorem dX12_sell_113 : decode cX12_sell 113 = .ok (.iload_n 1, 1) := by decide +kernel
theorem dX12_sell_114 : decode cX12_sell 114 = .ok (.invokevirtual 256, 3) := by decide +kernel
theorem dX12_sell_117 : decode cX12_sell 117 = .ok (.invokevirtual 243, 3) := by decide +kernel
theorem dX12_sell_120 : decode cX12_sell 120 = .ok (.aload_n 0, 1) := by decide +kernel
theorem dX12_sell_121 : decode cX12_sell 121 = .ok (.iload_n 2, 1) := by decide +kernel
theorem dX12_sell_122 : decode cX12_sell 122 = .ok (.iload_n 3, 1) := by decide +kernel
theorem dX12_sell_123 : decode cX12_sell 123 = .ok (.aload_n 0, 1) := by decide +kernel
theorem dX12_sell_124 : decode cX12_sell 124 = .ok (.iload_n 2, 1) := by decide +kernel
theorem dX12_sell_125 : decode cX12_sell 125 = .ok (.invokevirtual 256, 3) := by decide +kernel
theorem dX12_sell_128 : decode cX12_sell 128 = .ok (.invokevirtual 243, 3) := by decide +kernel
theorem dX12_sell_131 : decode cX12_sell 131 = .ok (.aload_n 0, 1) := by decide +kernel
theorem dX12_sell_132 : decode cX12_sell 132 = .ok (.iload_n 1, 1) := by decide +kernel
theorem dX12_sell_133 : decode cX12_sell 133 = .ok (.iload_n 2, 1) := by decide +kernel
theorem dX12_sell_134 : decode cX12_sell 134 = .ok (.invokevirtual 357, 3) := by decide +kernel
theorem dX12_sell_137 : decode cX12_sell 137 = .ok (.ifCond .eq 5, 3) := by decide +kernel
theorem dX12_sell_140 : decode cX12_sell 140 = .ok (.iconst 1, 1) := by decide +kernel
theorem dX12_sell_141 : decode cX12_sell 141 = .ok (.ireturn, 1) := by decide +kernel
theorem dX12_sell_142 : decode cX12_sell 142 = .ok (.aload_n 0, 1) := by decide +kernel
theorem dX12_sell_143 : decode cX12_sell 143 = .ok (.aload_n 0, 1) := by decide +kernel
theorem dX12_sell_144 : decode cX12_sell 144 = .ok (.getfield 63, 3) := by decide +kernel
theorem dX12_sell_147 : decode cX12_sell 147 = .ok (.invokevirtual 332, 3) := by decide +kernel
theorem dX12_sell_150 : decode cX12_sell 150 = .ok (.iconst 0, 1) := by decide +kernel
theorem dX12_sell_151 : decode cX12_sell 151 = .ok (.ireturn, 1) := by decide +kernel
theorem dX12_isDay_0 : decode cX12_isDay 0 = .ok (.iload_n 0, 1) := by decide +kernel
theorem dX12_isDay_1 : decode cX12_isDay 1 = .ok (.iconst 0, 1) := by decide +kernel
theorem dX12_isDay_2 : decode cX12_isDay 2 = .ok (.sipush 999, 3) := by decide +kernel
theorem dX12_isDay_5 : decode cX12_isDay 5 = .ok (.invokestatic 162, 3) := by decide +kernel
theorem dX12_isDay_8 : decode cX12_isDay 8 = .ok (.ireturn, 1) := by decide +kernel
theorem dX12_isGood_0 : decode cX12_isGood 0 = .ok (.aload_n 0, 1) := by decide +kernel
theorem dX12_isGood_1 : decode cX12_isGood 1 = .ok (.iload_n 1, 1) := by decide +kernel
theorem dX12_isGood_2 : decode cX12_isGood 2 = .ok (.bipush 10, 2) := by decide +kernel
theorem dX12_isGood_4 : decode cX12_isGood 4 = .ok (.invokevirtual 180, 3) := by decide +kernel
theorem dX12_isGood_7 : decode cX12_isGood 7 = .ok (.iconst (-1), 1) := by decide +kernel
theorem dX12_isGood_8 : decode cX12_isGood 8 = .ok (.if_icmp .eq 14, 3) := by decide +kernel
theorem dX12_isGood_11 : decode cX12_isGood 11 = .ok (.aload_n 0, 1) := by decide +kernel
theorem dX12_isGood_12 : decode cX12_isGood 12 = .ok (.iload_n 1, 1) := by decide +kernel
theorem dX12_isGood_13 : decode cX12_isGood 13 = .ok (.bipush 10, 2) := by decide +kernel
theorem dX12_isGood_15 : decode cX12_isGood 15 = .ok (.invokevirtual 180, 3) := by decide +kernel
theorem dX12_isGood_18 : decode cX12_isGood 18 = .ok (.iload_n 2, 1) := by decide +kernel
theorem dX12_isGood_19 : decode cX12_isGood 19 = .ok (.if_icmp .le 5, 3) := by decide +kernel
theorem dX12_isGood_22 : decode cX12_isGood 22 = .ok (.iconst 0, 1) := by decide +kernel
theorem dX12_isGood_23 : decode cX12_isGood 23 = .ok (.ireturn, 1) := by decide +kernel
theorem dX12_isGood_24 : decode cX12_isGood 24 = .ok (.iload_n 2, 1) := by decide +kernel
theorem dX12_isGood_25 : decode cX12_isGood 25 = .ok (.aload_n 0, 1) := by decide +kernel
theorem dX12_isGood_26 : decode cX12_isGood 26 = .ok (.iload_n 1, 1) := by decide +kernel
theorem dX12_isGood_27 : decode cX12_isGood 27 = .ok (.bipush 11, 2) := by decide +kernel
theorem dX12_isGood_29 : decode cX12_isGood 29 = .ok (.invokevirtual 180, 3) := by decide +kernel
theorem dX12_isGood_32 : decode cX12_isGood 32 = .ok (.if_icmp .le 31, 3) := by decide +kernel
theorem dX12_isGood_35 : decode cX12_isGood 35 = .ok (.aload_n 0, 1) := by decide +kernel
theorem dX12_isGood_36 : decode cX12_isGood 36 = .ok (.iload_n 1, 1) := by decide +kernel
theorem dX12_isGood_37 : decode cX12_isGood 37 = .ok (.bipush 12, 2) := by decide +kernel
theorem dX12_isGood_39 : decode cX12_isGood 39 = .ok (.invokevirtual 180, 3) := by decide +kernel
theorem dX12_isGood_42 : decode cX12_isGood 42 = .ok (.iconst (-1), 1) := by decide +kernel
theorem dX12_isGood_43 : decode cX12_isGood 43 = .ok (.if_icmp .eq 24, 3) := by decide +kernel
theorem dX12_isGood_46 : decode cX12_isGood 46 = .ok (.aload_n 0, 1) := by decide +kernel
theorem dX12_isGood_47 : decode cX12_isGood 47 = .ok (.iload_n 1, 1) := by decide +kernel
theorem dX12_isGood_48 : decode cX12_isGood 48 = .ok (.bipush 12, 2) := by decide +kernel
theorem dX12_isGood_50 : decode cX12_isGood 50 = .ok (.invokevirtual 180, 3) := by decide +kernel
theorem dX12_isGood_53 : decode cX12_isGood 53 = .ok (.aload_n 0, 1) := by decide +kernel
theorem dX12_isGood_54 : decode cX12_isGood 54 = .ok (.iload_n 1, 1) := by decide +kernel
theorem dX12_isGood_55 : decode cX12_isGood 55 = .ok (.bipush 11, 2) := by decide +kernel
theorem dX12_isGood_57 : decode cX12_isGood 57 = .ok (.invokevirtual 180, 3) := by decide +kernel
theorem dX12_isGood_60 : decode cX12_isGood 60 = .ok (.if_icmp .gt 7, 3) := by decide +kernel
theorem dX12_isGood_63 : decode cX12_isGood 63 = .ok (.iconst 1, 1) := by decide +kernel
theorem dX12_isGood_64 : decode cX12_isGood 64 = .ok (.goto 4, 3) := by decide +kernel
theorem dX12_isGood_67 : decode cX12_isGood 67 = .ok (.iconst 0, 1) := by decide +kernel
theorem dX12_isGood_68 : decode cX12_isGood 68 = .ok (.ireturn, 1) := by decide +kernel
theorem dX12_good_0 : decode cX12_good 0 = .ok (.aload_n 0, 1) := by decide +kernel
theorem dX12_good_1 : decode cX12_good 1 = .ok (.iconst 0, 1) := by decide +kernel
theorem dX12_good_2 : decode cX12_good 2 = .ok (.putfield 97, 3) := by decide +kernel
theorem dX12_good_5 : decode cX12_good 5 = .ok (.aload_n 0, 1) := by decide +kernel
theorem dX12_good_6 : decode cX12_good 6 = .ok (.invokevirtual 234, 3) := by decide +kernel
theorem dX12_good_9 : decode cX12_good 9 = .ok (.aload_n 0, 1) := by decide +kernel
theorem dX12_good_10 : decode cX12_good 10 = .ok (.iload_n 1, 1) := by decide +kernel
theorem dX12_good_11 : decode cX12_good 11 = .ok (.invokevirtual 247, 3) := by decide +kernel
theorem dX12_good_14 : decode cX12_good 14 = .ok (.ifCond .eq 27, 3) := by decide +kernel
theorem dX12_good_17 : decode cX12_good 17 = .ok (.iload_n 2, 1) := by decide +kernel
theorem dX12_good_18 : decode cX12_good 18 = .ok (.invokestatic 360, 3) := by decide +kernel
theorem dX12_good_21 : decode cX12_good 21 = .ok (.ifCond .eq 20, 3) := by decide +kernel
theorem dX12_good_24 : decode cX12_good 24 = .ok (.aload_n 0, 1) := by decide +kernel
theorem dX12_good_25 : decode cX12_good 25 = .ok (.iload_n 1, 1) := by decide +kernel
theorem dX12_good_26 : decode cX12_good 26 = .ok (.iload_n 2, 1) := by decide +kernel
theorem dX12_good_27 : decode cX12_good 27 = .ok (.invokevirtual 363, 3) := by decide +kernel
theorem dX12_good_30 : decode cX12_good 30 = .ok (.ifCond .eq 7, 3) := by decide +kernel
theorem dX12_good_33 : decode cX12_good 33 = .ok (.iconst 1, 1) := by decide +kernel
theorem dX12_good_34 : decode cX12_good 34 = .ok (.goto 8, 3) := by decide +kernel
theorem dX12_good_37 : decode cX12_good 37 = .ok (.iconst 0, 1) := by decide +kernel
theorem dX12_good_38 : decode cX12_good 38 = .ok (.goto 4, 3) := by decide +kernel
theorem dX12_good_41 : decode cX12_good 41 = .ok (.iconst (-1), 1) := by decide +kernel
theorem dX12_good_42 : decode cX12_good 42 = .ok (.ireturn, 1) := by decide +kernel
theorem dX12_rankOf_0 : decode cX12_rankOf 0 = .ok (.aload_n 0, 1) := by decide +kernel
theorem dX12_rankOf_1 : decode cX12_rankOf 1 = .ok (.getfield 13, 3) := by decide +kernel
theorem dX12_rankOf_4 : decode cX12_rankOf 4 = .ok (.iconst 4, 1) := by decide +kernel
theorem dX12_rankOf_5 : decode cX12_rankOf 5 = .ok (.iaload, 1) := by decide +kernel
theorem dX12_rankOf_6 : decode cX12_rankOf 6 = .ok (.ifCond .ne 26, 3) := by decide +kernel
theorem dX12_rankOf_9 : decode cX12_rankOf 9 = .ok (.aload_n 0, 1) := by decide +kernel
theorem dX12_rankOf_10 : decode cX12_rankOf 10 = .ok (.iload_n 1, 1) := by decide +kernel
theorem dX12_rankOf_11 : decode cX12_rankOf 11 = .ok (.iload_n 2, 1) := by decide +kernel
theorem dX12_rankOf_12 : decode cX12_rankOf 12 = .ok (.invokevirtual 363, 3) := by decide +kernel
theorem dX12_rankOf_15 : decode cX12_rankOf 15 = .ok (.ifCond .eq 13, 3) := by decide +kernel
theorem dX12_rankOf_18 : decode cX12_rankOf 18 = .ok (.aload_n 0, 1) := by decide +kernel
theorem dX12_rankOf_19 : decode cX12_rankOf 19 = .ok (.iload_n 1, 1) := by decide +kernel
theorem dX12_rankOf_20 : decode cX12_rankOf 20 = .ok (.bipush 10, 2) := by decide +kernel
theorem dX12_rankOf_22 : decode cX12_rankOf 22 = .ok (.invokevirtual 180, 3) := by decide +kernel
theorem dX12_rankOf_25 : decode cX12_rankOf 25 = .ok (.goto 6, 3) := by decide +kernel
theorem dX12_rankOf_28 : decode cX12_rankOf 28 = .ok (.ldc_w 344, 3) := by decide +kernel
theorem dX12_rankOf_31 : decode cX12_rankOf 31 = .ok (.ireturn, 1) := by decide +kernel
theorem dX12_rankOf_32 : decode cX12_rankOf 32 = .ok (.aload_n 0, 1) := by decide +kernel
theorem dX12_rankOf_33 : decode cX12_rankOf 33 = .ok (.iload_n 1, 1) := by decide +kernel
theorem dX12_rankOf_34 : decode cX12_rankOf 34 = .ok (.bipush 12, 2) := by decide +kernel
theorem dX12_rankOf_36 : decode cX12_rankOf 36 = .ok (.invokevirtual 180, 3) := by decide +kernel
theorem dX12_rankOf_39 : decode cX12_rankOf 39 = .ok (.iconst (-1), 1) := by decide +kernel
theorem dX12_rankOf_40 : decode cX12_rankOf 40 = .ok (.if_icmp .eq 24, 3) := by decide +kernel
theorem dX12_rankOf_43 : decode cX12_rankOf 43 = .ok (.aload_n 0, 1) := by decide +kernel
theorem dX12_rankOf_44 : decode cX12_rankOf 44 = .ok (.iload_n 1, 1) := by decide +kernel
theorem dX12_rankOf_45 : decode cX12_rankOf 45 = .ok (.bipush 12, 2) := by decide +kernel
theorem dX12_rankOf_47 : decode cX12_rankOf 47 = .ok (.invokevirtual 180, 3) := by decide +kernel
theorem dX12_rankOf_50 : decode cX12_rankOf 50 = .ok (.iload_n 2, 1) := by decide +kernel
theorem dX12_rankOf_51 : decode cX12_rankOf 51 = .ok (.if_icmp .gt 13, 3) := by decide +kernel
theorem dX12_rankOf_54 : decode cX12_rankOf 54 = .ok (.aload_n 0, 1) := by decide +kernel
theorem dX12_rankOf_55 : decode cX12_rankOf 55 = .ok (.iload_n 1, 1) := by decide +kernel
theorem dX12_rankOf_56 : decode cX12_rankOf 56 = .ok (.bipush 12, 2) := by decide +kernel
theorem dX12_rankOf_58 : decode cX12_rankOf 58 = .ok (.invokevirtual 180, 3) := by decide +kernel
theorem dX12_rankOf_61 : decode cX12_rankOf 61 = .ok (.goto 6, 3) := by decide +kernel
theorem dX12_rankOf_64 : decode cX12_rankOf 64 = .ok (.ldc_w 344, 3) := by decide +kernel
theorem dX12_rankOf_67 : decode cX12_rankOf 67 = .ok (.ireturn, 1) := by decide +kernel
theorem dX12_rightOf_0 : decode cX12_rightOf 0 = .ok (.aload_n 0, 1) := by decide +kernel
theorem dX12_rightOf_1 : decode cX12_rightOf 1 = .ok (.iload_n 1, 1) := by decide +kernel
theorem dX12_rightOf_2 : decode cX12_rightOf 2 = .ok (.iload_n 3, 1) := by decide +kernel
theorem dX12_rightOf_3 : decode cX12_rightOf 3 = .ok (.invokevirtual 366, 3) := by decide +kernel
theorem dX12_rightOf_6 : decode cX12_rightOf 6 = .ok (.istore 4, 2) := by decide +kernel
theorem dX12_rightOf_8 : decode cX12_rightOf 8 = .ok (.aload_n 0, 1) := by decide +kernel
theorem dX12_rightOf_9 : decode cX12_rightOf 9 = .ok (.iload_n 2, 1) := by decide +kernel
theorem dX12_rightOf_10 : decode cX12_rightOf 10 = .ok (.iload_n 3, 1) := by decide +kernel
theorem dX12_rightOf_11 : decode cX12_rightOf 11 = .ok (.invokevirtual 366, 3) := by decide +kernel
theorem dX12_rightOf_14 : decode cX12_rightOf 14 = .ok (.istore 5, 2) := by decide +kernel
theorem dX12_rightOf_16 : decode cX12_rightOf 16 = .ok (.aload_n 0, 1) := by decide +kernel
theorem dX12_rightOf_17 : decode cX12_rightOf 17 = .ok (.iload_n 1, 1) := by decide +kernel
theorem dX12_rightOf_18 : decode cX12_rightOf 18 = .ok (.iload_n 2, 1) := by decide +kernel
theorem dX12_rightOf_19 : decode cX12_rightOf 19 = .ok (.invokevirtual 293, 3) := by decide +kernel
theorem dX12_rightOf_22 : decode cX12_rightOf 22 = .ok (.ifCond .eq 19, 3) := by decide +kernel
theorem dX12_rightOf_25 : decode cX12_rightOf 25 = .ok (.iload 4, 2) := by decide +kernel
theorem dX12_rightOf_27 : decode cX12_rightOf 27 = .ok (.ldc_w 344, 3) := by decide +kernel
theorem dX12_rightOf_30 : decode cX12_rightOf 30 = .ok (.if_icmp .ne 13, 3) := by decide +kernel
theorem dX12_rightOf_33 : decode cX12_rightOf 33 = .ok (.iload 5, 2) := by decide +kernel
theorem dX12_rightOf_35 : decode cX12_rightOf 35 = .ok (.ldc_w 344, 3) := by decide +kernel
theorem dX12_rightOf_38 : decode cX12_rightOf 38 = .ok (.if_icmp .ne 5, 3) := by decide +kernel
theorem dX12_rightOf_41 : decode cX12_rightOf 41 = .ok (.iconst 0, 1) := by decide +kernel
theorem dX12_rightOf_42 : decode cX12_rightOf 42 = .ok (.ireturn, 1) := by decide +kernel
theorem dX12_rightOf_43 : decode cX12_rightOf 43 = .ok (.iload 4, 2) := by decide +kernel
theorem dX12_rightOf_45 : decode cX12_rightOf 45 = .ok (.iload 5, 2) := by decide +kernel
theorem dX12_rightOf_47 : decode cX12_rightOf 47 = .ok (.if_icmp .lt 15, 3) := by decide +kernel
theorem dX12_rightOf_50 : decode cX12_rightOf 50 = .ok (.iload 4, 2) := by decide +kernel
theorem dX12_rightOf_52 : decode cX12_rightOf 52 = .ok (.iload 5, 2) := by decide +kernel
theorem dX12_rightOf_54 : decode cX12_rightOf 54 = .ok (.if_icmp .ne 12, 3) := by decide +kernel
theorem dX12_rightOf_57 : decode cX12_rightOf 57 = .ok (.iload_n 1, 1) := by decide +kernel
theorem dX12_rightOf_58 : decode cX12_rightOf 58 = .ok (.iload_n 2, 1) := by decide +kernel
theorem dX12_rightOf_59 : decode cX12_rightOf 59 = .ok (.if_icmp .ge 7, 3) := by decide +kernel
theorem dX12_rightOf_62 : decode cX12_rightOf 62 = .ok (.iconst 1, 1) := by decide +kernel
theorem dX12_rightOf_63 : decode cX12_rightOf 63 = .ok (.goto 4, 3) := by decide +kernel
theorem dX12_rightOf_66 : decode cX12_rightOf 66 = .ok (.iconst (-1), 1) := by decide +kernel
theorem dX12_rightOf_67 : decode cX12_rightOf 67 = .ok (.ireturn, 1) := by decide +kernel
theorem dX12_right_0 : decode cX12_right 0 = .ok (.aload_n 0, 1) := by decide +kernel
theorem dX12_right_1 : decode cX12_right 1 = .ok (.iconst 0, 1) := by decide +kernel
theorem dX12_right_2 : decode cX12_right 2 = .ok (.putfield 97, 3) := by decide +kernel
theorem dX12_right_5 : decode cX12_right 5 = .ok (.aload_n 0, 1) := by decide +kernel
theorem dX12_right_6 : decode cX12_right 6 = .ok (.invokevirtual 234, 3) := by decide +kernel
theorem dX12_right_9 : decode cX12_right 9 = .ok (.aload_n 0, 1) := by decide +kernel
theorem dX12_right_10 : decode cX12_right 10 = .ok (.iload_n 1, 1) := by decide +kernel
theorem dX12_right_11 : decode cX12_right 11 = .ok (.invokevirtual 247, 3) := by decide +kernel
theorem dX12_right_14 : decode cX12_right 14 = .ok (.ifCond .eq 33, 3) := by decide +kernel
theorem dX12_right_17 : decode cX12_right 17 = .ok (.aload_n 0, 1) := by decide +kernel
theorem dX12_right_18 : decode cX12_right 18 = .ok (.iload_n 2, 1) := by decide +kernel
theorem dX12_right_19 : decode cX12_right 19 = .ok (.invokevirtual 247, 3) := by decide +kernel
theorem dX12_right_22 : decode cX12_right 22 = .ok (.ifCond .eq 25, 3) := by decide +kernel
theorem dX12_right_25 : decode cX12_right 25 = .ok (.iload_n 1, 1) := by decide +kernel
theorem dX12_right_26 : decode cX12_right 26 = .ok (.iload_n 2, 1) := by decide +kernel
theorem dX12_right_27 : decode cX12_right 27 = .ok (.if_icmp .eq 20, 3) := by decide +kernel
theorem dX12_right_30 : decode cX12_right 30 = .ok (.iload_n 3, 1) := by decide +kernel
theorem dX12_right_31 : decode cX12_right 31 = .ok (.invokestatic 360, 3) := by decide +kernel
theorem dX12_right_34 : decode cX12_right 34 = .ok (.ifCond .eq 13, 3) := by decide +kernel
theorem dX12_right_37 : decode cX12_right 37 = .ok (.aload_n 0, 1) := by decide +kernel
theorem dX12_right_38 : decode cX12_right 38 = .ok (.iload_n 1, 1) := by decide +kernel
theorem dX12_right_39 : decode cX12_right 39 = .ok (.iload_n 2, 1) := by decide +kernel
theorem dX12_right_40 : decode cX12_right 40 = .ok (.iload_n 3, 1) := by decide +kernel
theorem dX12_right_41 : decode cX12_right 41 = .ok (.invokevirtual 369, 3) := by decide +kernel
theorem dX12_right_44 : decode cX12_right 44 = .ok (.goto 5, 3) := by decide +kernel
theorem dX12_right_47 : decode cX12_right 47 = .ok (.bipush (-2), 2) := by decide +kernel
theorem dX12_right_49 : decode cX12_right 49 = .ok (.ireturn, 1) := by decide +kernel
theorem dX12_middleOf_0 : decode cX12_middleOf 0 = .ok (.aload_n 0, 1) := by decide +kernel
theorem dX12_middleOf_1 : decode cX12_middleOf 1 = .ok (.iload_n 1, 1) := by decide +kernel
theorem dX12_middleOf_2 : decode cX12_middleOf 2 = .ok (.iconst 1, 1) := by decide +kernel
theorem dX12_middleOf_3 : decode cX12_middleOf 3 = .ok (.invokevirtual 180, 3) := by decide +kernel
theorem dX12_middleOf_6 : decode cX12_middleOf 6 = .ok (.aload_n 0, 1) := by decide +kernel
theorem dX12_middleOf_7 : decode cX12_middleOf 7 = .ok (.iload_n 1, 1) := by decide +kernel
theorem dX12_middleOf_8 : decode cX12_middleOf 8 = .ok (.iconst 2, 1) := by decide +kernel
theorem dX12_middleOf_9 : decode cX12_middleOf 9 = .ok (.invokevirtual 180, 3) := by decide +kernel
theorem dX12_middleOf_12 : decode cX12_middleOf 12 = .ok (.aload_n 0, 1) := by decide +kernel
theorem dX12_middleOf_13 : decode cX12_middleOf 13 = .ok (.iload_n 1, 1) := by decide +kernel
theorem dX12_middleOf_14 : decode cX12_middleOf 14 = .ok (.iconst 1, 1) := by decide +kernel
theorem dX12_middleOf_15 : decode cX12_middleOf 15 = .ok (.invokevirtual 180, 3) := by decide +kernel
theorem dX12_middleOf_18 : decode cX12_middleOf 18 = .ok (.isub, 1) := by decide +kernel
theorem dX12_middleOf_19 : decode cX12_middleOf 19 = .ok (.sipush 3600, 3) := by decide +kernel
theorem dX12_middleOf_22 : decode cX12_middleOf 22 = .ok (.iadd, 1) := by decide +kernel
theorem dX12_middleOf_23 : decode cX12_middleOf 23 = .ok (.sipush 3600, 3) := by decide +kernel
theorem dX12_middleOf_26 : decode cX12_middleOf 26 = .ok (.irem, 1) := by decide +kernel
theorem dX12_middleOf_27 : decode cX12_middleOf 27 = .ok (.iconst 2, 1) := by decide +kernel
theorem dX12_middleOf_28 : decode cX12_middleOf 28 = .ok (.idiv, 1) := by decide +kernel
theorem dX12_middleOf_29 : decode cX12_middleOf 29 = .ok (.iadd, 1) := by decide +kernel
theorem dX12_middleOf_30 : decode cX12_middleOf 30 = .ok (.sipush 3600, 3) := by decide +kernel
theorem dX12_middleOf_33 : decode cX12_middleOf 33 = .ok (.irem, 1) := by decide +kernel
theorem dX12_middleOf_34 : decode cX12_middleOf 34 = .ok (.ireturn, 1) := by decide +kernel
theorem dX12_barred_0 : decode cX12_barred 0 = .ok (.aload_n 0, 1) := by decide +kernel
theorem dX12_barred_1 : decode cX12_barred 1 = .ok (.iconst 0, 1) := by decide +kernel
theorem dX12_barred_2 : decode cX12_barred 2 = .ok (.putfield 97, 3) := by decide +kernel
theorem dX12_barred_5 : decode cX12_barred 5 = .ok (.aload_n 0, 1) := by decide +kernel
theorem dX12_barred_6 : decode cX12_barred 6 = .ok (.invokevirtual 234, 3) := by decide +kernel
theorem dX12_barred_9 : decode cX12_barred 9 = .ok (.aload_n 0, 1) := by decide +kernel
theorem dX12_barred_10 : decode cX12_barred 10 = .ok (.iload_n 1, 1) := by decide +kernel
theorem dX12_barred_11 : decode cX12_barred 11 = .ok (.invokevirtual 247, 3) := by decide +kernel
theorem dX12_barred_14 : decode cX12_barred 14 = .ok (.ifCond .eq 19, 3) := by decide +kernel
theorem dX12_barred_17 : decode cX12_barred 17 = .ok (.iload_n 2, 1) := by decide +kernel
theorem dX12_barred_18 : decode cX12_barred 18 = .ok (.invokestatic 360, 3) := by decide +kernel
theorem dX12_barred_21 : decode cX12_barred 21 = .ok (.ifCond .eq 12, 3) := by decide +kernel
theorem dX12_barred_24 : decode cX12_barred 24 = .ok (.iload_n 3, 1) := by decide +kernel
theorem dX12_barred_25 : decode cX12_barred 25 = .ok (.iconst 0, 1) := by decide +kernel
theorem dX12_barred_26 : decode cX12_barred 26 = .ok (.iconst 1, 1) := by decide +kernel
theorem dX12_barred_27 : decode cX12_barred 27 = .ok (.invokestatic 162, 3) := by decide +kernel
theorem dX12_barred_30 : decode cX12_barred 30 = .ok (.ifCond .ne 5, 3) := by decide +kernel
theorem dX12_barred_33 : decode cX12_barred 33 = .ok (.iconst (-1), 1) := by decide +kernel
theorem dX12_barred_34 : decode cX12_barred 34 = .ok (.ireturn, 1) := by decide +kernel
theorem dX12_barred_35 : decode cX12_barred 35 = .ok (.iconst 0, 1) := by decide +kernel
theorem dX12_barred_36 : decode cX12_barred 36 = .ok (.istore 4, 2) := by decide +kernel
theorem dX12_barred_38 : decode cX12_barred 38 = .ok (.iconst 0, 1) := by decide +kernel
theorem dX12_barred_39 : decode cX12_barred 39 = .ok (.istore 5, 2) := by decide +kernel
theorem dX12_barred_41 : decode cX12_barred 41 = .ok (.iconst 0, 1) := by decide +kernel
theorem dX12_barred_42 : decode cX12_barred 42 = .ok (.istore 6, 2) := by decide +kernel
theorem dX12_barred_44 : decode cX12_barred 44 = .ok (.iload 6, 2) := by decide +kernel
theorem dX12_barred_46 : decode cX12_barred 46 = .ok (.aload_n 0, 1) := by decide +kernel
theorem dX12_barred_47 : decode cX12_barred 47 = .ok (.invokevirtual 176, 3) := by decide +kernel
theorem dX12_barred_50 : decode cX12_barred 50 = .ok (.if_icmp .ge 172, 3) := by decide +kernel
theorem dX12_barred_53 : decode cX12_barred 53 = .ok (.iload 6, 2) := by decide +kernel
theorem dX12_barred_55 : decode cX12_barred 55 = .ok (.iload_n 1, 1) := by decide +kernel
theorem dX12_barred_56 : decode cX12_barred 56 = .ok (.if_icmp .eq 160, 3) := by decide +kernel
theorem dX12_barred_59 : decode cX12_barred 59 = .ok (.aload_n 0, 1) := by decide +kernel
theorem dX12_barred_60 : decode cX12_barred 60 = .ok (.iload 6, 2) := by decide +kernel
theorem dX12_barred_62 : decode cX12_barred 62 = .ok (.iload_n 2, 1) := by decide +kernel
theorem dX12_barred_63 : decode cX12_barred 63 = .ok (.invokevirtual 363, 3) := by decide +kernel
theorem dX12_barred_66 : decode cX12_barred 66 = .ok (.ifCond .eq 150, 3) := by decide +kernel
theorem dX12_barred_69 : decode cX12_barred 69 = .ok (.aload_n 0, 1) := by decide +kernel
theorem dX12_barred_70 : decode cX12_barred 70 = .ok (.iload 6, 2) := by decide +kernel
theorem dX12_barred_72 : decode cX12_barred 72 = .ok (.iload_n 1, 1) := by decide +kernel
theorem dX12_barred_73 : decode cX12_barred 73 = .ok (.iload_n 2, 1) := by decide +kernel
theorem dX12_barred_74 : decode cX12_barred 74 = .ok (.invokevirtual 369, 3) := by decide +kernel
theorem dX12_barred_77 : decode cX12_barred 77 = .ok (.iconst 1, 1) := by decide +kernel
theorem dX12_barred_78 : decode cX12_barred 78 = .ok (.if_icmp .ne 138, 3) := by decide +kernel
theorem dX12_barred_81 : decode cX12_barred 81 = .ok (.aload_n 0, 1) := by decide +kernel
theorem dX12_barred_82 : decode cX12_barred 82 = .ok (.iload 6, 2) := by decide +kernel
theorem dX12_barred_84 : decode cX12_barred 84 = .ok (.bipush 12, 2) := by decide +kernel
theorem dX12_barred_86 : decode cX12_barred 86 = .ok (.invokevirtual 180, 3) := by decide +kernel
theorem dX12_barred_89 : decode cX12_barred 89 = .ok (.iconst (-1), 1) := by decide +kernel
theorem dX12_barred_90 : decode cX12_barred 90 = .ok (.if_icmp .eq 18, 3) := by decide +kernel
theorem dX12_barred_93 : decode cX12_barred 93 = .ok (.aload_n 0, 1) := by decide +kernel
theorem dX12_barred_94 : decode cX12_barred 94 = .ok (.iload 6, 2) := by decide +kernel
theorem dX12_barred_96 : decode cX12_barred 96 = .ok (.bipush 12, 2) := by decide +kernel
theorem dX12_barred_98 : decode cX12_barred 98 = .ok (.invokevirtual 180, 3) := by decide +kernel
theorem dX12_barred_101 : decode cX12_barred 101 = .ok (.iload_n 2, 1) := by decide +kernel
theorem dX12_barred_102 : decode cX12_barred 102 = .ok (.if_icmp .gt 6, 3) := by decide +kernel
theorem dX12_barred_105 : decode cX12_barred 105 = .ok (.goto 111, 3) := by decide +kernel
theorem dX12_barred_108 : decode cX12_barred 108 = .ok (.aload_n 0, 1) := by decide +kernel
theorem dX12_barred_109 : decode cX12_barred 109 = .ok (.iload_n 1, 1) := by decide +kernel
theorem dX12_barred_110 : decode cX12_barred 110 = .ok (.iload 6, 2) := by decide +kernel
theorem dX12_barred_112 : decode cX12_barred 112 = .ok (.invokevirtual 293, 3) := by decide +kernel
theorem dX12_barred_115 : decode cX12_barred 115 = .ok (.istore 7, 2) := by decide +kernel
theorem dX12_barred_117 : decode cX12_barred 117 = .ok (.iconst 0, 1) := by decide +kernel
theorem dX12_barred_118 : decode cX12_barred 118 = .ok (.istore 8, 2) := by decide +kernel
theorem dX12_barred_120 : decode cX12_barred 120 = .ok (.iload 8, 2) := by decide +kernel
theorem dX12_barred_122 : decode cX12_barred 122 = .ok (.aload_n 0, 1) := by decide +kernel
theorem dX12_barred_123 : decode cX12_barred 123 = .ok (.getfield 13, 3) := by decide +kernel
theorem dX12_barred_126 : decode cX12_barred 126 = .ok (.iconst 2, 1) := by decide +kernel
theorem dX12_barred_127 : decode cX12_barred 127 = .ok (.iaload, 1) := by decide +kernel
theorem dX12_barred_128 : decode cX12_barred 128 = .ok (.if_icmp .ge 88, 3) := by decide +kernel
theorem dX12_barred_131 : decode cX12_barred 131 = .ok (.aload_n 0, 1) := by decide +kernel
theorem dX12_barred_132 : decode cX12_barred 132 = .ok (.iload_n 1, 1) := by decide +kernel
theorem dX12_barred_133 : decode cX12_barred 133 = .ok (.aload_n 0, 1) := by decide +kernel
theorem dX12_barred_134 : decode cX12_barred 134 = .ok (.getfield 13, 3) := by decide +kernel
theorem dX12_barred_137 : decode cX12_barred 137 = .ok (.iconst 5, 1) := by decide +kernel
theorem dX12_barred_138 : decode cX12_barred 138 = .ok (.iload 8, 2) := by decide +kernel
theorem dX12_barred_140 : decode cX12_barred 140 = .ok (.iadd, 1) := by decide +kernel
theorem dX12_barred_141 : decode cX12_barred 141 = .ok (.iaload, 1) := by decide +kernel
theorem dX12_barred_142 : decode cX12_barred 142 = .ok (.invokevirtual 272, 3) := by decide +kernel
theorem dX12_barred_145 : decode cX12_barred 145 = .ok (.ifCond .eq 65, 3) := by decide +kernel
theorem dX12_barred_148 : decode cX12_barred 148 = .ok (.iload 7, 2) := by decide +kernel
theorem dX12_barred_150 : decode cX12_barred 150 = .ok (.iconst (-1), 1) := by decide +kernel
theorem dX12_barred_151 : decode cX12_barred 151 = .ok (.if_icmp .eq 29, 3) := by decide +kernel
theorem dX12_barred_154 : decode cX12_barred 154 = .ok (.aload_n 0, 1) := by decide +kernel
theorem dX12_barred_155 : decode cX12_barred 155 = .ok (.getfield 13, 3) := by decide +kernel
theorem dX12_barred_158 : decode cX12_barred 158 = .ok (.iconst 5, 1) := by decide +kernel
theorem dX12_barred_159 : decode cX12_barred 159 = .ok (.iload 8, 2) := by decide +kernel
theorem dX12_barred_161 : decode cX12_barred 161 = .ok (.iadd, 1) := by decide +kernel
theorem dX12_barred_162 : decode cX12_barred 162 = .ok (.iaload, 1) := by decide +kernel
theorem dX12_barred_163 : decode cX12_barred 163 = .ok (.aload_n 0, 1) := by decide +kernel
theorem dX12_barred_164 : decode cX12_barred 164 = .ok (.iload 6, 2) := by decide +kernel
theorem dX12_barred_166 : decode cX12_barred 166 = .ok (.invokevirtual 372, 3) := by decide +kernel
theorem dX12_barred_169 : decode cX12_barred 169 = .ok (.invokestatic 262, 3) := by decide +kernel
theorem dX12_barred_172 : decode cX12_barred 172 = .ok (.iload 7, 2) := by decide +kernel
theorem dX12_barred_174 : decode cX12_barred 174 = .ok (.if_icmp .lt 6, 3) := by decide +kernel
theorem dX12_barred_177 : decode cX12_barred 177 = .ok (.goto 33, 3) := by decide +kernel
theorem dX12_barred_180 : decode cX12_barred 180 = .ok (.iload 4, 2) := by decide +kernel
theorem dX12_barred_182 : decode cX12_barred 182 = .ok (.iconst 1, 1) := by decide +kernel
theorem dX12_barred_183 : decode cX12_barred 183 = .ok (.iload 8, 2) := by decide +kernel
theorem dX12_barred_185 : decode cX12_barred 185 = .ok (.ishl, 1) := by decide +kernel
theorem dX12_barred_186 : decode cX12_barred 186 = .ok (.ior, 1) := by decide +kernel
theorem dX12_barred_187 : decode cX12_barred 187 = .ok (.istore 4, 2) := by decide +kernel
theorem dX12_barred_189 : decode cX12_barred 189 = .ok (.aload_n 0, 1) := by decide +kernel
theorem dX12_barred_190 : decode cX12_barred 190 = .ok (.iload 6, 2) := by decide +kernel
theorem dX12_barred_192 : decode cX12_barred 192 = .ok (.bipush 12, 2) := by decide +kernel
theorem dX12_barred_194 : decode cX12_barred 194 = .ok (.invokevirtual 180, 3) := by decide +kernel
theorem dX12_barred_197 : decode cX12_barred 197 = .ok (.iconst (-1), 1) := by decide +kernel
theorem dX12_barred_198 : decode cX12_barred 198 = .ok (.if_icmp .eq 12, 3) := by decide +kernel
theorem dX12_barred_201 : decode cX12_barred 201 = .ok (.iload 5, 2) := by decide +kernel
theorem dX12_barred_203 : decode cX12_barred 203 = .ok (.iconst 1, 1) := by decide +kernel
theorem dX12_barred_204 : decode cX12_barred 204 = .ok (.iload 8, 2) := by decide +kernel
theorem dX12_barred_206 : decode cX12_barred 206 = .ok (.ishl, 1) := by decide +kernel
theorem dX12_barred_207 : decode cX12_barred 207 = .ok (.ior, 1) := by decide +kernel
theorem dX12_barred_208 : decode cX12_barred 208 = .ok (.istore 5, 2) := by decide +kernel
theorem dX12_barred_210 : decode cX12_barred 210 = .ok (.iinc 8 1, 3) := by decide +kernel
theorem dX12_barred_213 : decode cX12_barred 213 = .ok (.goto (-93), 3) := by decide +kernel
theorem dX12_barred_216 : decode cX12_barred 216 = .ok (.iinc 6 1, 3) := by decide +kernel
theorem dX12_barred_219 : decode cX12_barred 219 = .ok (.goto (-175), 3) := by decide +kernel
theorem dX12_barred_222 : decode cX12_barred 222 = .ok (.iload_n 3, 1) := by decide +kernel
theorem dX12_barred_223 : decode cX12_barred 223 = .ok (.ifCond .ne 8, 3) := by decide +kernel
theorem dX12_barred_226 : decode cX12_barred 226 = .ok (.iload 4, 2) := by decide +kernel
theorem dX12_barred_228 : decode cX12_barred 228 = .ok (.goto 10, 3) := by decide +kernel
theorem dX12_barred_231 : decode cX12_barred 231 = .ok (.iload 4, 2) := by decide +kernel
theorem dX12_barred_233 : decode cX12_barred 233 = .ok (.iload 5, 2) := by decide +kernel
theorem dX12_barred_235 : decode cX12_barred 235 = .ok (.iconst (-1), 1) := by decide +kernel
theorem dX12_barred_236 : decode cX12_barred 236 = .ok (.ixor, 1) := by decide +kernel
theorem dX12_barred_237 : decode cX12_barred 237 = .ok (.iand, 1) := by decide +kernel
theorem dX12_barred_238 : decode cX12_barred 238 = .ok (.ireturn, 1) := by decide +kernel
theorem dX12_better_0 : decode cX12_better 0 = .ok (.iload_n 2, 1) := by decide +kernel
theorem dX12_better_1 : decode cX12_better 1 = .ok (.aload_n 0, 1) := by decide +kernel
theorem dX12_better_2 : decode cX12_better 2 = .ok (.getfield 91, 3) := by decide +kernel
theorem dX12_better_5 : decode cX12_better 5 = .ok (.iload_n 1, 1) := by decide +kernel
theorem dX12_better_6 : decode cX12_better 6 = .ok (.iaload, 1) := by decide +kernel
theorem dX12_better_7 : decode cX12_better 7 = .ok (.if_icmp .lt 23, 3) := by decide +kernel
theorem dX12_better_10 : decode cX12_better 10 = .ok (.iload_n 2, 1) := by decide +kernel
theorem dX12_better_11 : decode cX12_better 11 = .ok (.aload_n 0, 1) := by decide +kernel
theorem dX12_better_12 : decode cX12_better 12 = .ok (.getfield 91, 3) := by decide +kernel
theorem dX12_better_15 : decode cX12_better 15 = .ok (.iload_n 1, 1) := by decide +kernel
theorem dX12_better_16 : decode cX12_better 16 = .ok (.iaload, 1) := by decide +kernel
theorem dX12_better_17 : decode cX12_better 17 = .ok (.if_icmp .ne 14, 3) := by decide +kernel
theorem dX12_better_20 : decode cX12_better 20 = .ok (.iload_n 3, 1) := by decide +kernel
theorem dX12_better_21 : decode cX12_better 21 = .ok (.aload_n 0, 1) := by decide +kernel
theorem dX12_better_22 : decode cX12_better 22 = .ok (.getfield 94, 3) := by decide +kernel
theorem dX12_better_25 : decode cX12_better 25 = .ok (.iload_n 1, 1) := by decide +kernel
theorem dX12_better_26 : decode cX12_better 26 = .ok (.iaload, 1) := by decide +kernel
theorem dX12_better_27 : decode cX12_better 27 = .ok (.if_icmp .lt 4, 3) := by decide +kernel
theorem dX12_better_30 : decode cX12_better 30 = .ok (.return_, 1) := by decide +kernel
theorem dX12_better_31 : decode cX12_better 31 = .ok (.aload_n 0, 1) := by decide +kernel
theorem dX12_better_32 : decode cX12_better 32 = .ok (.getfield 91, 3) := by decide +kernel
theorem dX12_better_35 : decode cX12_better 35 = .ok (.iload_n 1, 1) := by decide +kernel
theorem dX12_better_36 : decode cX12_better 36 = .ok (.iload_n 2, 1) := by decide +kernel
theorem dX12_better_37 : decode cX12_better 37 = .ok (.iastore, 1) := by decide +kernel
theorem dX12_better_38 : decode cX12_better 38 = .ok (.aload_n 0, 1) := by decide +kernel
theorem dX12_better_39 : decode cX12_better 39 = .ok (.getfield 94, 3) := by decide +kernel
theorem dX12_better_42 : decode cX12_better 42 = .ok (.iload_n 1, 1) := by decide +kernel
theorem dX12_better_43 : decode cX12_better 43 = .ok (.iload_n 3, 1) := by decide +kernel
theorem dX12_better_44 : decode cX12_better 44 = .ok (.iastore, 1) := by decide +kernel
theorem dX12_better_45 : decode cX12_better 45 = .ok (.return_, 1) := by decide +kernel
theorem dX12_shareLand_0 : decode cX12_shareLand 0 = .ok (.iconst 0, 1) := by decide +kernel
theorem dX12_shareLand_1 : decode cX12_shareLand 1 = .ok (.istore_n 2, 1) := by decide +kernel
theorem dX12_shareLand_2 : decode cX12_shareLand 2 = .ok (.iload_n 2, 1) := by decide +kernel
theorem dX12_shareLand_3 : decode cX12_shareLand 3 = .ok (.bipush 64, 2) := by decide +kernel
theorem dX12_shareLand_5 : decode cX12_shareLand 5 = .ok (.if_icmp .ge 33, 3) := by decide +kernel
theorem dX12_shareLand_8 : decode cX12_shareLand 8 = .ok (.aload_n 0, 1) := by decide +kernel
theorem dX12_shareLand_9 : decode cX12_shareLand 9 = .ok (.getfield 91, 3) := by decide +kernel
theorem dX12_shareLand_12 : decode cX12_shareLand 12 = .ok (.iload_n 2, 1) := by decide +kernel
theorem dX12_shareLand_13 : decode cX12_shareLand 13 = .ok (.aload_n 0, 1) := by decide +kernel
theorem dX12_shareLand_14 : decode cX12_shareLand 14 = .ok (.getfield 85, 3) := by decide +kernel
theorem dX12_shareLand_17 : decode cX12_shareLand 17 = .ok (.iload_n 2, 1) := by decide +kernel
theorem dX12_shareLand_18 : decode cX12_shareLand 18 = .ok (.iaload, 1) := by decide +kernel
theorem dX12_shareLand_19 : decode cX12_shareLand 19 = .ok (.iastore, 1) := by decide +kernel
theorem dX12_shareLand_20 : decode cX12_shareLand 20 = .ok (.aload_n 0, 1) := by decide +kernel
theorem dX12_shareLand_21 : decode cX12_shareLand 21 = .ok (.getfield 94, 3) := by decide +kernel
theorem dX12_shareLand_24 : decode cX12_shareLand 24 = .ok (.iload_n 2, 1) := by decide +kernel
theorem dX12_shareLand_25 : decode cX12_shareLand 25 = .ok (.aload_n 0, 1) := by decide +kernel
theorem dX12_shareLand_26 : decode cX12_shareLand 26 = .ok (.getfield 88, 3) := by decide +kernel
theorem dX12_shareLand_29 : decode cX12_shareLand 29 = .ok (.iload_n 2, 1) := by decide +kernel
theorem dX12_shareLand_30 : decode cX12_shareLand 30 = .ok (.iaload, 1) := by decide +kernel
theorem dX12_shareLand_31 : decode cX12_shareLand 31 = .ok (.iastore, 1) := by decide +kernel
theorem dX12_shareLand_32 : decode cX12_shareLand 32 = .ok (.iinc 2 1, 3) := by decide +kernel
theorem dX12_shareLand_35 : decode cX12_shareLand 35 = .ok (.goto (-33), 3) := by decide +kernel
theorem dX12_shareLand_38 : decode cX12_shareLand 38 = .ok (.iconst 0, 1) := by decide +kernel
theorem dX12_shareLand_39 : decode cX12_shareLand 39 = .ok (.istore_n 2, 1) := by decide +kernel
theorem dX12_shareLand_40 : decode cX12_shareLand 40 = .ok (.iload_n 2, 1) := by decide +kernel
theorem dX12_shareLand_41 : decode cX12_shareLand 41 = .ok (.aload_n 0, 1) := by decide +kernel
theorem dX12_shareLand_42 : decode cX12_shareLand 42 = .ok (.invokevirtual 176, 3) := by decide +kernel
theorem dX12_shareLand_45 : decode cX12_shareLand 45 = .ok (.if_icmp .ge 150, 3) := by decide +kernel
theorem dX12_shareLand_48 : decode cX12_shareLand 48 = .ok (.aload_n 0, 1) := by decide +kernel
theorem dX12_shareLand_49 : decode cX12_shareLand 49 = .ok (.iload_n 2, 1) := by decide +kernel
theorem dX12_shareLand_50 : decode cX12_shareLand 50 = .ok (.iconst 0, 1) := by decide +kernel
theorem dX12_shareLand_51 : decode cX12_shareLand 51 = .ok (.invokevirtual 180, 3) := by decide +kernel
theorem dX12_shareLand_54 : decode cX12_shareLand 54 = .ok (.iload_n 1, 1) := by decide +kernel
theorem dX12_shareLand_55 : decode cX12_shareLand 55 = .ok (.if_icmp .ne 134, 3) := by decide +kernel
theorem dX12_shareLand_58 : decode cX12_shareLand 58 = .ok (.aload_n 0, 1) := by decide +kernel
theorem dX12_shareLand_59 : decode cX12_shareLand 59 = .ok (.iload_n 2, 1) := by decide +kernel
theorem dX12_shareLand_60 : decode cX12_shareLand 60 = .ok (.invokevirtual 278, 3) := by decide +kernel
theorem dX12_shareLand_63 : decode cX12_shareLand 63 = .ok (.ifCond .eq 6, 3) := by decide +kernel
theorem dX12_shareLand_66 : decode cX12_shareLand 66 = .ok (.goto 123, 3) := by decide +kernel
theorem dX12_shareLand_69 : decode cX12_shareLand 69 = .ok (.iconst 0, 1) := by decide +kernel
theorem dX12_shareLand_70 : decode cX12_shareLand 70 = .ok (.istore_n 3, 1) := by decide +kernel
theorem dX12_shareLand_71 : decode cX12_shareLand 71 = .ok (.iload_n 3, 1) := by decide +kernel
theorem dX12_shareLand_72 : decode cX12_shareLand 72 = .ok (.aload_n 0, 1) := by decide +kernel
theorem dX12_shareLand_73 : decode cX12_shareLand 73 = .ok (.getfield 13, 3) := by decide +kernel
theorem dX12_shareLand_76 : decode cX12_shareLand 76 = .ok (.iconst 2, 1) := by decide +kernel
theorem dX12_shareLand_77 : decode cX12_shareLand 77 = .ok (.iaload, 1) := by decide +kernel
theorem dX12_shareLand_78 : decode cX12_shareLand 78 = .ok (.if_icmp .ge 111, 3) := by decide +kernel
theorem dX12_shareLand_81 : decode cX12_shareLand 81 = .ok (.aload_n 0, 1) := by decide +kernel
theorem dX12_shareLand_82 : decode cX12_shareLand 82 = .ok (.iload_n 2, 1) := by decide +kernel
theorem dX12_shareLand_83 : decode cX12_shareLand 83 = .ok (.aload_n 0, 1) := by decide +kernel
theorem dX12_shareLand_84 : decode cX12_shareLand 84 = .ok (.getfield 13, 3) := by decide +kernel
theorem dX12_shareLand_87 : decode cX12_shareLand 87 = .ok (.iconst 5, 1) := by decide +kernel
theorem dX12_shareLand_88 : decode cX12_shareLand 88 = .ok (.iload_n 3, 1) := by decide +kernel
theorem dX12_shareLand_89 : decode cX12_shareLand 89 = .ok (.iadd, 1) := by decide +kernel
theorem dX12_shareLand_90 : decode cX12_shareLand 90 = .ok (.iaload, 1) := by decide +kernel
theorem dX12_shareLand_91 : decode cX12_shareLand 91 = .ok (.invokevirtual 272, 3) := by decide +kernel
theorem dX12_shareLand_94 : decode cX12_shareLand 94 = .ok (.ifCond .ne 6, 3) := by decide +kernel
theorem dX12_shareLand_97 : decode cX12_shareLand 97 = .ok (.goto 86, 3) := by decide +kernel
theorem dX12_shareLand_100 : decode cX12_shareLand 100 = .ok (.iconst 0, 1) := by decide +kernel
theorem dX12_shareLand_101 : decode cX12_shareLand 101 = .ok (.istore 4, 2) := by decide +kernel
theorem dX12_shareLand_103 : decode cX12_shareLand 103 = .ok (.iload 4, 2) := by decide +kernel
theorem dX12_shareLand_105 : decode cX12_shareLand 105 = .ok (.bipush 64, 2) := by decide +kernel
theorem dX12_shareLand_107 : decode cX12_shareLand 107 = .ok (.if_icmp .ge 76, 3) := by decide +kernel
theorem dX12_shareLand_110 : decode cX12_shareLand 110 = .ok (.iload 4, 2) := by decide +kernel
theorem dX12_shareLand_112 : decode cX12_shareLand 112 = .ok (.iload_n 3, 1) := by decide +kernel
theorem dX12_shareLand_113 : decode cX12_shareLand 113 = .ok (.invokestatic 204, 3) := by decide +kernel
theorem dX12_shareLand_116 : decode cX12_shareLand 116 = .ok (.ifCond .ne 61, 3) := by decide +kernel
theorem dX12_shareLand_119 : decode cX12_shareLand 119 = .ok (.aload_n 0, 1) := by decide +kernel
theorem dX12_shareLand_120 : decode cX12_shareLand 120 = .ok (.getfield 85, 3) := by decide +kernel
theorem dX12_shareLand_123 : decode cX12_shareLand 123 = .ok (.iload 4, 2) := by decide +kernel
theorem dX12_shareLand_125 : decode cX12_shareLand 125 = .ok (.iaload, 1) := by decide +kernel
theorem dX12_shareLand_126 : decode cX12_shareLand 126 = .ok (.ifCond .lt 51, 3) := by decide +kernel
theorem dX12_shareLand_129 : decode cX12_shareLand 129 = .ok (.aload_n 0, 1) := by decide +kernel
theorem dX12_shareLand_130 : decode cX12_shareLand 130 = .ok (.iload 4, 2) := by decide +kernel
theorem dX12_shareLand_132 : decode cX12_shareLand 132 = .ok (.iconst 1, 1) := by decide +kernel
theorem dX12_shareLand_133 : decode cX12_shareLand 133 = .ok (.iload_n 3, 1) := by decide +kernel
theorem dX12_shareLand_134 : decode cX12_shareLand 134 = .ok (.ishl, 1) := by decide +kernel
theorem dX12_shareLand_135 : decode cX12_shareLand 135 = .ok (.ior, 1) := by decide +kernel
theorem dX12_shareLand_136 : decode cX12_shareLand 136 = .ok (.aload_n 0, 1) := by decide +kernel
theorem dX12_shareLand_137 : decode cX12_shareLand 137 = .ok (.getfield 85, 3) := by decide +kernel
theorem dX12_shareLand_140 : decode cX12_shareLand 140 = .ok (.iload 4, 2) := by decide +kernel
theorem dX12_shareLand_142 : decode cX12_shareLand 142 = .ok (.iaload, 1) := by decide +kernel
theorem dX12_shareLand_143 : decode cX12_shareLand 143 = .ok (.iconst 1, 1) := by decide +kernel
theorem dX12_shareLand_144 : decode cX12_shareLand 144 = .ok (.iadd, 1) := by decide +kernel
theorem dX12_shareLand_145 : decode cX12_shareLand 145 = .ok (.aload_n 0, 1) := by decide +kernel
theorem dX12_shareLand_146 : decode cX12_shareLand 146 = .ok (.getfield 88, 3) := by decide +kernel
theorem dX12_shareLand_149 : decode cX12_shareLand 149 = .ok (.iload 4, 2) := by decide +kernel
theorem dX12_shareLand_151 : decode cX12_shareLand 151 = .ok (.iaload, 1) := by decide +kernel
theorem dX12_shareLand_152 : decode cX12_shareLand 152 = .ok (.aload_n 0, 1) := by decide +kernel
theorem dX12_shareLand_153 : decode cX12_shareLand 153 = .ok (.iload_n 2, 1) := by decide +kernel
theorem dX12_shareLand_154 : decode cX12_shareLand 154 = .ok (.invokevirtual 184, 3) := by decide +kernel
theorem dX12_shareLand_157 : decode cX12_shareLand 157 = .ok (.aload_n 0, 1) := by decide +kernel
theorem dX12_shareLand_158 : decode cX12_shareLand 158 = .ok (.getfield 13, 3) := by decide +kernel
theorem dX12_shareLand_161 : decode cX12_shareLand 161 = .ok (.iconst 5, 1) := by decide +kernel
theorem dX12_shareLand_162 : decode cX12_shareLand 162 = .ok (.iload_n 3, 1) := by decide +kernel
theorem dX12_shareLand_163 : decode cX12_shareLand 163 = .ok (.iadd, 1) := by decide +kernel
theorem dX12_shareLand_164 : decode cX12_shareLand 164 = .ok (.iaload, 1) := by decide +kernel
theorem dX12_shareLand_165 : decode cX12_shareLand 165 = .ok (.if_icmp .ne 7, 3) := by decide +kernel
theorem dX12_shareLand_168 : decode cX12_shareLand 168 = .ok (.iconst 0, 1) := by decide +kernel
theorem dX12_shareLand_169 : decode cX12_shareLand 169 = .ok (.goto 4, 3) := by decide +kernel
theorem dX12_shareLand_172 : decode cX12_shareLand 172 = .ok (.iconst 1, 1) := by decide +kernel
theorem dX12_shareLand_173 : decode cX12_shareLand 173 = .ok (.iadd, 1) := by decide +kernel
theorem dX12_shareLand_174 : decode cX12_shareLand 174 = .ok (.invokevirtual 375, 3) := by decide +kernel
theorem dX12_shareLand_177 : decode cX12_shareLand 177 = .ok (.iinc 4 1, 3) := by decide +kernel
theorem dX12_shareLand_180 : decode cX12_shareLand 180 = .ok (.goto (-77), 3) := by decide +kernel
theorem dX12_shareLand_183 : decode cX12_shareLand 183 = .ok (.iinc 3 1, 3) := by decide +kernel
theorem dX12_shareLand_186 : decode cX12_shareLand 186 = .ok (.goto (-115), 3) := by decide +kernel
theorem dX12_shareLand_189 : decode cX12_shareLand 189 = .ok (.iinc 2 1, 3) := by decide +kernel
theorem dX12_shareLand_192 : decode cX12_shareLand 192 = .ok (.goto (-152), 3) := by decide +kernel
theorem dX12_shareLand_195 : decode cX12_shareLand 195 = .ok (.iconst 0, 1) := by decide +kernel
theorem dX12_shareLand_196 : decode cX12_shareLand 196 = .ok (.istore_n 2, 1) := by decide +kernel
theorem dX12_shareLand_197 : decode cX12_shareLand 197 = .ok (.iload_n 2, 1) := by decide +kernel
theorem dX12_shareLand_198 : decode cX12_shareLand 198 = .ok (.bipush 64, 2) := by decide +kernel
theorem dX12_shareLand_200 : decode cX12_shareLand 200 = .ok (.if_icmp .ge 33, 3) := by decide +kernel
theorem dX12_shareLand_203 : decode cX12_shareLand 203 = .ok (.aload_n 0, 1) := by decide +kernel
theorem dX12_shareLand_204 : decode cX12_shareLand 204 = .ok (.getfield 85, 3) := by decide +kernel
theorem dX12_shareLand_207 : decode cX12_shareLand 207 = .ok (.iload_n 2, 1) := by decide +kernel
theorem dX12_shareLand_208 : decode cX12_shareLand 208 = .ok (.aload_n 0, 1) := by decide +kernel
theorem dX12_shareLand_209 : decode cX12_shareLand 209 = .ok (.getfield 91, 3) := by decide +kernel
theorem dX12_shareLand_212 : decode cX12_shareLand 212 = .ok (.iload_n 2, 1) := by decide +kernel
theorem dX12_shareLand_213 : decode cX12_shareLand 213 = .ok (.iaload, 1) := by decide +kernel
theorem dX12_shareLand_214 : decode cX12_shareLand 214 = .ok (.iastore, 1) := by decide +kernel
theorem dX12_shareLand_215 : decode cX12_shareLand 215 = .ok (.aload_n 0, 1) := by decide +kernel
theorem dX12_shareLand_216 : decode cX12_shareLand 216 = .ok (.getfield 88, 3) := by decide +kernel
theorem dX12_shareLand_219 : decode cX12_shareLand 219 = .ok (.iload_n 2, 1) := by decide +kernel
theorem dX12_shareLand_220 : decode cX12_shareLand 220 = .ok (.aload_n 0, 1) := by decide +kernel
theorem dX12_shareLand_221 : decode cX12_shareLand 221 = .ok (.getfield 94, 3) := by decide +kernel
theorem dX12_shareLand_224 : decode cX12_shareLand 224 = .ok (.iload_n 2, 1) := by decide +kernel
theorem dX12_shareLand_225 : decode cX12_shareLand 225 = .ok (.iaload, 1) := by decide +kernel
theorem dX12_shareLand_226 : decode cX12_shareLand 226 = .ok (.iastore, 1) := by decide +kernel
theorem dX12_shareLand_227 : decode cX12_shareLand 227 = .ok (.iinc 2 1, 3) := by decide +kernel
theorem dX12_shareLand_230 : decode cX12_shareLand 230 = .ok (.goto (-33), 3) := by decide +kernel
theorem dX12_shareLand_233 : decode cX12_shareLand 233 = .ok (.return_, 1) := by decide +kernel
theorem dX12_shares_0 : decode cX12_shares 0 = .ok (.aload_n 0, 1) := by decide +kernel
theorem dX12_shares_1 : decode cX12_shares 1 = .ok (.iconst 0, 1) := by decide +kernel
theorem dX12_shares_2 : decode cX12_shares 2 = .ok (.putfield 97, 3) := by decide +kernel
theorem dX12_shares_5 : decode cX12_shares 5 = .ok (.aload_n 0, 1) := by decide +kernel
theorem dX12_shares_6 : decode cX12_shares 6 = .ok (.invokevirtual 234, 3) := by decide +kernel
theorem dX12_shares_9 : decode cX12_shares 9 = .ok (.iload_n 1, 1) := by decide +kernel
theorem dX12_shares_10 : decode cX12_shares 10 = .ok (.iconst 0, 1) := by decide +kernel
theorem dX12_shares_11 : decode cX12_shares 11 = .ok (.iconst 1, 1) := by decide +kernel
theorem dX12_shares_12 : decode cX12_shares 12 = .ok (.invokestatic 162, 3) := by decide +kernel
theorem dX12_shares_15 : decode cX12_shares 15 = .ok (.ifCond .ne 5, 3) := by decide +kernel
theorem dX12_shares_18 : decode cX12_shares 18 = .ok (.iconst (-1), 1) := by decide +kernel
theorem dX12_shares_19 : decode cX12_shares 19 = .ok (.ireturn, 1) := by decide +kernel
theorem dX12_shares_20 : decode cX12_shares 20 = .ok (.iconst 0, 1) := by decide +kernel
theorem dX12_shares_21 : decode cX12_shares 21 = .ok (.istore_n 2, 1) := by decide +kernel
theorem dX12_shares_22 : decode cX12_shares 22 = .ok (.iload_n 2, 1) := by decide +kernel
theorem dX12_shares_23 : decode cX12_shares 23 = .ok (.bipush 64, 2) := by decide +kernel
theorem dX12_shares_25 : decode cX12_shares 25 = .ok (.if_icmp .ge 31, 3) := by decide +kernel
theorem dX12_shares_28 : decode cX12_shares 28 = .ok (.aload_n 0, 1) := by decide +kernel
theorem dX12_shares_29 : decode cX12_shares 29 = .ok (.getfield 85, 3) := by decide +kernel
theorem dX12_shares_32 : decode cX12_shares 32 = .ok (.iload_n 2, 1) := by decide +kernel
theorem dX12_shares_33 : decode cX12_shares 33 = .ok (.iload_n 2, 1) := by decide +kernel
theorem dX12_shares_34 : decode cX12_shares 34 = .ok (.ifCond .ne 7, 3) := by decide +kernel
theorem dX12_shares_37 : decode cX12_shares 37 = .ok (.iconst 0, 1) := by decide +kernel
theorem dX12_shares_38 : decode cX12_shares 38 = .ok (.goto 4, 3) := by decide +kernel
theorem dX12_shares_41 : decode cX12_shares 41 = .ok (.iconst (-1), 1) := by decide +kernel
theorem dX12_shares_42 : decode cX12_shares 42 = .ok (.iastore, 1) := by decide +kernel
theorem dX12_shares_43 : decode cX12_shares 43 = .ok (.aload_n 0, 1) := by decide +kernel
theorem dX12_shares_44 : decode cX12_shares 44 = .ok (.getfield 88, 3) := by decide +kernel
theorem dX12_shares_47 : decode cX12_shares 47 = .ok (.iload_n 2, 1) := by decide +kernel
theorem dX12_shares_48 : decode cX12_shares 48 = .ok (.iconst 0, 1) := by decide +kernel
theorem dX12_shares_49 : decode cX12_shares 49 = .ok (.iastore, 1) := by decide +kernel
theorem dX12_shares_50 : decode cX12_shares 50 = .ok (.iinc 2 1, 3) := by decide +kernel
theorem dX12_shares_53 : decode cX12_shares 53 = .ok (.goto (-31), 3) := by decide +kernel
theorem dX12_shares_56 : decode cX12_shares 56 = .ok (.iconst 0, 1) := by decide +kernel
theorem dX12_shares_57 : decode cX12_shares 57 = .ok (.istore_n 2, 1) := by decide +kernel
theorem dX12_shares_58 : decode cX12_shares 58 = .ok (.iload_n 2, 1) := by decide +kernel
theorem dX12_shares_59 : decode cX12_shares 59 = .ok (.aload_n 0, 1) := by decide +kernel
theorem dX12_shares_60 : decode cX12_shares 60 = .ok (.getfield 13, 3) := by decide +kernel
theorem dX12_shares_63 : decode cX12_shares 63 = .ok (.iconst 0, 1) := by decide +kernel
theorem dX12_shares_64 : decode cX12_shares 64 = .ok (.iaload, 1) := by decide +kernel
theorem dX12_shares_65 : decode cX12_shares 65 = .ok (.if_icmp .ge 14, 3) := by decide +kernel
theorem dX12_shares_68 : decode cX12_shares 68 = .ok (.aload_n 0, 1) := by decide +kernel
theorem dX12_shares_69 : decode cX12_shares 69 = .ok (.iload_n 2, 1) := by decide +kernel
theorem dX12_shares_70 : decode cX12_shares 70 = .ok (.invokevirtual 378, 3) := by decide +kernel
theorem dX12_shares_73 : decode cX12_shares 73 = .ok (.iinc 2 1, 3) := by decide +kernel
theorem dX12_shares_76 : decode cX12_shares 76 = .ok (.goto (-18), 3) := by decide +kernel
theorem dX12_shares_79 : decode cX12_shares 79 = .ok (.iconst 0, 1) := by decide +kernel
theorem dX12_shares_80 : decode cX12_shares 80 = .ok (.istore_n 2, 1) := by decide +kernel
theorem dX12_shares_81 : decode cX12_shares 81 = .ok (.iconst 1, 1) := by decide +kernel
theorem dX12_shares_82 : decode cX12_shares 82 = .ok (.istore_n 3, 1) := by decide +kernel
theorem dX12_shares_83 : decode cX12_shares 83 = .ok (.iload_n 3, 1) := by decide +kernel
theorem dX12_shares_84 : decode cX12_shares 84 = .ok (.bipush 64, 2) := by decide +kernel
theorem dX12_shares_86 : decode cX12_shares 86 = .ok (.if_icmp .ge 56, 3) := by decide +kernel
theorem dX12_shares_89 : decode cX12_shares 89 = .ok (.aload_n 0, 1) := by decide +kernel
theorem dX12_shares_90 : decode cX12_shares 90 = .ok (.getfield 85, 3) := by decide +kernel
theorem dX12_shares_93 : decode cX12_shares 93 = .ok (.iload_n 3, 1) := by decide +kernel
theorem dX12_shares_94 : decode cX12_shares 94 = .ok (.iaload, 1) := by decide +kernel
theorem dX12_shares_95 : decode cX12_shares 95 = .ok (.aload_n 0, 1) := by decide +kernel
theorem dX12_shares_96 : decode cX12_shares 96 = .ok (.getfield 85, 3) := by decide +kernel
theorem dX12_shares_99 : decode cX12_shares 99 = .ok (.iload_n 2, 1) := by decide +kernel
theorem dX12_shares_100 : decode cX12_shares 100 = .ok (.iaload, 1) := by decide +kernel
theorem dX12_shares_101 : decode cX12_shares 101 = .ok (.if_icmp .gt 33, 3) := by decide +kernel
theorem dX12_shares_104 : decode cX12_shares 104 = .ok (.aload_n 0, 1) := by decide +kernel
theorem dX12_shares_105 : decode cX12_shares 105 = .ok (.getfield 85, 3) := by decide +kernel
theorem dX12_shares_108 : decode cX12_shares 108 = .ok (.iload_n 3, 1) := by decide +kernel
theorem dX12_shares_109 : decode cX12_shares 109 = .ok (.iaload, 1) := by decide +kernel
theorem dX12_shares_110 : decode cX12_shares 110 = .ok (.aload_n 0, 1) := by decide +kernel
theorem dX12_shares_111 : decode cX12_shares 111 = .ok (.getfield 85, 3) := by decide +kernel
theorem dX12_shares_114 : decode cX12_shares 114 = .ok (.iload_n 2, 1) := by decide +kernel
theorem dX12_shares_115 : decode cX12_shares 115 = .ok (.iaload, 1) := by decide +kernel
theorem dX12_shares_116 : decode cX12_shares 116 = .ok (.if_icmp .ne 20, 3) := by decide +kernel
theorem dX12_shares_119 : decode cX12_shares 119 = .ok (.aload_n 0, 1) := by decide +kernel
theorem dX12_shares_120 : decode cX12_shares 120 = .ok (.getfield 88, 3) := by decide +kernel
theorem dX12_shares_123 : decode cX12_shares 123 = .ok (.iload_n 3, 1) := by decide +kernel
theorem dX12_shares_124 : decode cX12_shares 124 = .ok (.iaload, 1) := by decide +kernel
theorem dX12_shares_125 : decode cX12_shares 125 = .ok (.aload_n 0, 1) := by decide +kernel
theorem dX12_shares_126 : decode cX12_shares 126 = .ok (.getfield 88, 3) := by decide +kernel
theorem dX12_shares_129 : decode cX12_shares 129 = .ok (.iload_n 2, 1) := by decide +kernel
theorem dX12_shares_130 : decode cX12_shares 130 = .ok (.iaload, 1) := by decide +kernel
theorem dX12_shares_131 : decode cX12_shares 131 = .ok (.if_icmp .ge 5, 3) := by decide +kernel
theorem dX12_shares_134 : decode cX12_shares 134 = .ok (.iload_n 3, 1) := by decide +kernel
theorem dX12_shares_135 : decode cX12_shares 135 = .ok (.istore_n 2, 1) := by decide +kernel
theorem dX12_shares_136 : decode cX12_shares 136 = .ok (.iinc 3 1, 3) := by decide +kernel
theorem dX12_shares_139 : decode cX12_shares 139 = .ok (.goto (-56), 3) := by decide +kernel
theorem dX12_shares_142 : decode cX12_shares 142 = .ok (.iload_n 1, 1) := by decide +kernel
theorem dX12_shares_143 : decode cX12_shares 143 = .ok (.ifCond .ne 12, 3) := by decide +kernel
theorem dX12_shares_146 : decode cX12_shares 146 = .ok (.aload_n 0, 1) := by decide +kernel
theorem dX12_shares_147 : decode cX12_shares 147 = .ok (.getfield 85, 3) := by decide +kernel
theorem dX12_shares_150 : decode cX12_shares 150 = .ok (.iload_n 2, 1) := by decide +kernel
theorem dX12_shares_151 : decode cX12_shares 151 = .ok (.iaload, 1) := by decide +kernel
theorem dX12_shares_152 : decode cX12_shares 152 = .ok (.goto 9, 3) := by decide +kernel
theorem dX12_shares_155 : decode cX12_shares 155 = .ok (.aload_n 0, 1) := by decide +kernel
theorem dX12_shares_156 : decode cX12_shares 156 = .ok (.getfield 88, 3) := by decide +kernel
theorem dX12_shares_159 : decode cX12_shares 159 = .ok (.iload_n 2, 1) := by decide +kernel
theorem dX12_shares_160 : decode cX12_shares 160 = .ok (.iaload, 1) := by decide +kernel
theorem dX12_shares_161 : decode cX12_shares 161 = .ok (.ireturn, 1) := by decide +kernel
theorem dX12_driftOf_0 : decode cX12_driftOf 0 = .ok (.aload_n 0, 1) := by decide +kernel
theorem dX12_driftOf_1 : decode cX12_driftOf 1 = .ok (.iload_n 1, 1) := by decide +kernel
theorem dX12_driftOf_2 : decode cX12_driftOf 2 = .ok (.bipush 8, 2) := by decide +kernel
theorem dX12_driftOf_4 : decode cX12_driftOf 4 = .ok (.invokevirtual 180, 3) := by decide +kernel
theorem dX12_driftOf_7 : decode cX12_driftOf 7 = .ok (.istore 4, 2) := by decide +kernel
theorem dX12_driftOf_9 : decode cX12_driftOf 9 = .ok (.iconst 4, 1) := by decide +kernel
theorem dX12_driftOf_10 : decode cX12_driftOf 10 = .ok (.iload 4, 2) := by decide +kernel
theorem dX12_driftOf_12 : decode cX12_driftOf 12 = .ok (.imul, 1) := by decide +kernel
theorem dX12_driftOf_13 : decode cX12_driftOf 13 = .ok (.iload_n 3, 1) := by decide +kernel
theorem dX12_driftOf_14 : decode cX12_driftOf 14 = .ok (.aload_n 0, 1) := by decide +kernel
theorem dX12_driftOf_15 : decode cX12_driftOf 15 = .ok (.iload_n 1, 1) := by decide +kernel
theorem dX12_driftOf_16 : decode cX12_driftOf 16 = .ok (.bipush 9, 2) := by decide +kernel
theorem dX12_driftOf_18 : decode cX12_driftOf 18 = .ok (.invokevirtual 180, 3) := by decide +kernel
theorem dX12_driftOf_21 : decode cX12_driftOf 21 = .ok (.irem, 1) := by decide +kernel
theorem dX12_driftOf_22 : decode cX12_driftOf 22 = .ok (.imul, 1) := by decide +kernel
theorem dX12_driftOf_23 : decode cX12_driftOf 23 = .ok (.aload_n 0, 1) := by decide +kernel
theorem dX12_driftOf_24 : decode cX12_driftOf 24 = .ok (.iload_n 1, 1) := by decide +kernel
theorem dX12_driftOf_25 : decode cX12_driftOf 25 = .ok (.bipush 9, 2) := by decide +kernel
theorem dX12_driftOf_27 : decode cX12_driftOf 27 = .ok (.invokevirtual 180, 3) := by decide +kernel
theorem dX12_driftOf_30 : decode cX12_driftOf 30 = .ok (.idiv, 1) := by decide +kernel
theorem dX12_driftOf_31 : decode cX12_driftOf 31 = .ok (.istore 5, 2) := by decide +kernel
theorem dX12_driftOf_33 : decode cX12_driftOf 33 = .ok (.iload 5, 2) := by decide +kernel
theorem dX12_driftOf_35 : decode cX12_driftOf 35 = .ok (.iload 4, 2) := by decide +kernel
theorem dX12_driftOf_37 : decode cX12_driftOf 37 = .ok (.if_icmp .gt 8, 3) := by decide +kernel
theorem dX12_driftOf_40 : decode cX12_driftOf 40 = .ok (.iload 5, 2) := by decide +kernel
theorem dX12_driftOf_42 : decode cX12_driftOf 42 = .ok (.goto 29, 3) := by decide +kernel
theorem dX12_driftOf_45 : decode cX12_driftOf 45 = .ok (.iload 5, 2) := by decide +kernel
theorem dX12_driftOf_47 : decode cX12_driftOf 47 = .ok (.iconst 3, 1) := by decide +kernel
theorem dX12_driftOf_48 : decode cX12_driftOf 48 = .ok (.iload 4, 2) := by decide +kernel
theorem dX12_driftOf_50 : decode cX12_driftOf 50 = .ok (.imul, 1) := by decide +kernel
theorem dX12_driftOf_51 : decode cX12_driftOf 51 = .ok (.if_icmp .gt 13, 3) := by decide +kernel
theorem dX12_driftOf_54 : decode cX12_driftOf 54 = .ok (.iconst 2, 1) := by decide +kernel
theorem dX12_driftOf_55 : decode cX12_driftOf 55 = .ok (.iload 4, 2) := by decide +kernel
theorem dX12_driftOf_57 : decode cX12_driftOf 57 = .ok (.imul, 1) := by decide +kernel
theorem dX12_driftOf_58 : decode cX12_driftOf 58 = .ok (.iload 5, 2) := by decide +kernel
theorem dX12_driftOf_60 : decode cX12_driftOf 60 = .ok (.isub, 1) := by decide +kernel
theorem dX12_driftOf_61 : decode cX12_driftOf 61 = .ok (.goto 10, 3) := by decide +kernel
theorem dX12_driftOf_64 : decode cX12_driftOf 64 = .ok (.iload 5, 2) := by decide +kernel
theorem dX12_driftOf_66 : decode cX12_driftOf 66 = .ok (.iconst 4, 1) := by decide +kernel
theorem dX12_driftOf_67 : decode cX12_driftOf 67 = .ok (.iload 4, 2) := by decide +kernel
theorem dX12_driftOf_69 : decode cX12_driftOf 69 = .ok (.imul, 1) := by decide +kernel
theorem dX12_driftOf_70 : decode cX12_driftOf 70 = .ok (.isub, 1) := by decide +kernel
theorem dX12_driftOf_71 : decode cX12_driftOf 71 = .ok (.istore 6, 2) := by decide +kernel
theorem dX12_driftOf_73 : decode cX12_driftOf 73 = .ok (.iload_n 2, 1) := by decide +kernel
theorem dX12_driftOf_74 : decode cX12_driftOf 74 = .ok (.iload 6, 2) := by decide +kernel
theorem dX12_driftOf_76 : decode cX12_driftOf 76 = .ok (.iadd, 1) := by decide +kernel
theorem dX12_driftOf_77 : decode cX12_driftOf 77 = .ok (.sipush 3600, 3) := by decide +kernel
theorem dX12_driftOf_80 : decode cX12_driftOf 80 = .ok (.iadd, 1) := by decide +kernel
theorem dX12_driftOf_81 : decode cX12_driftOf 81 = .ok (.sipush 3600, 3) := by decide +kernel
theorem dX12_driftOf_84 : decode cX12_driftOf 84 = .ok (.irem, 1) := by decide +kernel
theorem dX12_driftOf_85 : decode cX12_driftOf 85 = .ok (.ireturn, 1) := by decide +kernel
theorem dX12_drift_0 : decode cX12_drift 0 = .ok (.aload_n 0, 1) := by decide +kernel
theorem dX12_drift_1 : decode cX12_drift 1 = .ok (.invokevirtual 234, 3) := by decide +kernel
theorem dX12_drift_4 : decode cX12_drift 4 = .ok (.aload_n 0, 1) := by decide +kernel
theorem dX12_drift_5 : decode cX12_drift 5 = .ok (.iload_n 1, 1) := by decide +kernel
theorem dX12_drift_6 : decode cX12_drift 6 = .ok (.invokevirtual 247, 3) := by decide +kernel
theorem dX12_drift_9 : decode cX12_drift 9 = .ok (.ifCond .eq 29, 3) := by decide +kernel
theorem dX12_drift_12 : decode cX12_drift 12 = .ok (.aload_n 0, 1) := by decide +kernel
theorem dX12_drift_13 : decode cX12_drift 13 = .ok (.iload_n 1, 1) := by decide +kernel
theorem dX12_drift_14 : decode cX12_drift 14 = .ok (.invokevirtual 278, 3) := by decide +kernel
theorem dX12_drift_17 : decode cX12_drift 17 = .ok (.ifCond .eq 21, 3) := by decide +kernel
theorem dX12_drift_20 : decode cX12_drift 20 = .ok (.iload_n 2, 1) := by decide +kernel
theorem dX12_drift_21 : decode cX12_drift 21 = .ok (.iconst 0, 1) := by decide +kernel
theorem dX12_drift_22 : decode cX12_drift 22 = .ok (.sipush 3599, 3) := by decide +kernel
theorem dX12_drift_25 : decode cX12_drift 25 = .ok (.invokestatic 162, 3) := by decide +kernel
theorem dX12_drift_28 : decode cX12_drift 28 = .ok (.ifCond .eq 10, 3) := by decide +kernel
theorem dX12_drift_31 : decode cX12_drift 31 = .ok (.iload_n 3, 1) := by decide +kernel
theorem dX12_drift_32 : decode cX12_drift 32 = .ok (.invokestatic 360, 3) := by decide +kernel
theorem dX12_drift_35 : decode cX12_drift 35 = .ok (.ifCond .ne 8, 3) := by decide +kernel
theorem dX12_drift_38 : decode cX12_drift 38 = .ok (.aload_n 0, 1) := by decide +kernel
theorem dX12_drift_39 : decode cX12_drift 39 = .ok (.invokevirtual 250, 3) := by decide +kernel
theorem dX12_drift_42 : decode cX12_drift 42 = .ok (.ireturn, 1) := by decide +kernel
theorem dX12_drift_43 : decode cX12_drift 43 = .ok (.aload_n 0, 1) := by decide +kernel
theorem dX12_drift_44 : decode cX12_drift 44 = .ok (.iconst 0, 1) := by decide +kernel
theorem dX12_drift_45 : decode cX12_drift 45 = .ok (.putfield 97, 3) := by decide +kernel
theorem dX12_drift_48 : decode cX12_drift 48 = .ok (.aload_n 0, 1) := by decide +kernel
theorem dX12_drift_49 : decode cX12_drift 49 = .ok (.iload_n 1, 1) := by decide +kernel
theorem dX12_drift_50 : decode cX12_drift 50 = .ok (.iload_n 2, 1) := by decide +kernel
theorem dX12_drift_51 : decode cX12_drift 51 = .ok (.iload_n 3, 1) := by decide +kernel
theorem dX12_drift_52 : decode cX12_drift 52 = .ok (.invokevirtual 381, 3) := by decide +kernel
theorem dX12_drift_55 : decode cX12_drift 55 = .ok (.ireturn, 1) := by decide +kernel
theorem dX12_meets_0 : decode cX12_meets 0 = .ok (.aload_n 0, 1) := by decide +kernel
theorem dX12_meets_1 : decode cX12_meets 1 = .ok (.iconst 0, 1) := by decide +kernel
theorem dX12_meets_2 : decode cX12_meets 2 = .ok (.putfield 97, 3) := by decide +kernel
theorem dX12_meets_5 : decode cX12_meets 5 = .ok (.aload_n 0, 1) := by decide +kernel
theorem dX12_meets_6 : decode cX12_meets 6 = .ok (.invokevirtual 234, 3) := by decide +kernel
theorem dX12_meets_9 : decode cX12_meets 9 = .ok (.aload_n 0, 1) := by decide +kernel
theorem dX12_meets_10 : decode cX12_meets 10 = .ok (.iload_n 1, 1) := by decide +kernel
theorem dX12_meets_11 : decode cX12_meets 11 = .ok (.invokevirtual 247, 3) := by decide +kernel
theorem dX12_meets_14 : decode cX12_meets 14 = .ok (.ifCond .eq 39, 3) := by decide +kernel
theorem dX12_meets_17 : decode cX12_meets 17 = .ok (.aload_n 0, 1) := by decide +kernel
theorem dX12_meets_18 : decode cX12_meets 18 = .ok (.iload_n 1, 1) := by decide +kernel
theorem dX12_meets_19 : decode cX12_meets 19 = .ok (.invokevirtual 278, 3) := by decide +kernel
theorem dX12_meets_22 : decode cX12_meets 22 = .ok (.ifCond .eq 31, 3) := by decide +kernel
theorem dX12_meets_25 : decode cX12_meets 25 = .ok (.iload_n 2, 1) := by decide +kernel
theorem dX12_meets_26 : decode cX12_meets 26 = .ok (.iconst 0, 1) := by decide +kernel
theorem dX12_meets_27 : decode cX12_meets 27 = .ok (.sipush 3599, 3) := by decide +kernel
theorem dX12_meets_30 : decode cX12_meets 30 = .ok (.invokestatic 162, 3) := by decide +kernel
theorem dX12_meets_33 : decode cX12_meets 33 = .ok (.ifCond .eq 20, 3) := by decide +kernel
theorem dX12_meets_36 : decode cX12_meets 36 = .ok (.iload_n 3, 1) := by decide +kernel
theorem dX12_meets_37 : decode cX12_meets 37 = .ok (.iconst 0, 1) := by decide +kernel
theorem dX12_meets_38 : decode cX12_meets 38 = .ok (.iconst 3, 1) := by decide +kernel
theorem dX12_meets_39 : decode cX12_meets 39 = .ok (.invokestatic 162, 3) := by decide +kernel
theorem dX12_meets_42 : decode cX12_meets 42 = .ok (.ifCond .eq 11, 3) := by decide +kernel
theorem dX12_meets_45 : decode cX12_meets 45 = .ok (.iload 4, 2) := by decide +kernel
theorem dX12_meets_47 : decode cX12_meets 47 = .ok (.invokestatic 360, 3) := by decide +kernel
theorem dX12_meets_50 : decode cX12_meets 50 = .ok (.ifCond .ne 6, 3) := by decide +kernel
theorem dX12_meets_53 : decode cX12_meets 53 = .ok (.bipush (-2), 2) := by decide +kernel
theorem dX12_meets_55 : decode cX12_meets 55 = .ok (.ireturn, 1) := by decide +kernel
theorem dX12_meets_56 : decode cX12_meets 56 = .ok (.iload 4, 2) := by decide +kernel
theorem dX12_meets_58 : decode cX12_meets 58 = .ok (.istore 5, 2) := by decide +kernel
theorem dX12_meets_60 : decode cX12_meets 60 = .ok (.iload 5, 2) := by decide +kernel
theorem dX12_meets_62 : decode cX12_meets 62 = .ok (.sipush 999, 3) := by decide +kernel
theorem dX12_meets_65 : decode cX12_meets 65 = .ok (.if_icmp .gt 113, 3) := by decide +kernel
theorem dX12_meets_68 : decode cX12_meets 68 = .ok (.aload_n 0, 1) := by decide +kernel
theorem dX12_meets_69 : decode cX12_meets 69 = .ok (.iload_n 1, 1) := by decide +kernel
theorem dX12_meets_70 : decode cX12_meets 70 = .ok (.iload_n 2, 1) := by decide +kernel
theorem dX12_meets_71 : decode cX12_meets 71 = .ok (.iload 5, 2) := by decide +kernel
theorem dX12_meets_73 : decode cX12_meets 73 = .ok (.invokevirtual 381, 3) := by decide +kernel
theorem dX12_meets_76 : decode cX12_meets 76 = .ok (.istore 6, 2) := by decide +kernel
theorem dX12_meets_78 : decode cX12_meets 78 = .ok (.iconst 0, 1) := by decide +kernel
theorem dX12_meets_79 : decode cX12_meets 79 = .ok (.istore 7, 2) := by decide +kernel
theorem dX12_meets_81 : decode cX12_meets 81 = .ok (.iload 7, 2) := by decide +kernel
theorem dX12_meets_83 : decode cX12_meets 83 = .ok (.aload_n 0, 1) := by decide +kernel
theorem dX12_meets_84 : decode cX12_meets 84 = .ok (.invokevirtual 176, 3) := by decide +kernel
theorem dX12_meets_87 : decode cX12_meets 87 = .ok (.if_icmp .ge 85, 3) := by decide +kernel
theorem dX12_meets_90 : decode cX12_meets 90 = .ok (.iload 7, 2) := by decide +kernel
theorem dX12_meets_92 : decode cX12_meets 92 = .ok (.iload_n 1, 1) := by decide +kernel
theorem dX12_meets_93 : decode cX12_meets 93 = .ok (.if_icmp .eq 73, 3) := by decide +kernel
theorem dX12_meets_96 : decode cX12_meets 96 = .ok (.aload_n 0, 1) := by decide +kernel
theorem dX12_meets_97 : decode cX12_meets 97 = .ok (.iload 7, 2) := by decide +kernel
theorem dX12_meets_99 : decode cX12_meets 99 = .ok (.invokevirtual 253, 3) := by decide +kernel
theorem dX12_meets_102 : decode cX12_meets 102 = .ok (.ifCond .eq 64, 3) := by decide +kernel
theorem dX12_meets_105 : decode cX12_meets 105 = .ok (.aload_n 0, 1) := by decide +kernel
theorem dX12_meets_106 : decode cX12_meets 106 = .ok (.iload 7, 2) := by decide +kernel
theorem dX12_meets_108 : decode cX12_meets 108 = .ok (.invokevirtual 278, 3) := by decide +kernel
theorem dX12_meets_111 : decode cX12_meets 111 = .ok (.ifCond .ne 55, 3) := by decide +kernel
theorem dX12_meets_114 : decode cX12_meets 114 = .ok (.aload_n 0, 1) := by decide +kernel
theorem dX12_meets_115 : decode cX12_meets 115 = .ok (.iload 7, 2) := by decide +kernel
theorem dX12_meets_117 : decode cX12_meets 117 = .ok (.invokevirtual 256, 3) := by decide +kernel
theorem dX12_meets_120 : decode cX12_meets 120 = .ok (.iload_n 3, 1) := by decide +kernel
theorem dX12_meets_121 : decode cX12_meets 121 = .ok (.if_icmp .ne 45, 3) := by decide +kernel
theorem dX12_meets_124 : decode cX12_meets 124 = .ok (.aload_n 0, 1) := by decide +kernel
theorem dX12_meets_125 : decode cX12_meets 125 = .ok (.getfield 22, 3) := by decide +kernel
theorem dX12_meets_128 : decode cX12_meets 128 = .ok (.iload 7, 2) := by decide +kernel
theorem dX12_meets_130 : decode cX12_meets 130 = .ok (.laload, 1) := by decide +kernel
theorem dX12_meets_131 : decode cX12_meets 131 = .ok (.aload_n 0, 1) := by decide +kernel
theorem dX12_meets_132 : decode cX12_meets 132 = .ok (.getfield 22, 3) := by decide +kernel
theorem dX12_meets_135 : decode cX12_meets 135 = .ok (.iload_n 1, 1) := by decide +kernel
theorem dX12_meets_136 : decode cX12_meets 136 = .ok (.laload, 1) := by decide +kernel
theorem dX12_meets_137 : decode cX12_meets 137 = .ok (.land, 1) := by decide +kernel
theorem dX12_meets_138 : decode cX12_meets 138 = .ok (.lconst 0, 1) := by decide +kernel
theorem dX12_meets_139 : decode cX12_meets 139 = .ok (.lcmp, 1) := by decide +kernel
theorem dX12_meets_140 : decode cX12_meets 140 = .ok (.ifCond .eq 26, 3) := by decide +kernel
theorem dX12_meets_143 : decode cX12_meets 143 = .ok (.iload 6, 2) := by decide +kernel
theorem dX12_meets_145 : decode cX12_meets 145 = .ok (.aload_n 0, 1) := by decide +kernel
theorem dX12_meets_146 : decode cX12_meets 146 = .ok (.iload 7, 2) := by decide +kernel
theorem dX12_meets_148 : decode cX12_meets 148 = .ok (.invokevirtual 184, 3) := by decide +kernel
theorem dX12_meets_151 : decode cX12_meets 151 = .ok (.invokestatic 262, 3) := by decide +kernel
theorem dX12_meets_154 : decode cX12_meets 154 = .ok (.aload_n 0, 1) := by decide +kernel
theorem dX12_meets_155 : decode cX12_meets 155 = .ok (.getfield 13, 3) := by decide +kernel
theorem dX12_meets_158 : decode cX12_meets 158 = .ok (.iconst 3, 1) := by decide +kernel
theorem dX12_meets_159 : decode cX12_meets 159 = .ok (.iaload, 1) := by decide +kernel
theorem dX12_meets_160 : decode cX12_meets 160 = .ok (.if_icmp .ge 6, 3) := by decide +kernel
theorem dX12_meets_163 : decode cX12_meets 163 = .ok (.iload 5, 2) := by decide +kernel
theorem dX12_meets_165 : decode cX12_meets 165 = .ok (.ireturn, 1) := by decide +kernel
theorem dX12_meets_166 : decode cX12_meets 166 = .ok (.iinc 7 1, 3) := by decide +kernel
theorem dX12_meets_169 : decode cX12_meets 169 = .ok (.goto (-88), 3) := by decide +kernel
theorem dX12_meets_172 : decode cX12_meets 172 = .ok (.iinc 5 1, 3) := by decide +kernel
theorem dX12_meets_175 : decode cX12_meets 175 = .ok (.goto (-115), 3) := by decide +kernel
theorem dX12_meets_178 : decode cX12_meets 178 = .ok (.iconst (-1), 1) := by decide +kernel
theorem dX12_meets_179 : decode cX12_meets 179 = .ok (.ireturn, 1) := by decide +kernel
theorem dX12_image_0 : decode cX12_image 0 = .ok (.aload_n 0, 1) := by decide +kernel
theorem dX12_image_1 : decode cX12_image 1 = .ok (.iconst 0, 1) := by decide +kernel
theorem dX12_image_2 : decode cX12_image 2 = .ok (.putfield 97, 3) := by decide +kernel
theorem dX12_image_5 : decode cX12_image 5 = .ok (.aload_n 0, 1) := by decide +kernel
theorem dX12_image_6 : decode cX12_image 6 = .ok (.invokevirtual 234, 3) := by decide +kernel
theorem dX12_image_9 : decode cX12_image 9 = .ok (.iload_n 1, 1) := by decide +kernel
theorem dX12_image_10 : decode cX12_image 10 = .ok (.iconst 0, 1) := by decide +kernel
theorem dX12_image_11 : decode cX12_image 11 = .ok (.iconst 1, 1) := by decide +kernel
theorem dX12_image_12 : decode cX12_image 12 = .ok (.invokestatic 162, 3) := by decide +kernel
theorem dX12_image_15 : decode cX12_image 15 = .ok (.ifCond .ne 5, 3) := by decide +kernel
theorem dX12_image_18 : decode cX12_image 18 = .ok (.iconst 0, 1) := by decide +kernel
theorem dX12_image_19 : decode cX12_image 19 = .ok (.ireturn, 1) := by decide +kernel
theorem dX12_image_20 : decode cX12_image 20 = .ok (.iconst 0, 1) := by decide +kernel
theorem dX12_image_21 : decode cX12_image 21 = .ok (.istore_n 2, 1) := by decide +kernel
theorem dX12_image_22 : decode cX12_image 22 = .ok (.iload_n 2, 1) := by decide +kernel
theorem dX12_image_23 : decode cX12_image 23 = .ok (.sipush 380, 3) := by decide +kernel
theorem dX12_image_26 : decode cX12_image 26 = .ok (.if_icmp .ge 27, 3) := by decide +kernel
theorem dX12_image_29 : decode cX12_image 29 = .ok (.aload_n 0, 1) := by decide +kernel
theorem dX12_image_30 : decode cX12_image 30 = .ok (.getfield 19, 3) := by decide +kernel
theorem dX12_image_33 : decode cX12_image 33 = .ok (.sipush 380, 3) := by decide +kernel
theorem dX12_image_36 : decode cX12_image 36 = .ok (.iload_n 1, 1) := by decide +kernel
theorem dX12_image_37 : decode cX12_image 37 = .ok (.imul, 1) := by decide +kernel
theorem dX12_image_38 : decode cX12_image 38 = .ok (.iload_n 2, 1) := by decide +kernel
theorem dX12_image_39 : decode cX12_image 39 = .ok (.iadd, 1) := by decide +kernel
theorem dX12_image_40 : decode cX12_image 40 = .ok (.aload_n 0, 1) := by decide +kernel
theorem dX12_image_41 : decode cX12_image 41 = .ok (.getfield 13, 3) := by decide +kernel
theorem dX12_image_44 : decode cX12_image 44 = .ok (.iload_n 2, 1) := by decide +kernel
theorem dX12_image_45 : decode cX12_image 45 = .ok (.iaload, 1) := by decide +kernel
theorem dX12_image_46 : decode cX12_image 46 = .ok (.iastore, 1) := by decide +kernel
theorem dX12_image_47 : decode cX12_image 47 = .ok (.iinc 2 1, 3) := by decide +kernel
theorem dX12_image_50 : decode cX12_image 50 = .ok (.goto (-28), 3) := by decide +kernel
theorem dX12_image_53 : decode cX12_image 53 = .ok (.iconst 0, 1) := by decide +kernel
theorem dX12_image_54 : decode cX12_image 54 = .ok (.istore_n 2, 1) := by decide +kernel
theorem dX12_image_55 : decode cX12_image 55 = .ok (.iload_n 2, 1) := by decide +kernel
theorem dX12_image_56 : decode cX12_image 56 = .ok (.bipush 16, 2) := by decide +kernel
theorem dX12_image_58 : decode cX12_image 58 = .ok (.if_icmp .ge 26, 3) := by decide +kernel
theorem dX12_image_61 : decode cX12_image 61 = .ok (.aload_n 0, 1) := by decide +kernel
theorem dX12_image_62 : decode cX12_image 62 = .ok (.getfield 29, 3) := by decide +kernel
theorem dX12_image_65 : decode cX12_image 65 = .ok (.bipush 16, 2) := by decide +kernel
theorem dX12_image_67 : decode cX12_image 67 = .ok (.iload_n 1, 1) := by decide +kernel
theorem dX12_image_68 : decode cX12_image 68 = .ok (.imul, 1) := by decide +kernel
theorem dX12_image_69 : decode cX12_image 69 = .ok (.iload_n 2, 1) := by decide +kernel
theorem dX12_image_70 : decode cX12_image 70 = .ok (.iadd, 1) := by decide +kernel
theorem dX12_image_71 : decode cX12_image 71 = .ok (.aload_n 0, 1) := by decide +kernel
theorem dX12_image_72 : decode cX12_image 72 = .ok (.getfield 22, 3) := by decide +kernel
theorem dX12_image_75 : decode cX12_image 75 = .ok (.iload_n 2, 1) := by decide +kernel
theorem dX12_image_76 : decode cX12_image 76 = .ok (.laload, 1) := by decide +kernel
theorem dX12_image_77 : decode cX12_image 77 = .ok (.lastore, 1) := by decide +kernel
theorem dX12_image_78 : decode cX12_image 78 = .ok (.iinc 2 1, 3) := by decide +kernel
theorem dX12_image_81 : decode cX12_image 81 = .ok (.goto (-26), 3) := by decide +kernel
theorem dX12_image_84 : decode cX12_image 84 = .ok (.aload_n 0, 1) := by decide +kernel
theorem dX12_image_85 : decode cX12_image 85 = .ok (.getfield 35, 3) := by decide +kernel
theorem dX12_image_88 : decode cX12_image 88 = .ok (.iload_n 1, 1) := by decide +kernel
theorem dX12_image_89 : decode cX12_image 89 = .ok (.iconst 1, 1) := by decide +kernel
theorem dX12_image_90 : decode cX12_image 90 = .ok (.bastore, 1) := by decide +kernel
theorem dX12_image_91 : decode cX12_image 91 = .ok (.iconst 1, 1) := by decide +kernel
theorem dX12_image_92 : decode cX12_image 92 = .ok (.ireturn, 1) := by decide +kernel
theorem dX12_restore_0 : decode cX12_restore 0 = .ok (.aload_n 0, 1) := by decide +kernel
theorem dX12_restore_1 : decode cX12_restore 1 = .ok (.iconst 0, 1) := by decide +kernel
theorem dX12_restore_2 : decode cX12_restore 2 = .ok (.putfield 97, 3) := by decide +kernel
theorem dX12_restore_5 : decode cX12_restore 5 = .ok (.aload_n 0, 1) := by decide +kernel
theorem dX12_restore_6 : decode cX12_restore 6 = .ok (.invokevirtual 234, 3) := by decide +kernel
theorem dX12_restore_9 : decode cX12_restore 9 = .ok (.iload_n 1, 1) := by decide +kernel
theorem dX12_restore_10 : decode cX12_restore 10 = .ok (.iconst 0, 1) := by decide +kernel
theorem dX12_restore_11 : decode cX12_restore 11 = .ok (.iconst 1, 1) := by decide +kernel
theorem dX12_restore_12 : decode cX12_restore 12 = .ok (.invokestatic 162, 3) := by decide +kernel
theorem dX12_restore_15 : decode cX12_restore 15 = .ok (.ifCond .eq 12, 3) := by decide +kernel
theorem dX12_restore_18 : decode cX12_restore 18 = .ok (.aload_n 0, 1) := by decide +kernel
theorem dX12_restore_19 : decode cX12_restore 19 = .ok (.getfield 35, 3) := by decide +kernel
theorem dX12_restore_22 : decode cX12_restore 22 = .ok (.iload_n 1, 1) := by decide +kernel
theorem dX12_restore_23 : decode cX12_restore 23 = .ok (.baload, 1) := by decide +kernel
theorem dX12_restore_24 : decode cX12_restore 24 = .ok (.ifCond .ne 5, 3) := by decide +kernel
theorem dX12_restore_27 : decode cX12_restore 27 = .ok (.iconst 0, 1) := by decide +kernel
theorem dX12_restore_28 : decode cX12_restore 28 = .ok (.ireturn, 1) := by decide +kernel
theorem dX12_restore_29 : decode cX12_restore 29 = .ok (.iconst 0, 1) := by decide +kernel
theorem dX12_restore_30 : decode cX12_restore 30 = .ok (.istore_n 2, 1) := by decide +kernel
theorem dX12_restore_31 : decode cX12_restore 31 = .ok (.iload_n 2, 1) := by decide +kernel
theorem dX12_restore_32 : decode cX12_restore 32 = .ok (.sipush 380, 3) := by decide +kernel
theorem dX12_restore_35 : decode cX12_restore 35 = .ok (.if_icmp .ge 27, 3) := by decide +kernel
theorem dX12_restore_38 : decode cX12_restore 38 = .ok (.aload_n 0, 1) := by decide +kernel
theorem dX12_restore_39 : decode cX12_restore 39 = .ok (.getfield 13, 3) := by decide +kernel
theorem dX12_restore_42 : decode cX12_restore 42 = .ok (.iload_n 2, 1) := by decide +kernel
theorem dX12_restore_43 : decode cX12_restore 43 = .ok (.aload_n 0, 1) := by decide +kernel
theorem dX12_restore_44 : decode cX12_restore 44 = .ok (.getfield 19, 3) := by decide +kernel
theorem dX12_restore_47 : decode cX12_restore 47 = .ok (.sipush 380, 3) := by decide +kernel
theorem dX12_restore_50 : decode cX12_restore 50 = .ok (.iload_n 1, 1) := by decide +kernel
theorem dX12_restore_51 : decode cX12_restore 51 = .ok (.imul, 1) := by decide +kernel
theorem dX12_restore_52 : decode cX12_restore 52 = .ok (.iload_n 2, 1) := by decide +kernel
theorem dX12_restore_53 : decode cX12_restore 53 = .ok (.iadd, 1) := by decide +kernel
theorem dX12_restore_54 : decode cX12_restore 54 = .ok (.iaload, 1) := by decide +kernel
theorem dX12_restore_55 : decode cX12_restore 55 = .ok (.iastore, 1) := by decide +kernel
theorem dX12_restore_56 : decode cX12_restore 56 = .ok (.iinc 2 1, 3) := by decide +kernel
theorem dX12_restore_59 : decode cX12_restore 59 = .ok (.goto (-28), 3) := by decide +kernel
theorem dX12_restore_62 : decode cX12_restore 62 = .ok (.iconst 0, 1) := by decide +kernel
theorem dX12_restore_63 : decode cX12_restore 63 = .ok (.istore_n 2, 1) := by decide +kernel
theorem dX12_restore_64 : decode cX12_restore 64 = .ok (.iload_n 2, 1) := by decide +kernel
theorem dX12_restore_65 : decode cX12_restore 65 = .ok (.bipush 16, 2) := by decide +kernel
theorem dX12_restore_67 : decode cX12_restore 67 = .ok (.if_icmp .ge 26, 3) := by decide +kernel
theorem dX12_restore_70 : decode cX12_restore 70 = .ok (.aload_n 0, 1) := by decide +kernel
theorem dX12_restore_71 : decode cX12_restore 71 = .ok (.getfield 22, 3) := by decide +kernel
theorem dX12_restore_74 : decode cX12_restore 74 = .ok (.iload_n 2, 1) := by decide +kernel
theorem dX12_restore_75 : decode cX12_restore 75 = .ok (.aload_n 0, 1) := by decide +kernel
theorem dX12_restore_76 : decode cX12_restore 76 = .ok (.getfield 29, 3) := by decide +kernel
theorem dX12_restore_79 : decode cX12_restore 79 = .ok (.bipush 16, 2) := by decide +kernel
theorem dX12_restore_81 : decode cX12_restore 81 = .ok (.iload_n 1, 1) := by decide +kernel
theorem dX12_restore_82 : decode cX12_restore 82 = .ok (.imul, 1) := by decide +kernel
theorem dX12_restore_83 : decode cX12_restore 83 = .ok (.iload_n 2, 1) := by decide +kernel
theorem dX12_restore_84 : decode cX12_restore 84 = .ok (.iadd, 1) := by decide +kernel
theorem dX12_restore_85 : decode cX12_restore 85 = .ok (.laload, 1) := by decide +kernel
theorem dX12_restore_86 : decode cX12_restore 86 = .ok (.lastore, 1) := by decide +kernel
theorem dX12_restore_87 : decode cX12_restore 87 = .ok (.iinc 2 1, 3) := by decide +kernel
theorem dX12_restore_90 : decode cX12_restore 90 = .ok (.goto (-26), 3) := by decide +kernel
theorem dX12_restore_93 : decode cX12_restore 93 = .ok (.iconst 1, 1) := by decide +kernel
theorem dX12_restore_94 : decode cX12_restore 94 = .ok (.ireturn, 1) := by decide +kernel
theorem dX12_count_0 : decode cX12_count 0 = .ok (.aload_n 0, 1) := by decide +kernel
theorem dX12_count_1 : decode cX12_count 1 = .ok (.iconst 0, 1) := by decide +kernel
theorem dX12_count_2 : decode cX12_count 2 = .ok (.putfield 97, 3) := by decide +kernel
theorem dX12_count_5 : decode cX12_count 5 = .ok (.aload_n 0, 1) := by decide +kernel
theorem dX12_count_6 : decode cX12_count 6 = .ok (.invokevirtual 234, 3) := by decide +kernel
theorem dX12_count_9 : decode cX12_count 9 = .ok (.iload_n 1, 1) := by decide +kernel
theorem dX12_count_10 : decode cX12_count 10 = .ok (.tableswitch 100 0 5 #[38, 45, 50, 57, 88, 95], 38) := by decide +kernel
theorem dX12_count_48 : decode cX12_count 48 = .ok (.aload_n 0, 1) := by decide +kernel
theorem dX12_count_49 : decode cX12_count 49 = .ok (.getfield 13, 3) := by decide +kernel
theorem dX12_count_52 : decode cX12_count 52 = .ok (.iconst 0, 1) := by decide +kernel
theorem dX12_count_53 : decode cX12_count 53 = .ok (.iaload, 1) := by decide +kernel
theorem dX12_count_54 : decode cX12_count 54 = .ok (.ireturn, 1) := by decide +kernel
theorem dX12_count_55 : decode cX12_count 55 = .ok (.aload_n 0, 1) := by decide +kernel
theorem dX12_count_56 : decode cX12_count 56 = .ok (.invokevirtual 176, 3) := by decide +kernel
theorem dX12_count_59 : decode cX12_count 59 = .ok (.ireturn, 1) := by decide +kernel
theorem dX12_count_60 : decode cX12_count 60 = .ok (.aload_n 0, 1) := by decide +kernel
theorem dX12_count_61 : decode cX12_count 61 = .ok (.getfield 13, 3) := by decide +kernel
theorem dX12_count_64 : decode cX12_count 64 = .ok (.iconst 2, 1) := by decide +kernel
theorem dX12_count_65 : decode cX12_count 65 = .ok (.iaload, 1) := by decide +kernel
theorem dX12_count_66 : decode cX12_count 66 = .ok (.ireturn, 1) := by decide +kernel
theorem dX12_count_67 : decode cX12_count 67 = .ok (.iconst 0, 1) := by decide +kernel
theorem dX12_count_68 : decode cX12_count 68 = .ok (.istore_n 2, 1) := by decide +kernel
theorem dX12_count_69 : decode cX12_count 69 = .ok (.iconst 0, 1) := by decide +kernel
theorem dX12_count_70 : decode cX12_count 70 = .ok (.istore_n 3, 1) := by decide +kernel
theorem dX12_count_71 : decode cX12_count 71 = .ok (.iload_n 3, 1) := by decide +kernel
theorem dX12_count_72 : decode cX12_count 72 = .ok (.aload_n 0, 1) := by decide +kernel
theorem dX12_count_73 : decode cX12_count 73 = .ok (.invokevirtual 176, 3) := by decide +kernel
theorem dX12_count_76 : decode cX12_count 76 = .ok (.if_icmp .ge 20, 3) := by decide +kernel
theorem dX12_count_79 : decode cX12_count 79 = .ok (.aload_n 0, 1) := by decide +kernel
theorem dX12_count_80 : decode cX12_count 80 = .ok (.iload_n 3, 1) := by decide +kernel
theorem dX12_count_81 : decode cX12_count 81 = .ok (.invokevirtual 253, 3) := by decide +kernel
theorem dX12_count_84 : decode cX12_count 84 = .ok (.ifCond .eq 6, 3) := by decide +kernel
theorem dX12_count_87 : decode cX12_count 87 = .ok (.iinc 2 1, 3) := by decide +kernel
theorem dX12_count_90 : decode cX12_count 90 = .ok (.iinc 3 1, 3) := by decide +kernel
theorem dX12_count_93 : decode cX12_count 93 = .ok (.goto (-22), 3) := by decide +kernel
theorem dX12_count_96 : decode cX12_count 96 = .ok (.iload_n 2, 1) := by decide +kernel
theorem dX12_count_97 : decode cX12_count 97 = .ok (.ireturn, 1) := by decide +kernel
theorem dX12_count_98 : decode cX12_count 98 = .ok (.aload_n 0, 1) := by decide +kernel
theorem dX12_count_99 : decode cX12_count 99 = .ok (.getfield 13, 3) := by decide +kernel
theorem dX12_count_102 : decode cX12_count 102 = .ok (.iconst 3, 1) := by decide +kernel
theorem dX12_count_103 : decode cX12_count 103 = .ok (.iaload, 1) := by decide +kernel
theorem dX12_count_104 : decode cX12_count 104 = .ok (.ireturn, 1) := by decide +kernel
theorem dX12_count_105 : decode cX12_count 105 = .ok (.aload_n 0, 1) := by decide +kernel
theorem dX12_count_106 : decode cX12_count 106 = .ok (.getfield 100, 3) := by decide +kernel
theorem dX12_count_109 : decode cX12_count 109 = .ok (.ireturn, 1) := by decide +kernel
theorem dX12_count_110 : decode cX12_count 110 = .ok (.iconst (-1), 1) := by decide +kernel
theorem dX12_count_111 : decode cX12_count 111 = .ok (.ireturn, 1) := by decide +kernel
theorem dJ0_length_8abf5_0 : decode cJ0_length_8abf5 0 = .ok (.aload_n 0, 1) := by decide +kernel
theorem dJ0_length_8abf5_1 : decode cJ0_length_8abf5 1 = .ok (.getfield 9, 3) := by decide +kernel
theorem dJ0_length_8abf5_4 : decode cJ0_length_8abf5 4 = .ok (.arraylength, 1) := by decide +kernel
theorem dJ0_length_8abf5_5 : decode cJ0_length_8abf5 5 = .ok (.aload_n 0, 1) := by decide +kernel
theorem dJ0_length_8abf5_6 : decode cJ0_length_8abf5 6 = .ok (.invokevirtual 335, 3) := by decide +kernel
theorem dJ0_length_8abf5_9 : decode cJ0_length_8abf5 9 = .ok (.ishr, 1) := by decide +kernel
theorem dJ0_length_8abf5_10 : decode cJ0_length_8abf5 10 = .ok (.ireturn, 1) := by decide +kernel
theorem dJ0_charAt_5068e_0 : decode cJ0_charAt_5068e 0 = .ok (.aload_n 0, 1) := by decide +kernel
theorem dJ0_charAt_5068e_1 : decode cJ0_charAt_5068e 1 = .ok (.invokevirtual 492, 3) := by decide +kernel
theorem dJ0_charAt_5068e_4 : decode cJ0_charAt_5068e 4 = .ok (.ifCond .eq 12, 3) := by decide +kernel
theorem dJ0_charAt_5068e_7 : decode cJ0_charAt_5068e 7 = .ok (.aload_n 0, 1) := by decide +kernel
theorem dJ0_charAt_5068e_8 : decode cJ0_charAt_5068e 8 = .ok (.getfield 9, 3) := by decide +kernel
theorem dJ0_charAt_5068e_11 : decode cJ0_charAt_5068e 11 = .ok (.iload_n 1, 1) := by decide +kernel
theorem dJ0_charAt_5068e_12 : decode cJ0_charAt_5068e 12 = .ok (.invokestatic 495, 3) := by decide +kernel
theorem dJ0_charAt_5068e_15 : decode cJ0_charAt_5068e 15 = .ok (.ireturn, 1) := by decide +kernel
theorem dJ0_charAt_5068e_16 : decode cJ0_charAt_5068e 16 = .ok (.aload_n 0, 1) := by decide +kernel
theorem dJ0_charAt_5068e_17 : decode cJ0_charAt_5068e 17 = .ok (.getfield 9, 3) := by decide +kernel
theorem dJ0_charAt_5068e_20 : decode cJ0_charAt_5068e 20 = .ok (.iload_n 1, 1) := by decide +kernel
theorem dJ0_charAt_5068e_21 : decode cJ0_charAt_5068e 21 = .ok (.invokestatic 498, 3) := by decide +kernel
theorem dJ0_charAt_5068e_24 : decode cJ0_charAt_5068e 24 = .ok (.ireturn, 1) := by decide +kernel
theorem dJ0_coder_7d493_0 : decode cJ0_coder_7d493 0 = .ok (.getstatic 38, 3) := by decide +kernel
theorem dJ0_coder_7d493_3 : decode cJ0_coder_7d493 3 = .ok (.ifCond .eq 10, 3) := by decide +kernel
theorem dJ0_coder_7d493_6 : decode cJ0_coder_7d493 6 = .ok (.aload_n 0, 1) := by decide +kernel
theorem dJ0_coder_7d493_7 : decode cJ0_coder_7d493 7 = .ok (.getfield 15, 3) := by decide +kernel
theorem dJ0_coder_7d493_10 : decode cJ0_coder_7d493 10 = .ok (.goto 4, 3) := by decide +kernel
theorem dJ0_coder_7d493_13 : decode cJ0_coder_7d493 13 = .ok (.iconst 1, 1) := by decide +kernel
theorem dJ0_coder_7d493_14 : decode cJ0_coder_7d493 14 = .ok (.ireturn, 1) := by decide +kernel
theorem dJ0_isLatin1_aae02_0 : decode cJ0_isLatin1_aae02 0 = .ok (.getstatic 38, 3) := by decide +kernel
theorem dJ0_isLatin1_aae02_3 : decode cJ0_isLatin1_aae02 3 = .ok (.ifCond .eq 14, 3) := by decide +kernel
theorem dJ0_isLatin1_aae02_6 : decode cJ0_isLatin1_aae02 6 = .ok (.aload_n 0, 1) := by decide +kernel
theorem dJ0_isLatin1_aae02_7 : decode cJ0_isLatin1_aae02 7 = .ok (.getfield 15, 3) := by decide +kernel
theorem dJ0_isLatin1_aae02_10 : decode cJ0_isLatin1_aae02 10 = .ok (.ifCond .ne 7, 3) := by decide +kernel
theorem dJ0_isLatin1_aae02_13 : decode cJ0_isLatin1_aae02 13 = .ok (.iconst 1, 1) := by decide +kernel
theorem dJ0_isLatin1_aae02_14 : decode cJ0_isLatin1_aae02 14 = .ok (.goto 4, 3) := by decide +kernel
theorem dJ0_isLatin1_aae02_17 : decode cJ0_isLatin1_aae02 17 = .ok (.iconst 0, 1) := by decide +kernel
theorem dJ0_isLatin1_aae02_18 : decode cJ0_isLatin1_aae02 18 = .ok (.ireturn, 1) := by decide +kernel
theorem dJ0_checkIndex_df160_0 : decode cJ0_checkIndex_df160 0 = .ok (.iload_n 0, 1) := by decide +kernel
theorem dJ0_checkIndex_df160_1 : decode cJ0_checkIndex_df160 1 = .ok (.iload_n 1, 1) := by decide +kernel
theorem dJ0_checkIndex_df160_2 : decode cJ0_checkIndex_df160 2 = .ok (.getstatic 1053, 3) := by decide +kernel
theorem dJ0_checkIndex_df160_5 : decode cJ0_checkIndex_df160 5 = .ok (.invokestatic 1059, 3) := by decide +kernel
theorem dJ0_checkIndex_df160_8 : decode cJ0_checkIndex_df160 8 = .ok (.pop, 1) := by decide +kernel
theorem dJ0_checkIndex_df160_9 : decode cJ0_checkIndex_df160 9 = .ok (.return_, 1) := by decide +kernel
theorem dJ1_charAt_3b067_0 : decode cJ1_charAt_3b067 0 = .ok (.iload_n 1, 1) := by decide +kernel
theorem dJ1_charAt_3b067_1 : decode cJ1_charAt_3b067 1 = .ok (.aload_n 0, 1) := by decide +kernel
theorem dJ1_charAt_3b067_2 : decode cJ1_charAt_3b067 2 = .ok (.arraylength, 1) := by decide +kernel
theorem dJ1_charAt_3b067_3 : decode cJ1_charAt_3b067 3 = .ok (.invokestatic 9, 3) := by decide +kernel
theorem dJ1_charAt_3b067_6 : decode cJ1_charAt_3b067 6 = .ok (.aload_n 0, 1) := by decide +kernel
theorem dJ1_charAt_3b067_7 : decode cJ1_charAt_3b067 7 = .ok (.iload_n 1, 1) := by decide +kernel
theorem dJ1_charAt_3b067_8 : decode cJ1_charAt_3b067 8 = .ok (.baload, 1) := by decide +kernel
theorem dJ1_charAt_3b067_9 : decode cJ1_charAt_3b067 9 = .ok (.sipush 255, 3) := by decide +kernel
theorem dJ1_charAt_3b067_12 : decode cJ1_charAt_3b067 12 = .ok (.iand, 1) := by decide +kernel
theorem dJ1_charAt_3b067_13 : decode cJ1_charAt_3b067 13 = .ok (.i2c, 1) := by decide +kernel
theorem dJ1_charAt_3b067_14 : decode cJ1_charAt_3b067 14 = .ok (.ireturn, 1) := by decide +kernel
theorem dJ2_getChar_3b067_0 : decode cJ2_getChar_3b067 0 = .ok (.getstatic 44, 3) := by decide +kernel
theorem dJ2_getChar_3b067_3 : decode cJ2_getChar_3b067 3 = .ok (.ifCond .ne 25, 3) := by decide +kernel
theorem dJ2_getChar_3b067_6 : decode cJ2_getChar_3b067 6 = .ok (.iload_n 1, 1) := by decide +kernel
theorem dJ2_getChar_3b067_7 : decode cJ2_getChar_3b067 7 = .ok (.ifCond .lt 11, 3) := by decide +kernel
theorem dJ2_getChar_3b067_10 : decode cJ2_getChar_3b067 10 = .ok (.iload_n 1, 1) := by decide +kernel
theorem dJ2_getChar_3b067_11 : decode cJ2_getChar_3b067 11 = .ok (.aload_n 0, 1) := by decide +kernel
theorem dJ2_getChar_3b067_12 : decode cJ2_getChar_3b067 12 = .ok (.invokestatic 48, 3) := by decide +kernel
theorem dJ2_getChar_3b067_15 : decode cJ2_getChar_3b067 15 = .ok (.if_icmp .lt 13, 3) := by decide +kernel
theorem dJ2_getChar_3b067_18 : decode cJ2_getChar_3b067 18 = .ok (.new 52, 3) := by decide +kernel
theorem dJ2_getChar_3b067_21 : decode cJ2_getChar_3b067 21 = .ok (.dup, 1) := by decide +kernel
theorem dJ2_getChar_3b067_22 : decode cJ2_getChar_3b067 22 = .ok (.ldc 54, 2) := by decide +kernel
theorem dJ2_getChar_3b067_24 : decode cJ2_getChar_3b067 24 = .ok (.invokespecial 56, 3) := by decide +kernel
theorem dJ2_getChar_3b067_27 : decode cJ2_getChar_3b067 27 = .ok (.athrow, 1) := by decide +kernel
theorem dJ2_getChar_3b067_28 : decode cJ2_getChar_3b067 28 = .ok (.iload_n 1, 1) := by decide +kernel
theorem dJ2_getChar_3b067_29 : decode cJ2_getChar_3b067 29 = .ok (.iconst 1, 1) := by decide +kernel
theorem dJ2_getChar_3b067_30 : decode cJ2_getChar_3b067 30 = .ok (.ishl, 1) := by decide +kernel
theorem dJ2_getChar_3b067_31 : decode cJ2_getChar_3b067 31 = .ok (.istore_n 1, 1) := by decide +kernel
theorem dJ2_getChar_3b067_32 : decode cJ2_getChar_3b067 32 = .ok (.aload_n 0, 1) := by decide +kernel
theorem dJ2_getChar_3b067_33 : decode cJ2_getChar_3b067 33 = .ok (.iload_n 1, 1) := by decide +kernel
theorem dJ2_getChar_3b067_34 : decode cJ2_getChar_3b067 34 = .ok (.iinc 1 1, 3) := by decide +kernel
theorem dJ2_getChar_3b067_37 : decode cJ2_getChar_3b067 37 = .ok (.baload, 1) := by decide +kernel
theorem dJ2_getChar_3b067_38 : decode cJ2_getChar_3b067 38 = .ok (.sipush 255, 3) := by decide +kernel
theorem dJ2_getChar_3b067_41 : decode cJ2_getChar_3b067 41 = .ok (.iand, 1) := by decide +kernel
theorem dJ2_getChar_3b067_42 : decode cJ2_getChar_3b067 42 = .ok (.getstatic 59, 3) := by decide +kernel
theorem dJ2_getChar_3b067_45 : decode cJ2_getChar_3b067 45 = .ok (.ishl, 1) := by decide +kernel
theorem dJ2_getChar_3b067_46 : decode cJ2_getChar_3b067 46 = .ok (.aload_n 0, 1) := by decide +kernel
theorem dJ2_getChar_3b067_47 : decode cJ2_getChar_3b067 47 = .ok (.iload_n 1, 1) := by decide +kernel
theorem dJ2_getChar_3b067_48 : decode cJ2_getChar_3b067 48 = .ok (.baload, 1) := by decide +kernel
theorem dJ2_getChar_3b067_49 : decode cJ2_getChar_3b067 49 = .ok (.sipush 255, 3) := by decide +kernel
theorem dJ2_getChar_3b067_52 : decode cJ2_getChar_3b067 52 = .ok (.iand, 1) := by decide +kernel
theorem dJ2_getChar_3b067_53 : decode cJ2_getChar_3b067 53 = .ok (.getstatic 63, 3) := by decide +kernel
theorem dJ2_getChar_3b067_56 : decode cJ2_getChar_3b067 56 = .ok (.ishl, 1) := by decide +kernel
theorem dJ2_getChar_3b067_57 : decode cJ2_getChar_3b067 57 = .ok (.ior, 1) := by decide +kernel
theorem dJ2_getChar_3b067_58 : decode cJ2_getChar_3b067 58 = .ok (.i2c, 1) := by decide +kernel
theorem dJ2_getChar_3b067_59 : decode cJ2_getChar_3b067 59 = .ok (.ireturn, 1) := by decide +kernel
theorem dJ2_length_9d52b_0 : decode cJ2_length_9d52b 0 = .ok (.aload_n 0, 1) := by decide +kernel
theorem dJ2_length_9d52b_1 : decode cJ2_length_9d52b 1 = .ok (.arraylength, 1) := by decide +kernel
theorem dJ2_length_9d52b_2 : decode cJ2_length_9d52b 2 = .ok (.iconst 1, 1) := by decide +kernel
theorem dJ2_length_9d52b_3 : decode cJ2_length_9d52b 3 = .ok (.ishr, 1) := by decide +kernel
theorem dJ2_length_9d52b_4 : decode cJ2_length_9d52b 4 = .ok (.ireturn, 1) := by decide +kernel
theorem dJ2_charAt_3b067_0 : decode cJ2_charAt_3b067 0 = .ok (.iload_n 1, 1) := by decide +kernel
theorem dJ2_charAt_3b067_1 : decode cJ2_charAt_3b067 1 = .ok (.aload_n 0, 1) := by decide +kernel
theorem dJ2_charAt_3b067_2 : decode cJ2_charAt_3b067 2 = .ok (.invokestatic 67, 3) := by decide +kernel
theorem dJ2_charAt_3b067_5 : decode cJ2_charAt_3b067 5 = .ok (.aload_n 0, 1) := by decide +kernel
theorem dJ2_charAt_3b067_6 : decode cJ2_charAt_3b067 6 = .ok (.iload_n 1, 1) := by decide +kernel
theorem dJ2_charAt_3b067_7 : decode cJ2_charAt_3b067 7 = .ok (.invokestatic 71, 3) := by decide +kernel
theorem dJ2_charAt_3b067_10 : decode cJ2_charAt_3b067 10 = .ok (.ireturn, 1) := by decide +kernel
theorem dJ2_checkIndex_2214a_0 : decode cJ2_checkIndex_2214a 0 = .ok (.iload_n 0, 1) := by decide +kernel
theorem dJ2_checkIndex_2214a_1 : decode cJ2_checkIndex_2214a 1 = .ok (.aload_n 1, 1) := by decide +kernel
theorem dJ2_checkIndex_2214a_2 : decode cJ2_checkIndex_2214a 2 = .ok (.invokestatic 48, 3) := by decide +kernel
theorem dJ2_checkIndex_2214a_5 : decode cJ2_checkIndex_2214a 5 = .ok (.invokestatic 414, 3) := by decide +kernel
theorem dJ2_checkIndex_2214a_8 : decode cJ2_checkIndex_2214a 8 = .ok (.return_, 1) := by decide +kernel
theorem dJ3_checkIndex_8e157_0 : decode cJ3_checkIndex_8e157 0 = .ok (.iload_n 0, 1) := by decide +kernel
theorem dJ3_checkIndex_8e157_1 : decode cJ3_checkIndex_8e157 1 = .ok (.ifCond .lt 8, 3) := by decide +kernel
theorem dJ3_checkIndex_8e157_4 : decode cJ3_checkIndex_8e157 4 = .ok (.iload_n 0, 1) := by decide +kernel
theorem dJ3_checkIndex_8e157_5 : decode cJ3_checkIndex_8e157 5 = .ok (.iload_n 1, 1) := by decide +kernel
theorem dJ3_checkIndex_8e157_6 : decode cJ3_checkIndex_8e157 6 = .ok (.if_icmp .lt 10, 3) := by decide +kernel
theorem dJ3_checkIndex_8e157_9 : decode cJ3_checkIndex_8e157 9 = .ok (.aload_n 2, 1) := by decide +kernel
theorem dJ3_checkIndex_8e157_10 : decode cJ3_checkIndex_8e157 10 = .ok (.iload_n 0, 1) := by decide +kernel
theorem dJ3_checkIndex_8e157_11 : decode cJ3_checkIndex_8e157 11 = .ok (.iload_n 1, 1) := by decide +kernel
theorem dJ3_checkIndex_8e157_12 : decode cJ3_checkIndex_8e157 12 = .ok (.invokestatic 95, 3) := by decide +kernel
theorem dJ3_checkIndex_8e157_15 : decode cJ3_checkIndex_8e157 15 = .ok (.athrow, 1) := by decide +kernel
theorem dJ3_checkIndex_8e157_16 : decode cJ3_checkIndex_8e157 16 = .ok (.iload_n 0, 1) := by decide +kernel
theorem dJ3_checkIndex_8e157_17 : decode cJ3_checkIndex_8e157 17 = .ok (.ireturn, 1) := by decide +kernel
theorem dJ6_bitCount_0f7a4_0 : decode cJ6_bitCount_0f7a4 0 = .ok (.iload_n 0, 1) := by decide +kernel
theorem dJ6_bitCount_0f7a4_1 : decode cJ6_bitCount_0f7a4 1 = .ok (.iload_n 0, 1) := by decide +kernel
theorem dJ6_bitCount_0f7a4_2 : decode cJ6_bitCount_0f7a4 2 = .ok (.iconst 1, 1) := by decide +kernel
theorem dJ6_bitCount_0f7a4_3 : decode cJ6_bitCount_0f7a4 3 = .ok (.iushr, 1) := by decide +kernel
theorem dJ6_bitCount_0f7a4_4 : decode cJ6_bitCount_0f7a4 4 = .ok (.ldc_w 265, 3) := by decide +kernel
theorem dJ6_bitCount_0f7a4_7 : decode cJ6_bitCount_0f7a4 7 = .ok (.iand, 1) := by decide +kernel
theorem dJ6_bitCount_0f7a4_8 : decode cJ6_bitCount_0f7a4 8 = .ok (.isub, 1) := by decide +kernel
theorem dJ6_bitCount_0f7a4_9 : decode cJ6_bitCount_0f7a4 9 = .ok (.istore_n 0, 1) := by decide +kernel
theorem dJ6_bitCount_0f7a4_10 : decode cJ6_bitCount_0f7a4 10 = .ok (.iload_n 0, 1) := by decide +kernel
theorem dJ6_bitCount_0f7a4_11 : decode cJ6_bitCount_0f7a4 11 = .ok (.ldc_w 266, 3) := by decide +kernel
theorem dJ6_bitCount_0f7a4_14 : decode cJ6_bitCount_0f7a4 14 = .ok (.iand, 1) := by decide +kernel
theorem dJ6_bitCount_0f7a4_15 : decode cJ6_bitCount_0f7a4 15 = .ok (.iload_n 0, 1) := by decide +kernel
theorem dJ6_bitCount_0f7a4_16 : decode cJ6_bitCount_0f7a4 16 = .ok (.iconst 2, 1) := by decide +kernel
theorem dJ6_bitCount_0f7a4_17 : decode cJ6_bitCount_0f7a4 17 = .ok (.iushr, 1) := by decide +kernel
theorem dJ6_bitCount_0f7a4_18 : decode cJ6_bitCount_0f7a4 18 = .ok (.ldc_w 266, 3) := by decide +kernel
theorem dJ6_bitCount_0f7a4_21 : decode cJ6_bitCount_0f7a4 21 = .ok (.iand, 1) := by decide +kernel
theorem dJ6_bitCount_0f7a4_22 : decode cJ6_bitCount_0f7a4 22 = .ok (.iadd, 1) := by decide +kernel
theorem dJ6_bitCount_0f7a4_23 : decode cJ6_bitCount_0f7a4 23 = .ok (.istore_n 0, 1) := by decide +kernel
theorem dJ6_bitCount_0f7a4_24 : decode cJ6_bitCount_0f7a4 24 = .ok (.iload_n 0, 1) := by decide +kernel
theorem dJ6_bitCount_0f7a4_25 : decode cJ6_bitCount_0f7a4 25 = .ok (.iload_n 0, 1) := by decide +kernel
theorem dJ6_bitCount_0f7a4_26 : decode cJ6_bitCount_0f7a4 26 = .ok (.iconst 4, 1) := by decide +kernel
theorem dJ6_bitCount_0f7a4_27 : decode cJ6_bitCount_0f7a4 27 = .ok (.iushr, 1) := by decide +kernel
theorem dJ6_bitCount_0f7a4_28 : decode cJ6_bitCount_0f7a4 28 = .ok (.iadd, 1) := by decide +kernel
theorem dJ6_bitCount_0f7a4_29 : decode cJ6_bitCount_0f7a4 29 = .ok (.ldc_w 267, 3) := by decide +kernel
theorem dJ6_bitCount_0f7a4_32 : decode cJ6_bitCount_0f7a4 32 = .ok (.iand, 1) := by decide +kernel
theorem dJ6_bitCount_0f7a4_33 : decode cJ6_bitCount_0f7a4 33 = .ok (.istore_n 0, 1) := by decide +kernel
theorem dJ6_bitCount_0f7a4_34 : decode cJ6_bitCount_0f7a4 34 = .ok (.iload_n 0, 1) := by decide +kernel
theorem dJ6_bitCount_0f7a4_35 : decode cJ6_bitCount_0f7a4 35 = .ok (.iload_n 0, 1) := by decide +kernel
theorem dJ6_bitCount_0f7a4_36 : decode cJ6_bitCount_0f7a4 36 = .ok (.bipush 8, 2) := by decide +kernel
theorem dJ6_bitCount_0f7a4_38 : decode cJ6_bitCount_0f7a4 38 = .ok (.iushr, 1) := by decide +kernel
theorem dJ6_bitCount_0f7a4_39 : decode cJ6_bitCount_0f7a4 39 = .ok (.iadd, 1) := by decide +kernel
theorem dJ6_bitCount_0f7a4_40 : decode cJ6_bitCount_0f7a4 40 = .ok (.istore_n 0, 1) := by decide +kernel
theorem dJ6_bitCount_0f7a4_41 : decode cJ6_bitCount_0f7a4 41 = .ok (.iload_n 0, 1) := by decide +kernel
theorem dJ6_bitCount_0f7a4_42 : decode cJ6_bitCount_0f7a4 42 = .ok (.iload_n 0, 1) := by decide +kernel
theorem dJ6_bitCount_0f7a4_43 : decode cJ6_bitCount_0f7a4 43 = .ok (.bipush 16, 2) := by decide +kernel
theorem dJ6_bitCount_0f7a4_45 : decode cJ6_bitCount_0f7a4 45 = .ok (.iushr, 1) := by decide +kernel
theorem dJ6_bitCount_0f7a4_46 : decode cJ6_bitCount_0f7a4 46 = .ok (.iadd, 1) := by decide +kernel
theorem dJ6_bitCount_0f7a4_47 : decode cJ6_bitCount_0f7a4 47 = .ok (.istore_n 0, 1) := by decide +kernel
theorem dJ6_bitCount_0f7a4_48 : decode cJ6_bitCount_0f7a4 48 = .ok (.iload_n 0, 1) := by decide +kernel
theorem dJ6_bitCount_0f7a4_49 : decode cJ6_bitCount_0f7a4 49 = .ok (.bipush 63, 2) := by decide +kernel
theorem dJ6_bitCount_0f7a4_51 : decode cJ6_bitCount_0f7a4 51 = .ok (.iand, 1) := by decide +kernel
theorem dJ6_bitCount_0f7a4_52 : decode cJ6_bitCount_0f7a4 52 = .ok (.ireturn, 1) := by decide +kernel
theorem dJ9_floorMod_7cf53_0 : decode cJ9_floorMod_7cf53 0 = .ok (.iload_n 0, 1) := by decide +kernel
theorem dJ9_floorMod_7cf53_1 : decode cJ9_floorMod_7cf53 1 = .ok (.iload_n 1, 1) := by decide +kernel
theorem dJ9_floorMod_7cf53_2 : decode cJ9_floorMod_7cf53 2 = .ok (.irem, 1) := by decide +kernel
theorem dJ9_floorMod_7cf53_3 : decode cJ9_floorMod_7cf53 3 = .ok (.istore_n 2, 1) := by decide +kernel
theorem dJ9_floorMod_7cf53_4 : decode cJ9_floorMod_7cf53 4 = .ok (.iload_n 0, 1) := by decide +kernel
theorem dJ9_floorMod_7cf53_5 : decode cJ9_floorMod_7cf53 5 = .ok (.iload_n 1, 1) := by decide +kernel
theorem dJ9_floorMod_7cf53_6 : decode cJ9_floorMod_7cf53 6 = .ok (.ixor, 1) := by decide +kernel
theorem dJ9_floorMod_7cf53_7 : decode cJ9_floorMod_7cf53 7 = .ok (.ifCond .ge 11, 3) := by decide +kernel
theorem dJ9_floorMod_7cf53_10 : decode cJ9_floorMod_7cf53 10 = .ok (.iload_n 2, 1) := by decide +kernel
theorem dJ9_floorMod_7cf53_11 : decode cJ9_floorMod_7cf53 11 = .ok (.ifCond .eq 7, 3) := by decide +kernel
theorem dJ9_floorMod_7cf53_14 : decode cJ9_floorMod_7cf53 14 = .ok (.iload_n 2, 1) := by decide +kernel
theorem dJ9_floorMod_7cf53_15 : decode cJ9_floorMod_7cf53 15 = .ok (.iload_n 1, 1) := by decide +kernel
theorem dJ9_floorMod_7cf53_16 : decode cJ9_floorMod_7cf53 16 = .ok (.iadd, 1) := by decide +kernel
theorem dJ9_floorMod_7cf53_17 : decode cJ9_floorMod_7cf53 17 = .ok (.ireturn, 1) := by decide +kernel
theorem dJ9_floorMod_7cf53_18 : decode cJ9_floorMod_7cf53 18 = .ok (.iload_n 2, 1) := by decide +kernel
theorem dJ9_floorMod_7cf53_19 : decode cJ9_floorMod_7cf53 19 = .ok (.ireturn, 1) := by decide +kernel
theorem dJ9_max_7cf53_0 : decode cJ9_max_7cf53 0 = .ok (.iload_n 0, 1) := by decide +kernel
theorem dJ9_max_7cf53_1 : decode cJ9_max_7cf53 1 = .ok (.iload_n 1, 1) := by decide +kernel
theorem dJ9_max_7cf53_2 : decode cJ9_max_7cf53 2 = .ok (.if_icmp .lt 7, 3) := by decide +kernel
theorem dJ9_max_7cf53_5 : decode cJ9_max_7cf53 5 = .ok (.iload_n 0, 1) := by decide +kernel
theorem dJ9_max_7cf53_6 : decode cJ9_max_7cf53 6 = .ok (.goto 4, 3) := by decide +kernel
theorem dJ9_max_7cf53_9 : decode cJ9_max_7cf53 9 = .ok (.iload_n 1, 1) := by decide +kernel
theorem dJ9_max_7cf53_10 : decode cJ9_max_7cf53 10 = .ok (.ireturn, 1) := by decide +kernel
theorem dJ9_min_7cf53_0 : decode cJ9_min_7cf53 0 = .ok (.iload_n 0, 1) := by decide +kernel
theorem dJ9_min_7cf53_1 : decode cJ9_min_7cf53 1 = .ok (.iload_n 1, 1) := by decide +kernel
theorem dJ9_min_7cf53_2 : decode cJ9_min_7cf53 2 = .ok (.if_icmp .gt 7, 3) := by decide +kernel
theorem dJ9_min_7cf53_5 : decode cJ9_min_7cf53 5 = .ok (.iload_n 0, 1) := by decide +kernel
theorem dJ9_min_7cf53_6 : decode cJ9_min_7cf53 6 = .ok (.goto 4, 3) := by decide +kernel
theorem dJ9_min_7cf53_9 : decode cJ9_min_7cf53 9 = .ok (.iload_n 1, 1) := by decide +kernel
theorem dJ9_min_7cf53_10 : decode cJ9_min_7cf53 10 = .ok (.ireturn, 1) := by decide +kernel
