theorem dX5_best_47 : decode cX5_best 47 = .ok (.istore 7, 2) := by decide +kernel
theorem dX5_best_49 : decode cX5_best 49 = .ok (.iload 7, 2) := by decide +kernel
theorem dX5_best_51 : decode cX5_best 51 = .ok (.aload_n 0, 1) := by decide +kernel
theorem dX5_best_52 : decode cX5_best 52 = .ok (.invokevirtual 63, 3) := by decide +kernel
theorem dX5_best_55 : decode cX5_best 55 = .ok (.if_icmp .ge 60, 3) := by decide +kernel
theorem dX5_best_58 : decode cX5_best 58 = .ok (.aload_n 0, 1) := by decide +kernel
theorem dX5_best_59 : decode cX5_best 59 = .ok (.invokevirtual 63, 3) := by decide +kernel
theorem dX5_best_62 : decode cX5_best 62 = .ok (.lload_n 3, 1) := by decide +kernel
theorem dX5_best_63 : decode cX5_best 63 = .ok (.aload_n 0, 1) := by decide +kernel
theorem dX5_best_64 : decode cX5_best 64 = .ok (.getfield 48, 3) := by decide +kernel
theorem dX5_best_67 : decode cX5_best 67 = .ok (.iload 7, 2) := by decide +kernel
theorem dX5_best_69 : decode cX5_best 69 = .ok (.laload, 1) := by decide +kernel
theorem dX5_best_70 : decode cX5_best 70 = .ok (.lor, 1) := by decide +kernel
theorem dX5_best_71 : decode cX5_best 71 = .ok (.invokestatic 168, 3) := by decide +kernel
theorem dX5_best_74 : decode cX5_best 74 = .ok (.isub, 1) := by decide +kernel
theorem dX5_best_75 : decode cX5_best 75 = .ok (.istore 8, 2) := by decide +kernel
theorem dX5_best_77 : decode cX5_best 77 = .ok (.iload 8, 2) := by decide +kernel
theorem dX5_best_79 : decode cX5_best 79 = .ok (.iload 5, 2) := by decide +kernel
theorem dX5_best_81 : decode cX5_best 81 = .ok (.if_icmp .ge 8, 3) := by decide +kernel
theorem dX5_best_84 : decode cX5_best 84 = .ok (.iload 7, 2) := by decide +kernel
theorem dX5_best_86 : decode cX5_best 86 = .ok (.goto 5, 3) := by decide +kernel
theorem dX5_best_89 : decode cX5_best 89 = .ok (.iload 6, 2) := by decide +kernel
theorem dX5_best_91 : decode cX5_best 91 = .ok (.istore 6, 2) := by decide +kernel
theorem dX5_best_93 : decode cX5_best 93 = .ok (.iload 8, 2) := by decide +kernel
theorem dX5_best_95 : decode cX5_best 95 = .ok (.iload 5, 2) := by decide +kernel
theorem dX5_best_97 : decode cX5_best 97 = .ok (.if_icmp .ge 8, 3) := by decide +kernel
theorem dX5_best_100 : decode cX5_best 100 = .ok (.iload 8, 2) := by decide +kernel
theorem dX5_best_102 : decode cX5_best 102 = .ok (.goto 5, 3) := by decide +kernel
theorem dX5_best_105 : decode cX5_best 105 = .ok (.iload 5, 2) := by decide +kernel
theorem dX5_best_107 : decode cX5_best 107 = .ok (.istore 5, 2) := by decide +kernel
theorem dX5_best_109 : decode cX5_best 109 = .ok (.iinc 7 1, 3) := by decide +kernel
theorem dX5_best_112 : decode cX5_best 112 = .ok (.goto (-63), 3) := by decide +kernel
theorem dX5_best_115 : decode cX5_best 115 = .ok (.iload_n 2, 1) := by decide +kernel
theorem dX5_best_116 : decode cX5_best 116 = .ok (.ifCond .ne 8, 3) := by decide +kernel
theorem dX5_best_119 : decode cX5_best 119 = .ok (.iload 6, 2) := by decide +kernel
theorem dX5_best_121 : decode cX5_best 121 = .ok (.goto 5, 3) := by decide +kernel
theorem dX5_best_124 : decode cX5_best 124 = .ok (.iload 5, 2) := by decide +kernel
theorem dX5_best_126 : decode cX5_best 126 = .ok (.ireturn, 1) := by decide +kernel
theorem dX5_two_0 : decode cX5_two 0 = .ok (.iload_n 1, 1) := by decide +kernel
theorem dX5_two_1 : decode cX5_two 1 = .ok (.i2l, 1) := by decide +kernel
theorem dX5_two_2 : decode cX5_two 2 = .ok (.lconst 0, 1) := by decide +kernel
theorem dX5_two_3 : decode cX5_two 3 = .ok (.ldc2_w 208, 3) := by decide +kernel
theorem dX5_two_6 : decode cX5_two 6 = .ok (.invokestatic 67, 3) := by decide +kernel
theorem dX5_two_9 : decode cX5_two 9 = .ok (.ifCond .eq 15, 3) := by decide +kernel
theorem dX5_two_12 : decode cX5_two 12 = .ok (.iload_n 2, 1) := by decide +kernel
theorem dX5_two_13 : decode cX5_two 13 = .ok (.i2l, 1) := by decide +kernel
theorem dX5_two_14 : decode cX5_two 14 = .ok (.lconst 0, 1) := by decide +kernel
theorem dX5_two_15 : decode cX5_two 15 = .ok (.ldc2_w 96, 3) := by decide +kernel
theorem dX5_two_18 : decode cX5_two 18 = .ok (.invokestatic 67, 3) := by decide +kernel
theorem dX5_two_21 : decode cX5_two 21 = .ok (.ifCond .ne 6, 3) := by decide +kernel
theorem dX5_two_24 : decode cX5_two 24 = .ok (.bipush (-2), 2) := by decide +kernel
theorem dX5_two_26 : decode cX5_two 26 = .ok (.ireturn, 1) := by decide +kernel
theorem dX5_two_27 : decode cX5_two 27 = .ok (.aload_n 0, 1) := by decide +kernel
theorem dX5_two_28 : decode cX5_two 28 = .ok (.iload_n 1, 1) := by decide +kernel
theorem dX5_two_29 : decode cX5_two 29 = .ok (.invokevirtual 236, 3) := by decide +kernel
theorem dX5_two_32 : decode cX5_two 32 = .ok (.aload_n 0, 1) := by decide +kernel
theorem dX5_two_33 : decode cX5_two 33 = .ok (.aload_n 0, 1) := by decide +kernel
theorem dX5_two_34 : decode cX5_two 34 = .ok (.getfield 20, 3) := by decide +kernel
theorem dX5_two_37 : decode cX5_two 37 = .ok (.invokevirtual 164, 3) := by decide +kernel
theorem dX5_two_40 : decode cX5_two 40 = .ok (.lstore_n 3, 1) := by decide +kernel
theorem dX5_two_41 : decode cX5_two 41 = .ok (.bipush 37, 2) := by decide +kernel
theorem dX5_two_43 : decode cX5_two 43 = .ok (.istore 5, 2) := by decide +kernel
theorem dX5_two_45 : decode cX5_two 45 = .ok (.iconst 0, 1) := by decide +kernel
theorem dX5_two_46 : decode cX5_two 46 = .ok (.istore 6, 2) := by decide +kernel
theorem dX5_two_48 : decode cX5_two 48 = .ok (.iconst 0, 1) := by decide +kernel
theorem dX5_two_49 : decode cX5_two 49 = .ok (.istore 7, 2) := by decide +kernel
theorem dX5_two_51 : decode cX5_two 51 = .ok (.iload 7, 2) := by decide +kernel
theorem dX5_two_53 : decode cX5_two 53 = .ok (.aload_n 0, 1) := by decide +kernel
theorem dX5_two_54 : decode cX5_two 54 = .ok (.invokevirtual 63, 3) := by decide +kernel
theorem dX5_two_57 : decode cX5_two 57 = .ok (.aload_n 0, 1) := by decide +kernel
theorem dX5_two_58 : decode cX5_two 58 = .ok (.invokevirtual 63, 3) := by decide +kernel
theorem dX5_two_61 : decode cX5_two 61 = .ok (.imul, 1) := by decide +kernel
theorem dX5_two_62 : decode cX5_two 62 = .ok (.if_icmp .ge 93, 3) := by decide +kernel
theorem dX5_two_65 : decode cX5_two 65 = .ok (.iload 7, 2) := by decide +kernel
theorem dX5_two_67 : decode cX5_two 67 = .ok (.aload_n 0, 1) := by decide +kernel
theorem dX5_two_68 : decode cX5_two 68 = .ok (.invokevirtual 63, 3) := by decide +kernel
theorem dX5_two_71 : decode cX5_two 71 = .ok (.idiv, 1) := by decide +kernel
theorem dX5_two_72 : decode cX5_two 72 = .ok (.istore 8, 2) := by decide +kernel
theorem dX5_two_74 : decode cX5_two 74 = .ok (.iload 7, 2) := by decide +kernel
theorem dX5_two_76 : decode cX5_two 76 = .ok (.aload_n 0, 1) := by decide +kernel
theorem dX5_two_77 : decode cX5_two 77 = .ok (.invokevirtual 63, 3) := by decide +kernel
theorem dX5_two_80 : decode cX5_two 80 = .ok (.irem, 1) := by decide +kernel
theorem dX5_two_81 : decode cX5_two 81 = .ok (.istore 9, 2) := by decide +kernel
theorem dX5_two_83 : decode cX5_two 83 = .ok (.iload 8, 2) := by decide +kernel
theorem dX5_two_85 : decode cX5_two 85 = .ok (.iload 9, 2) := by decide +kernel
theorem dX5_two_87 : decode cX5_two 87 = .ok (.if_icmp .gt 62, 3) := by decide +kernel
theorem dX5_two_90 : decode cX5_two 90 = .ok (.aload_n 0, 1) := by decide +kernel
theorem dX5_two_91 : decode cX5_two 91 = .ok (.invokevirtual 63, 3) := by decide +kernel
theorem dX5_two_94 : decode cX5_two 94 = .ok (.lload_n 3, 1) := by decide +kernel
theorem dX5_two_95 : decode cX5_two 95 = .ok (.aload_n 0, 1) := by decide +kernel
theorem dX5_two_96 : decode cX5_two 96 = .ok (.getfield 48, 3) := by decide +kernel
theorem dX5_two_99 : decode cX5_two 99 = .ok (.iload 8, 2) := by decide +kernel
theorem dX5_two_101 : decode cX5_two 101 = .ok (.laload, 1) := by decide +kernel
theorem dX5_two_102 : decode cX5_two 102 = .ok (.lor, 1) := by decide +kernel
theorem dX5_two_103 : decode cX5_two 103 = .ok (.aload_n 0, 1) := by decide +kernel
theorem dX5_two_104 : decode cX5_two 104 = .ok (.getfield 48, 3) := by decide +kernel
theorem dX5_two_107 : decode cX5_two 107 = .ok (.iload 9, 2) := by decide +kernel
theorem dX5_two_109 : decode cX5_two 109 = .ok (.laload, 1) := by decide +kernel
theorem dX5_two_110 : decode cX5_two 110 = .ok (.lor, 1) := by decide +kernel
theorem dX5_two_111 : decode cX5_two 111 = .ok (.invokestatic 168, 3) := by decide +kernel
theorem dX5_two_114 : decode cX5_two 114 = .ok (.isub, 1) := by decide +kernel
theorem dX5_two_115 : decode cX5_two 115 = .ok (.istore 10, 2) := by decide +kernel
theorem dX5_two_117 : decode cX5_two 117 = .ok (.iload 10, 2) := by decide +kernel
theorem dX5_two_119 : decode cX5_two 119 = .ok (.iload 5, 2) := by decide +kernel
theorem dX5_two_121 : decode cX5_two 121 = .ok (.if_icmp .ge 8, 3) := by decide +kernel
theorem dX5_two_124 : decode cX5_two 124 = .ok (.iload 7, 2) := by decide +kernel
theorem dX5_two_126 : decode cX5_two 126 = .ok (.goto 5, 3) := by decide +kernel
theorem dX5_two_129 : decode cX5_two 129 = .ok (.iload 6, 2) := by decide +kernel
theorem dX5_two_131 : decode cX5_two 131 = .ok (.istore 6, 2) := by decide +kernel
theorem dX5_two_133 : decode cX5_two 133 = .ok (.iload 10, 2) := by decide +kernel
theorem dX5_two_135 : decode cX5_two 135 = .ok (.iload 5, 2) := by decide +kernel
theorem dX5_two_137 : decode cX5_two 137 = .ok (.if_icmp .ge 8, 3) := by decide +kernel
theorem dX5_two_140 : decode cX5_two 140 = .ok (.iload 10, 2) := by decide +kernel
theorem dX5_two_142 : decode cX5_two 142 = .ok (.goto 5, 3) := by decide +kernel
theorem dX5_two_145 : decode cX5_two 145 = .ok (.iload 5, 2) := by decide +kernel
theorem dX5_two_147 : decode cX5_two 147 = .ok (.istore 5, 2) := by decide +kernel
theorem dX5_two_149 : decode cX5_two 149 = .ok (.iinc 7 1, 3) := by decide +kernel
theorem dX5_two_152 : decode cX5_two 152 = .ok (.goto (-101), 3) := by decide +kernel
theorem dX5_two_155 : decode cX5_two 155 = .ok (.iload_n 2, 1) := by decide +kernel
theorem dX5_two_156 : decode cX5_two 156 = .ok (.ifCond .ne 13, 3) := by decide +kernel
theorem dX5_two_159 : decode cX5_two 159 = .ok (.iload 6, 2) := by decide +kernel
theorem dX5_two_161 : decode cX5_two 161 = .ok (.aload_n 0, 1) := by decide +kernel
theorem dX5_two_162 : decode cX5_two 162 = .ok (.invokevirtual 63, 3) := by decide +kernel
theorem dX5_two_165 : decode cX5_two 165 = .ok (.idiv, 1) := by decide +kernel
theorem dX5_two_166 : decode cX5_two 166 = .ok (.goto 20, 3) := by decide +kernel
theorem dX5_two_169 : decode cX5_two 169 = .ok (.iload_n 2, 1) := by decide +kernel
theorem dX5_two_170 : decode cX5_two 170 = .ok (.iconst 1, 1) := by decide +kernel
theorem dX5_two_171 : decode cX5_two 171 = .ok (.if_icmp .ne 13, 3) := by decide +kernel
theorem dX5_two_174 : decode cX5_two 174 = .ok (.iload 6, 2) := by decide +kernel
theorem dX5_two_176 : decode cX5_two 176 = .ok (.aload_n 0, 1) := by decide +kernel
theorem dX5_two_177 : decode cX5_two 177 = .ok (.invokevirtual 63, 3) := by decide +kernel
theorem dX5_two_180 : decode cX5_two 180 = .ok (.irem, 1) := by decide +kernel
theorem dX5_two_181 : decode cX5_two 181 = .ok (.goto 5, 3) := by decide +kernel
theorem dX5_two_184 : decode cX5_two 184 = .ok (.iload 5, 2) := by decide +kernel
theorem dX5_two_186 : decode cX5_two 186 = .ok (.ireturn, 1) := by decide +kernel
theorem dX5_part_0 : decode cX5_part 0 = .ok (.aload_n 0, 1) := by decide +kernel
theorem dX5_part_1 : decode cX5_part 1 = .ok (.invokevirtual 63, 3) := by decide +kernel
theorem dX5_part_4 : decode cX5_part 4 = .ok (.aload_n 0, 1) := by decide +kernel
theorem dX5_part_5 : decode cX5_part 5 = .ok (.aload_n 0, 1) := by decide +kernel
theorem dX5_part_6 : decode cX5_part 6 = .ok (.getfield 20, 3) := by decide +kernel
theorem dX5_part_9 : decode cX5_part 9 = .ok (.invokevirtual 175, 3) := by decide +kernel
theorem dX5_part_12 : decode cX5_part 12 = .ok (.isub, 1) := by decide +kernel
theorem dX5_part_13 : decode cX5_part 13 = .ok (.aload_n 0, 1) := by decide +kernel
theorem dX5_part_14 : decode cX5_part 14 = .ok (.invokevirtual 63, 3) := by decide +kernel
theorem dX5_part_17 : decode cX5_part 17 = .ok (.iload_n 1, 1) := by decide +kernel
theorem dX5_part_18 : decode cX5_part 18 = .ok (.invokestatic 240, 3) := by decide +kernel
theorem dX5_part_21 : decode cX5_part 21 = .ok (.ireturn, 1) := by decide +kernel
theorem dX5_judged_0 : decode cX5_judged 0 = .ok (.iload_n 1, 1) := by decide +kernel
theorem dX5_judged_1 : decode cX5_judged 1 = .ok (.bipush 100, 2) := by decide +kernel
theorem dX5_judged_3 : decode cX5_judged 3 = .ok (.idiv, 1) := by decide +kernel
theorem dX5_judged_4 : decode cX5_judged 4 = .ok (.bipush 100, 2) := by decide +kernel
theorem dX5_judged_6 : decode cX5_judged 6 = .ok (.irem, 1) := by decide +kernel
theorem dX5_judged_7 : decode cX5_judged 7 = .ok (.istore_n 2, 1) := by decide +kernel
theorem dX5_judged_8 : decode cX5_judged 8 = .ok (.iload_n 1, 1) := by decide +kernel
theorem dX5_judged_9 : decode cX5_judged 9 = .ok (.bipush 10, 2) := by decide +kernel
theorem dX5_judged_11 : decode cX5_judged 11 = .ok (.idiv, 1) := by decide +kernel
theorem dX5_judged_12 : decode cX5_judged 12 = .ok (.bipush 10, 2) := by decide +kernel
theorem dX5_judged_14 : decode cX5_judged 14 = .ok (.irem, 1) := by decide +kernel
theorem dX5_judged_15 : decode cX5_judged 15 = .ok (.istore_n 3, 1) := by decide +kernel
theorem dX5_judged_16 : decode cX5_judged 16 = .ok (.iload_n 1, 1) := by decide +kernel
theorem dX5_judged_17 : decode cX5_judged 17 = .ok (.bipush 10, 2) := by decide +kernel
theorem dX5_judged_19 : decode cX5_judged 19 = .ok (.irem, 1) := by decide +kernel
theorem dX5_judged_20 : decode cX5_judged 20 = .ok (.istore 4, 2) := by decide +kernel
theorem dX5_judged_22 : decode cX5_judged 22 = .ok (.iload_n 1, 1) := by decide +kernel
theorem dX5_judged_23 : decode cX5_judged 23 = .ok (.sipush 1000, 3) := by decide +kernel
theorem dX5_judged_26 : decode cX5_judged 26 = .ok (.idiv, 1) := by decide +kernel
theorem dX5_judged_27 : decode cX5_judged 27 = .ok (.bipush 10, 2) := by decide +kernel
theorem dX5_judged_29 : decode cX5_judged 29 = .ok (.irem, 1) := by decide +kernel
theorem dX5_judged_30 : decode cX5_judged 30 = .ok (.istore 5, 2) := by decide +kernel
theorem dX5_judged_32 : decode cX5_judged 32 = .ok (.iload_n 1, 1) := by decide +kernel
theorem dX5_judged_33 : decode cX5_judged 33 = .ok (.bipush 100, 2) := by decide +kernel
theorem dX5_judged_35 : decode cX5_judged 35 = .ok (.idiv, 1) := by decide +kernel
theorem dX5_judged_36 : decode cX5_judged 36 = .ok (.bipush 10, 2) := by decide +kernel
theorem dX5_judged_38 : decode cX5_judged 38 = .ok (.irem, 1) := by decide +kernel
theorem dX5_judged_39 : decode cX5_judged 39 = .ok (.istore 6, 2) := by decide +kernel
theorem dX5_judged_41 : decode cX5_judged 41 = .ok (.iload_n 1, 1) := by decide +kernel
theorem dX5_judged_42 : decode cX5_judged 42 = .ok (.sipush 10000, 3) := by decide +kernel
theorem dX5_judged_45 : decode cX5_judged 45 = .ok (.idiv, 1) := by decide +kernel
theorem dX5_judged_46 : decode cX5_judged 46 = .ok (.tableswitch 270 1 7 #[42, 66, 103, 136, 161, 210, 243], 42) := by decide +kernel
theorem dX5_judged_88 : decode cX5_judged 88 = .ok (.aload_n 0, 1) := by decide +kernel
theorem dX5_judged_89 : decode cX5_judged 89 = .ok (.iload_n 2, 1) := by decide +kernel
theorem dX5_judged_90 : decode cX5_judged 90 = .ok (.invokevirtual 185, 3) := by decide +kernel
theorem dX5_judged_93 : decode cX5_judged 93 = .ok (.ifCond .eq 8, 3) := by decide +kernel
theorem dX5_judged_96 : decode cX5_judged 96 = .ok (.iload 4, 2) := by decide +kernel
theorem dX5_judged_98 : decode cX5_judged 98 = .ok (.ifCond .eq 5, 3) := by decide +kernel
theorem dX5_judged_101 : decode cX5_judged 101 = .ok (.iconst 0, 1) := by decide +kernel
theorem dX5_judged_102 : decode cX5_judged 102 = .ok (.ireturn, 1) := by decide +kernel
theorem dX5_judged_103 : decode cX5_judged 103 = .ok (.aload_n 0, 1) := by decide +kernel
theorem dX5_judged_104 : decode cX5_judged 104 = .ok (.getfield 23, 3) := by decide +kernel
theorem dX5_judged_107 : decode cX5_judged 107 = .ok (.iload_n 2, 1) := by decide +kernel
theorem dX5_judged_108 : decode cX5_judged 108 = .ok (.iload_n 3, 1) := by decide +kernel
theorem dX5_judged_109 : decode cX5_judged 109 = .ok (.iastore, 1) := by decide +kernel
theorem dX5_judged_110 : decode cX5_judged 110 = .ok (.iconst 1, 1) := by decide +kernel
theorem dX5_judged_111 : decode cX5_judged 111 = .ok (.ireturn, 1) := by decide +kernel
theorem dX5_judged_112 : decode cX5_judged 112 = .ok (.aload_n 0, 1) := by decide +kernel
theorem dX5_judged_113 : decode cX5_judged 113 = .ok (.iload_n 2, 1) := by decide +kernel
theorem dX5_judged_114 : decode cX5_judged 114 = .ok (.invokevirtual 185, 3) := by decide +kernel
theorem dX5_judged_117 : decode cX5_judged 117 = .ok (.ifCond .eq 19, 3) := by decide +kernel
theorem dX5_judged_120 : decode cX5_judged 120 = .ok (.iload 4, 2) := by decide +kernel
theorem dX5_judged_122 : decode cX5_judged 122 = .ok (.ifCond .ne 14, 3) := by decide +kernel
theorem dX5_judged_125 : decode cX5_judged 125 = .ok (.aload_n 0, 1) := by decide +kernel
theorem dX5_judged_126 : decode cX5_judged 126 = .ok (.getfield 23, 3) := by decide +kernel
theorem dX5_judged_129 : decode cX5_judged 129 = .ok (.bipush 36, 2) := by decide +kernel
theorem dX5_judged_131 : decode cX5_judged 131 = .ok (.iaload, 1) := by decide +kernel
theorem dX5_judged_132 : decode cX5_judged 132 = .ok (.iconst 5, 1) := by decide +kernel
theorem dX5_judged_133 : decode cX5_judged 133 = .ok (.if_icmp .ne 5, 3) := by decide +kernel
theorem dX5_judged_136 : decode cX5_judged 136 = .ok (.iconst 0, 1) := by decide +kernel
theorem dX5_judged_137 : decode cX5_judged 137 = .ok (.ireturn, 1) := by decide +kernel
theorem dX5_judged_138 : decode cX5_judged 138 = .ok (.aload_n 0, 1) := by decide +kernel
theorem dX5_judged_139 : decode cX5_judged 139 = .ok (.getfield 23, 3) := by decide +kernel
theorem dX5_judged_142 : decode cX5_judged 142 = .ok (.iload_n 2, 1) := by decide +kernel
theorem dX5_judged_143 : decode cX5_judged 143 = .ok (.iload_n 3, 1) := by decide +kernel
theorem dX5_judged_144 : decode cX5_judged 144 = .ok (.invokestatic 213, 3) := by decide +kernel
theorem dX5_judged_147 : decode cX5_judged 147 = .ok (.iconst 1, 1) := by decide +kernel
theorem dX5_judged_148 : decode cX5_judged 148 = .ok (.ireturn, 1) := by decide +kernel
theorem dX5_judged_149 : decode cX5_judged 149 = .ok (.iload 5, 2) := by decide +kernel
theorem dX5_judged_151 : decode cX5_judged 151 = .ok (.aload_n 0, 1) := by decide +kernel
theorem dX5_judged_152 : decode cX5_judged 152 = .ok (.getfield 23, 3) := by decide +kernel
theorem dX5_judged_155 : decode cX5_judged 155 = .ok (.bipush 36, 2) := by decide +kernel
theorem dX5_judged_157 : decode cX5_judged 157 = .ok (.iaload, 1) := by decide +kernel
theorem dX5_judged_158 : decode cX5_judged 158 = .ok (.if_icmp .ge 11, 3) := by decide +kernel
theorem dX5_judged_161 : decode cX5_judged 161 = .ok (.iload_n 1, 1) := by decide +kernel
theorem dX5_judged_162 : decode cX5_judged 162 = .ok (.sipush 1000, 3) := by decide +kernel
theorem dX5_judged_165 : decode cX5_judged 165 = .ok (.irem, 1) := by decide +kernel
theorem dX5_judged_166 : decode cX5_judged 166 = .ok (.ifCond .eq 5, 3) := by decide +kernel
theorem dX5_judged_169 : decode cX5_judged 169 = .ok (.iconst 0, 1) := by decide +kernel
theorem dX5_judged_170 : decode cX5_judged 170 = .ok (.ireturn, 1) := by decide +kernel
theorem dX5_judged_171 : decode cX5_judged 171 = .ok (.aload_n 0, 1) := by decide +kernel
theorem dX5_judged_172 : decode cX5_judged 172 = .ok (.getfield 23, 3) := by decide +kernel
theorem dX5_judged_175 : decode cX5_judged 175 = .ok (.iload 5, 2) := by decide +kernel
theorem dX5_judged_177 : decode cX5_judged 177 = .ok (.invokestatic 217, 3) := by decide +kernel
theorem dX5_judged_180 : decode cX5_judged 180 = .ok (.iconst 1, 1) := by decide +kernel
theorem dX5_judged_181 : decode cX5_judged 181 = .ok (.ireturn, 1) := by decide +kernel
theorem dX5_judged_182 : decode cX5_judged 182 = .ok (.iload_n 1, 1) := by decide +kernel
theorem dX5_judged_183 : decode cX5_judged 183 = .ok (.bipush 100, 2) := by decide +kernel
theorem dX5_judged_185 : decode cX5_judged 185 = .ok (.irem, 1) := by decide +kernel
theorem dX5_judged_186 : decode cX5_judged 186 = .ok (.ifCond .ne 19, 3) := by decide +kernel
theorem dX5_judged_189 : decode cX5_judged 189 = .ok (.aload_n 0, 1) := by decide +kernel
theorem dX5_judged_190 : decode cX5_judged 190 = .ok (.aload_n 0, 1) := by decide +kernel
theorem dX5_judged_191 : decode cX5_judged 191 = .ok (.getfield 23, 3) := by decide +kernel
theorem dX5_judged_194 : decode cX5_judged 194 = .ok (.invokevirtual 175, 3) := by decide +kernel
theorem dX5_judged_197 : decode cX5_judged 197 = .ok (.iload_n 2, 1) := by decide +kernel
theorem dX5_judged_198 : decode cX5_judged 198 = .ok (.if_icmp .ne 7, 3) := by decide +kernel
theorem dX5_judged_201 : decode cX5_judged 201 = .ok (.iconst 1, 1) := by decide +kernel
theorem dX5_judged_202 : decode cX5_judged 202 = .ok (.goto 4, 3) := by decide +kernel
theorem dX5_judged_205 : decode cX5_judged 205 = .ok (.iconst 0, 1) := by decide +kernel
theorem dX5_judged_206 : decode cX5_judged 206 = .ok (.ireturn, 1) := by decide +kernel
theorem dX5_judged_207 : decode cX5_judged 207 = .ok (.aload_n 0, 1) := by decide +kernel
theorem dX5_judged_208 : decode cX5_judged 208 = .ok (.iload_n 2, 1) := by decide +kernel
theorem dX5_judged_209 : decode cX5_judged 209 = .ok (.invokevirtual 185, 3) := by decide +kernel
theorem dX5_judged_212 : decode cX5_judged 212 = .ok (.ifCond .eq 42, 3) := by decide +kernel
theorem dX5_judged_215 : decode cX5_judged 215 = .ok (.iload_n 3, 1) := by decide +kernel
theorem dX5_judged_216 : decode cX5_judged 216 = .ok (.iconst 2, 1) := by decide +kernel
theorem dX5_judged_217 : decode cX5_judged 217 = .ok (.if_icmp .ge 37, 3) := by decide +kernel
theorem dX5_judged_220 : decode cX5_judged 220 = .ok (.iload 4, 2) := by decide +kernel
theorem dX5_judged_222 : decode cX5_judged 222 = .ok (.ifCond .ne 32, 3) := by decide +kernel
theorem dX5_judged_225 : decode cX5_judged 225 = .ok (.aload_n 0, 1) := by decide +kernel
theorem dX5_judged_226 : decode cX5_judged 226 = .ok (.aload_n 0, 1) := by decide +kernel
theorem dX5_judged_227 : decode cX5_judged 227 = .ok (.getfield 23, 3) := by decide +kernel
theorem dX5_judged_230 : decode cX5_judged 230 = .ok (.invokevirtual 164, 3) := by decide +kernel
theorem dX5_judged_233 : decode cX5_judged 233 = .ok (.iload_n 2, 1) := by decide +kernel
theorem dX5_judged_234 : decode cX5_judged 234 = .ok (.invokestatic 59, 3) := by decide +kernel
theorem dX5_judged_237 : decode cX5_judged 237 = .ok (.iload_n 3, 1) := by decide +kernel
theorem dX5_judged_238 : decode cX5_judged 238 = .ok (.iconst 1, 1) := by decide +kernel
theorem dX5_judged_239 : decode cX5_judged 239 = .ok (.if_icmp .ne 7, 3) := by decide +kernel
theorem dX5_judged_242 : decode cX5_judged 242 = .ok (.iconst 1, 1) := by decide +kernel
theorem dX5_judged_243 : decode cX5_judged 243 = .ok (.goto 4, 3) := by decide +kernel
theorem dX5_judged_246 : decode cX5_judged 246 = .ok (.iconst 0, 1) := by decide +kernel
theorem dX5_judged_247 : decode cX5_judged 247 = .ok (.if_icmp .ne 7, 3) := by decide +kernel
theorem dX5_judged_250 : decode cX5_judged 250 = .ok (.iconst 1, 1) := by decide +kernel
theorem dX5_judged_251 : decode cX5_judged 251 = .ok (.goto 4, 3) := by decide +kernel
theorem dX5_judged_254 : decode cX5_judged 254 = .ok (.iconst 0, 1) := by decide +kernel
theorem dX5_judged_255 : decode cX5_judged 255 = .ok (.ireturn, 1) := by decide +kernel
theorem dX5_judged_256 : decode cX5_judged 256 = .ok (.iload 5, 2) := by decide +kernel
theorem dX5_judged_258 : decode cX5_judged 258 = .ok (.iload 6, 2) := by decide +kernel
theorem dX5_judged_260 : decode cX5_judged 260 = .ok (.invokestatic 223, 3) := by decide +kernel
theorem dX5_judged_263 : decode cX5_judged 263 = .ok (.ifCond .eq 10, 3) := by decide +kernel
theorem dX5_judged_266 : decode cX5_judged 266 = .ok (.iload_n 1, 1) := by decide +kernel
theorem dX5_judged_267 : decode cX5_judged 267 = .ok (.bipush 100, 2) := by decide +kernel
theorem dX5_judged_269 : decode cX5_judged 269 = .ok (.irem, 1) := by decide +kernel
theorem dX5_judged_270 : decode cX5_judged 270 = .ok (.ifCond .eq 5, 3) := by decide +kernel
theorem dX5_judged_273 : decode cX5_judged 273 = .ok (.iconst 0, 1) := by decide +kernel
theorem dX5_judged_274 : decode cX5_judged 274 = .ok (.ireturn, 1) := by decide +kernel
theorem dX5_judged_275 : decode cX5_judged 275 = .ok (.aload_n 0, 1) := by decide +kernel
theorem dX5_judged_276 : decode cX5_judged 276 = .ok (.getfield 23, 3) := by decide +kernel
theorem dX5_judged_279 : decode cX5_judged 279 = .ok (.bipush 47, 2) := by decide +kernel
theorem dX5_judged_281 : decode cX5_judged 281 = .ok (.iload 5, 2) := by decide +kernel
theorem dX5_judged_283 : decode cX5_judged 283 = .ok (.iadd, 1) := by decide +kernel
theorem dX5_judged_284 : decode cX5_judged 284 = .ok (.iload 6, 2) := by decide +kernel
theorem dX5_judged_286 : decode cX5_judged 286 = .ok (.iastore, 1) := by decide +kernel
theorem dX5_judged_287 : decode cX5_judged 287 = .ok (.iconst 1, 1) := by decide +kernel
theorem dX5_judged_288 : decode cX5_judged 288 = .ok (.ireturn, 1) := by decide +kernel
theorem dX5_judged_289 : decode cX5_judged 289 = .ok (.iload_n 1, 1) := by decide +kernel
theorem dX5_judged_290 : decode cX5_judged 290 = .ok (.sipush 1000, 3) := by decide +kernel
theorem dX5_judged_293 : decode cX5_judged 293 = .ok (.irem, 1) := by decide +kernel
theorem dX5_judged_294 : decode cX5_judged 294 = .ok (.ifCond .ne 20, 3) := by decide +kernel
theorem dX5_judged_297 : decode cX5_judged 297 = .ok (.aload_n 0, 1) := by decide +kernel
theorem dX5_judged_298 : decode cX5_judged 298 = .ok (.aload_n 0, 1) := by decide +kernel
theorem dX5_judged_299 : decode cX5_judged 299 = .ok (.getfield 23, 3) := by decide +kernel
theorem dX5_judged_302 : decode cX5_judged 302 = .ok (.invokevirtual 179, 3) := by decide +kernel
theorem dX5_judged_305 : decode cX5_judged 305 = .ok (.iload 5, 2) := by decide +kernel
theorem dX5_judged_307 : decode cX5_judged 307 = .ok (.if_icmp .ne 7, 3) := by decide +kernel
theorem dX5_judged_310 : decode cX5_judged 310 = .ok (.iconst 1, 1) := by decide +kernel
theorem dX5_judged_311 : decode cX5_judged 311 = .ok (.goto 4, 3) := by decide +kernel
theorem dX5_judged_314 : decode cX5_judged 314 = .ok (.iconst 0, 1) := by decide +kernel
theorem dX5_judged_315 : decode cX5_judged 315 = .ok (.ireturn, 1) := by decide +kernel
theorem dX5_judged_316 : decode cX5_judged 316 = .ok (.iconst 0, 1) := by decide +kernel
theorem dX5_judged_317 : decode cX5_judged 317 = .ok (.ireturn, 1) := by decide +kernel
theorem dX5_hundredThousands_0 : decode cX5_hundredThousands 0 = .ok (.lconst 1, 1) := by decide +kernel
theorem dX5_hundredThousands_1 : decode cX5_hundredThousands 1 = .ok (.lstore_n 1, 1) := by decide +kernel
theorem dX5_hundredThousands_2 : decode cX5_hundredThousands 2 = .ok (.iconst 0, 1) := by decide +kernel
theorem dX5_hundredThousands_3 : decode cX5_hundredThousands 3 = .ok (.istore_n 3, 1) := by decide +kernel
theorem dX5_hundredThousands_4 : decode cX5_hundredThousands 4 = .ok (.iload_n 3, 1) := by decide +kernel
theorem dX5_hundredThousands_5 : decode cX5_hundredThousands 5 = .ok (.iload_n 0, 1) := by decide +kernel
theorem dX5_hundredThousands_6 : decode cX5_hundredThousands 6 = .ok (.if_icmp .ge 15, 3) := by decide +kernel
theorem dX5_hundredThousands_9 : decode cX5_hundredThousands 9 = .ok (.lload_n 1, 1) := by decide +kernel
theorem dX5_hundredThousands_10 : decode cX5_hundredThousands 10 = .ok (.ldc2_w 243, 3) := by decide +kernel
theorem dX5_hundredThousands_13 : decode cX5_hundredThousands 13 = .ok (.lmul, 1) := by decide +kernel
theorem dX5_hundredThousands_14 : decode cX5_hundredThousands 14 = .ok (.lstore_n 1, 1) := by decide +kernel
theorem dX5_hundredThousands_15 : decode cX5_hundredThousands 15 = .ok (.iinc 3 1, 3) := by decide +kernel
theorem dX5_hundredThousands_18 : decode cX5_hundredThousands 18 = .ok (.goto (-14), 3) := by decide +kernel
theorem dX5_hundredThousands_21 : decode cX5_hundredThousands 21 = .ok (.lload_n 1, 1) := by decide +kernel
theorem dX5_hundredThousands_22 : decode cX5_hundredThousands 22 = .ok (.lreturn, 1) := by decide +kernel
theorem dX5_judge_0 : decode cX5_judge 0 = .ok (.iload_n 1, 1) := by decide +kernel
theorem dX5_judge_1 : decode cX5_judge 1 = .ok (.i2l, 1) := by decide +kernel
theorem dX5_judge_2 : decode cX5_judge 2 = .ok (.lconst 1, 1) := by decide +kernel
theorem dX5_judge_3 : decode cX5_judge 3 = .ok (.ldc2_w 221, 3) := by decide +kernel
theorem dX5_judge_6 : decode cX5_judge 6 = .ok (.invokestatic 67, 3) := by decide +kernel
theorem dX5_judge_9 : decode cX5_judge 9 = .ok (.ifCond .eq 17, 3) := by decide +kernel
theorem dX5_judge_12 : decode cX5_judge 12 = .ok (.lload_n 2, 1) := by decide +kernel
theorem dX5_judge_13 : decode cX5_judge 13 = .ok (.lconst 0, 1) := by decide +kernel
theorem dX5_judge_14 : decode cX5_judge 14 = .ok (.iload_n 1, 1) := by decide +kernel
theorem dX5_judge_15 : decode cX5_judge 15 = .ok (.invokestatic 245, 3) := by decide +kernel
theorem dX5_judge_18 : decode cX5_judge 18 = .ok (.lconst 1, 1) := by decide +kernel
theorem dX5_judge_19 : decode cX5_judge 19 = .ok (.lsub, 1) := by decide +kernel
theorem dX5_judge_20 : decode cX5_judge 20 = .ok (.invokestatic 67, 3) := by decide +kernel
theorem dX5_judge_23 : decode cX5_judge 23 = .ok (.ifCond .ne 6, 3) := by decide +kernel
theorem dX5_judge_26 : decode cX5_judge 26 = .ok (.bipush (-2), 2) := by decide +kernel
theorem dX5_judge_28 : decode cX5_judge 28 = .ok (.ireturn, 1) := by decide +kernel
theorem dX5_judge_29 : decode cX5_judge 29 = .ok (.aload_n 0, 1) := by decide +kernel
theorem dX5_judge_30 : decode cX5_judge 30 = .ok (.getfield 20, 3) := by decide +kernel
theorem dX5_judge_33 : decode cX5_judge 33 = .ok (.aload_n 0, 1) := by decide +kernel
theorem dX5_judge_34 : decode cX5_judge 34 = .ok (.getfield 23, 3) := by decide +kernel
theorem dX5_judge_37 : decode cX5_judge 37 = .ok (.invokestatic 117, 3) := by decide +kernel
theorem dX5_judge_40 : decode cX5_judge 40 = .ok (.iconst 0, 1) := by decide +kernel
theorem dX5_judge_41 : decode cX5_judge 41 = .ok (.istore 4, 2) := by decide +kernel
theorem dX5_judge_43 : decode cX5_judge 43 = .ok (.iload 4, 2) := by decide +kernel
theorem dX5_judge_45 : decode cX5_judge 45 = .ok (.iload_n 1, 1) := by decide +kernel
theorem dX5_judge_46 : decode cX5_judge 46 = .ok (.if_icmp .ge 35, 3) := by decide +kernel
theorem dX5_judge_49 : decode cX5_judge 49 = .ok (.aload_n 0, 1) := by decide +kernel
theorem dX5_judge_50 : decode cX5_judge 50 = .ok (.lload_n 2, 1) := by decide +kernel
theorem dX5_judge_51 : decode cX5_judge 51 = .ok (.iload_n 1, 1) := by decide +kernel
theorem dX5_judge_52 : decode cX5_judge 52 = .ok (.iconst 1, 1) := by decide +kernel
theorem dX5_judge_53 : decode cX5_judge 53 = .ok (.isub, 1) := by decide +kernel
theorem dX5_judge_54 : decode cX5_judge 54 = .ok (.iload 4, 2) := by decide +kernel
theorem dX5_judge_56 : decode cX5_judge 56 = .ok (.isub, 1) := by decide +kernel
theorem dX5_judge_57 : decode cX5_judge 57 = .ok (.invokestatic 245, 3) := by decide +kernel
theorem dX5_judge_60 : decode cX5_judge 60 = .ok (.ldiv, 1) := by decide +kernel
theorem dX5_judge_61 : decode cX5_judge 61 = .ok (.ldc2_w 243, 3) := by decide +kernel
theorem dX5_judge_64 : decode cX5_judge 64 = .ok (.lrem, 1) := by decide +kernel
theorem dX5_judge_65 : decode cX5_judge 65 = .ok (.l2i, 1) := by decide +kernel
theorem dX5_judge_66 : decode cX5_judge 66 = .ok (.invokevirtual 249, 3) := by decide +kernel
theorem dX5_judge_69 : decode cX5_judge 69 = .ok (.ifCond .ne 6, 3) := by decide +kernel
theorem dX5_judge_72 : decode cX5_judge 72 = .ok (.iload 4, 2) := by decide +kernel
theorem dX5_judge_74 : decode cX5_judge 74 = .ok (.ireturn, 1) := by decide +kernel
theorem dX5_judge_75 : decode cX5_judge 75 = .ok (.iinc 4 1, 3) := by decide +kernel
theorem dX5_judge_78 : decode cX5_judge 78 = .ok (.goto (-35), 3) := by decide +kernel
theorem dX5_judge_81 : decode cX5_judge 81 = .ok (.bipush (-9), 2) := by decide +kernel
theorem dX5_judge_83 : decode cX5_judge 83 = .ok (.ireturn, 1) := by decide +kernel
theorem dX5_find_0 : decode cX5_find 0 = .ok (.aload_n 0, 1) := by decide +kernel
theorem dX5_find_1 : decode cX5_find 1 = .ok (.iload_n 1, 1) := by decide +kernel
theorem dX5_find_2 : decode cX5_find 2 = .ok (.invokevirtual 185, 3) := by decide +kernel
theorem dX5_find_5 : decode cX5_find 5 = .ok (.ifCond .ne 5, 3) := by decide +kernel
theorem dX5_find_8 : decode cX5_find 8 = .ok (.iconst (-1), 1) := by decide +kernel
theorem dX5_find_9 : decode cX5_find 9 = .ok (.ireturn, 1) := by decide +kernel
theorem dX5_find_10 : decode cX5_find 10 = .ok (.iload_n 2, 1) := by decide +kernel
theorem dX5_find_11 : decode cX5_find 11 = .ok (.i2l, 1) := by decide +kernel
theorem dX5_find_12 : decode cX5_find 12 = .ok (.lconst 0, 1) := by decide +kernel
theorem dX5_find_13 : decode cX5_find 13 = .ok (.lconst 1, 1) := by decide +kernel
theorem dX5_find_14 : decode cX5_find 14 = .ok (.invokestatic 67, 3) := by decide +kernel
theorem dX5_find_17 : decode cX5_find 17 = .ok (.ifCond .ne 6, 3) := by decide +kernel
theorem dX5_find_20 : decode cX5_find 20 = .ok (.bipush (-2), 2) := by decide +kernel
theorem dX5_find_22 : decode cX5_find 22 = .ok (.ireturn, 1) := by decide +kernel
theorem dX5_find_23 : decode cX5_find 23 = .ok (.aload_n 0, 1) := by decide +kernel
theorem dX5_find_24 : decode cX5_find 24 = .ok (.getfield 182, 3) := by decide +kernel
theorem dX5_find_27 : decode cX5_find 27 = .ok (.bipush 6, 2) := by decide +kernel
theorem dX5_find_29 : decode cX5_find 29 = .ok (.if_icmp .ne 6, 3) := by decide +kernel
theorem dX5_find_32 : decode cX5_find 32 = .ok (.bipush (-4), 2) := by decide +kernel
theorem dX5_find_34 : decode cX5_find 34 = .ok (.ireturn, 1) := by decide +kernel
theorem dX5_find_35 : decode cX5_find 35 = .ok (.aload_n 0, 1) := by decide +kernel
theorem dX5_find_36 : decode cX5_find 36 = .ok (.getfield 36, 3) := by decide +kernel
theorem dX5_find_39 : decode cX5_find 39 = .ok (.aload_n 0, 1) := by decide +kernel
theorem dX5_find_40 : decode cX5_find 40 = .ok (.getfield 182, 3) := by decide +kernel
theorem dX5_find_43 : decode cX5_find 43 = .ok (.iload_n 1, 1) := by decide +kernel
theorem dX5_find_44 : decode cX5_find 44 = .ok (.iastore, 1) := by decide +kernel
theorem dX5_find_45 : decode cX5_find 45 = .ok (.aload_n 0, 1) := by decide +kernel
theorem dX5_find_46 : decode cX5_find 46 = .ok (.getfield 39, 3) := by decide +kernel
theorem dX5_find_49 : decode cX5_find 49 = .ok (.aload_n 0, 1) := by decide +kernel
theorem dX5_find_50 : decode cX5_find 50 = .ok (.getfield 182, 3) := by decide +kernel
theorem dX5_find_53 : decode cX5_find 53 = .ok (.iload_n 2, 1) := by decide +kernel
theorem dX5_find_54 : decode cX5_find 54 = .ok (.iastore, 1) := by decide +kernel
theorem dX5_find_55 : decode cX5_find 55 = .ok (.aload_n 0, 1) := by decide +kernel
theorem dX5_find_56 : decode cX5_find 56 = .ok (.dup, 1) := by decide +kernel
theorem dX5_find_57 : decode cX5_find 57 = .ok (.getfield 182, 3) := by decide +kernel
theorem dX5_find_60 : decode cX5_find 60 = .ok (.iconst 1, 1) := by decide +kernel
theorem dX5_find_61 : decode cX5_find 61 = .ok (.iadd, 1) := by decide +kernel
theorem dX5_find_62 : decode cX5_find 62 = .ok (.putfield 182, 3) := by decide +kernel
theorem dX5_find_65 : decode cX5_find 65 = .ok (.aload_n 0, 1) := by decide +kernel
theorem dX5_find_66 : decode cX5_find 66 = .ok (.getfield 182, 3) := by decide +kernel
theorem dX5_find_69 : decode cX5_find 69 = .ok (.ireturn, 1) := by decide +kernel
theorem dX5_lose_0 : decode cX5_lose 0 = .ok (.aload_n 0, 1) := by decide +kernel
theorem dX5_lose_1 : decode cX5_lose 1 = .ok (.getfield 182, 3) := by decide +kernel
theorem dX5_lose_4 : decode cX5_lose 4 = .ok (.istore_n 1, 1) := by decide +kernel
theorem dX5_lose_5 : decode cX5_lose 5 = .ok (.aload_n 0, 1) := by decide +kernel
theorem dX5_lose_6 : decode cX5_lose 6 = .ok (.iconst 0, 1) := by decide +kernel
theorem dX5_lose_7 : decode cX5_lose 7 = .ok (.putfield 182, 3) := by decide +kernel
theorem dX5_lose_10 : decode cX5_lose 10 = .ok (.iload_n 1, 1) := by decide +kernel
theorem dX5_lose_11 : decode cX5_lose 11 = .ok (.ireturn, 1) := by decide +kernel
theorem dX5_which_0 : decode cX5_which 0 = .ok (.lconst 0, 1) := by decide +kernel
theorem dX5_which_1 : decode cX5_which 1 = .ok (.lstore_n 1, 1) := by decide +kernel
theorem dX5_which_2 : decode cX5_which 2 = .ok (.iconst 0, 1) := by decide +kernel
theorem dX5_which_3 : decode cX5_which 3 = .ok (.istore_n 3, 1) := by decide +kernel
theorem dX5_which_4 : decode cX5_which 4 = .ok (.iload_n 3, 1) := by decide +kernel
theorem dX5_which_5 : decode cX5_which 5 = .ok (.aload_n 0, 1) := by decide +kernel
theorem dX5_which_6 : decode cX5_which 6 = .ok (.invokevirtual 63, 3) := by decide +kernel
theorem dX5_which_9 : decode cX5_which 9 = .ok (.if_icmp .ge 125, 3) := by decide +kernel
theorem dX5_which_12 : decode cX5_which 12 = .ok (.iconst 1, 1) := by decide +kernel
theorem dX5_which_13 : decode cX5_which 13 = .ok (.istore 4, 2) := by decide +kernel
theorem dX5_which_15 : decode cX5_which 15 = .ok (.iconst 0, 1) := by decide +kernel
theorem dX5_which_16 : decode cX5_which 16 = .ok (.istore 5, 2) := by decide +kernel
theorem dX5_which_18 : decode cX5_which 18 = .ok (.iload 5, 2) := by decide +kernel
theorem dX5_which_20 : decode cX5_which 20 = .ok (.aload_n 0, 1) := by decide +kernel
theorem dX5_which_21 : decode cX5_which 21 = .ok (.getfield 182, 3) := by decide +kernel
theorem dX5_which_24 : decode cX5_which 24 = .ok (.if_icmp .ge 89, 3) := by decide +kernel
theorem dX5_which_27 : decode cX5_which 27 = .ok (.aload_n 0, 1) := by decide +kernel
theorem dX5_which_28 : decode cX5_which 28 = .ok (.aload_n 0, 1) := by decide +kernel
theorem dX5_which_29 : decode cX5_which 29 = .ok (.getfield 36, 3) := by decide +kernel
theorem dX5_which_32 : decode cX5_which 32 = .ok (.iload 5, 2) := by decide +kernel
theorem dX5_which_34 : decode cX5_which 34 = .ok (.iaload, 1) := by decide +kernel
theorem dX5_which_35 : decode cX5_which 35 = .ok (.invokevirtual 185, 3) := by decide +kernel
theorem dX5_which_38 : decode cX5_which 38 = .ok (.ifCond .eq 33, 3) := by decide +kernel
theorem dX5_which_41 : decode cX5_which 41 = .ok (.aload_n 0, 1) := by decide +kernel
theorem dX5_which_42 : decode cX5_which 42 = .ok (.aload_n 0, 1) := by decide +kernel
theorem dX5_which_43 : decode cX5_which 43 = .ok (.getfield 20, 3) := by decide +kernel
theorem dX5_which_46 : decode cX5_which 46 = .ok (.iload_n 3, 1) := by decide +kernel
theorem dX5_which_47 : decode cX5_which 47 = .ok (.aload_n 0, 1) := by decide +kernel
theorem dX5_which_48 : decode cX5_which 48 = .ok (.getfield 20, 3) := by decide +kernel
theorem dX5_which_51 : decode cX5_which 51 = .ok (.bipush 47, 2) := by decide +kernel
theorem dX5_which_53 : decode cX5_which 53 = .ok (.iaload, 1) := by decide +kernel
theorem dX5_which_54 : decode cX5_which 54 = .ok (.aload_n 0, 1) := by decide +kernel
theorem dX5_which_55 : decode cX5_which 55 = .ok (.getfield 36, 3) := by decide +kernel
theorem dX5_which_58 : decode cX5_which 58 = .ok (.iload 5, 2) := by decide +kernel
theorem dX5_which_60 : decode cX5_which 60 = .ok (.iaload, 1) := by decide +kernel
theorem dX5_which_61 : decode cX5_which 61 = .ok (.invokevirtual 152, 3) := by decide +kernel
theorem dX5_which_64 : decode cX5_which 64 = .ok (.ifCond .eq 7, 3) := by decide +kernel
theorem dX5_which_67 : decode cX5_which 67 = .ok (.iconst 1, 1) := by decide +kernel
theorem dX5_which_68 : decode cX5_which 68 = .ok (.goto 4, 3) := by decide +kernel
theorem dX5_which_71 : decode cX5_which 71 = .ok (.iconst 0, 1) := by decide +kernel
theorem dX5_which_72 : decode cX5_which 72 = .ok (.istore 6, 2) := by decide +kernel
theorem dX5_which_74 : decode cX5_which 74 = .ok (.iload 4, 2) := by decide +kernel
theorem dX5_which_76 : decode cX5_which 76 = .ok (.ifCond .eq 28, 3) := by decide +kernel
theorem dX5_which_79 : decode cX5_which 79 = .ok (.iload 6, 2) := by decide +kernel
theorem dX5_which_81 : decode cX5_which 81 = .ok (.aload_n 0, 1) := by decide +kernel
theorem dX5_which_82 : decode cX5_which 82 = .ok (.getfield 39, 3) := by decide +kernel
theorem dX5_which_85 : decode cX5_which 85 = .ok (.iload 5, 2) := by decide +kernel
theorem dX5_which_87 : decode cX5_which 87 = .ok (.iaload, 1) := by decide +kernel
theorem dX5_which_88 : decode cX5_which 88 = .ok (.iconst 1, 1) := by decide +kernel
theorem dX5_which_89 : decode cX5_which 89 = .ok (.if_icmp .ne 7, 3) := by decide +kernel
theorem dX5_which_92 : decode cX5_which 92 = .ok (.iconst 1, 1) := by decide +kernel
theorem dX5_which_93 : decode cX5_which 93 = .ok (.goto 4, 3) := by decide +kernel
theorem dX5_which_96 : decode cX5_which 96 = .ok (.iconst 0, 1) := by decide +kernel
theorem dX5_which_97 : decode cX5_which 97 = .ok (.if_icmp .ne 7, 3) := by decide +kernel
theorem dX5_which_100 : decode cX5_which 100 = .ok (.iconst 1, 1) := by decide +kernel
theorem dX5_which_101 : decode cX5_which 101 = .ok (.goto 4, 3) := by decide +kernel
theorem dX5_which_104 : decode cX5_which 104 = .ok (.iconst 0, 1) := by decide +kernel
theorem dX5_which_105 : decode cX5_which 105 = .ok (.istore 4, 2) := by decide +kernel
theorem dX5_which_107 : decode cX5_which 107 = .ok (.iinc 5 1, 3) := by decide +kernel
theorem dX5_which_110 : decode cX5_which 110 = .ok (.goto (-92), 3) := by decide +kernel
theorem dX5_which_113 : decode cX5_which 113 = .ok (.lload_n 1, 1) := by decide +kernel
theorem dX5_which_114 : decode cX5_which 114 = .ok (.iload 4, 2) := by decide +kernel
theorem dX5_which_116 : decode cX5_which 116 = .ok (.ifCond .eq 9, 3) := by decide +kernel
theorem dX5_which_119 : decode cX5_which 119 = .ok (.lconst 1, 1) := by decide +kernel
theorem dX5_which_120 : decode cX5_which 120 = .ok (.iload_n 3, 1) := by decide +kernel
theorem dX5_which_121 : decode cX5_which 121 = .ok (.lshl, 1) := by decide +kernel
theorem dX5_which_122 : decode cX5_which 122 = .ok (.goto 4, 3) := by decide +kernel
theorem dX5_which_125 : decode cX5_which 125 = .ok (.lconst 0, 1) := by decide +kernel
theorem dX5_which_126 : decode cX5_which 126 = .ok (.lor, 1) := by decide +kernel
theorem dX5_which_127 : decode cX5_which 127 = .ok (.lstore_n 1, 1) := by decide +kernel
theorem dX5_which_128 : decode cX5_which 128 = .ok (.iinc 3 1, 3) := by decide +kernel
theorem dX5_which_131 : decode cX5_which 131 = .ok (.goto (-127), 3) := by decide +kernel
theorem dX5_which_134 : decode cX5_which 134 = .ok (.lload_n 1, 1) := by decide +kernel
theorem dX5_which_135 : decode cX5_which 135 = .ok (.lreturn, 1) := by decide +kernel
theorem dX5_worth_0 : decode cX5_worth 0 = .ok (.lconst 0, 1) := by decide +kernel
theorem dX5_worth_1 : decode cX5_worth 1 = .ok (.lstore_n 2, 1) := by decide +kernel
theorem dX5_worth_2 : decode cX5_worth 2 = .ok (.iconst 0, 1) := by decide +kernel
theorem dX5_worth_3 : decode cX5_worth 3 = .ok (.istore 4, 2) := by decide +kernel
theorem dX5_worth_5 : decode cX5_worth 5 = .ok (.iload 4, 2) := by decide +kernel
theorem dX5_worth_7 : decode cX5_worth 7 = .ok (.aload_n 0, 1) := by decide +kernel
theorem dX5_worth_8 : decode cX5_worth 8 = .ok (.getfield 20, 3) := by decide +kernel
theorem dX5_worth_11 : decode cX5_worth 11 = .ok (.bipush 36, 2) := by decide +kernel
theorem dX5_worth_13 : decode cX5_worth 13 = .ok (.iaload, 1) := by decide +kernel
theorem dX5_worth_14 : decode cX5_worth 14 = .ok (.if_icmp .ge 36, 3) := by decide +kernel
theorem dX5_worth_17 : decode cX5_worth 17 = .ok (.lload_n 2, 1) := by decide +kernel
theorem dX5_worth_18 : decode cX5_worth 18 = .ok (.iload_n 1, 1) := by decide +kernel
theorem dX5_worth_19 : decode cX5_worth 19 = .ok (.i2l, 1) := by decide +kernel
theorem dX5_worth_20 : decode cX5_worth 20 = .ok (.iload 4, 2) := by decide +kernel
theorem dX5_worth_22 : decode cX5_worth 22 = .ok (.invokestatic 59, 3) := by decide +kernel
theorem dX5_worth_25 : decode cX5_worth 25 = .ok (.ifCond .eq 16, 3) := by decide +kernel
theorem dX5_worth_28 : decode cX5_worth 28 = .ok (.aload_n 0, 1) := by decide +kernel
theorem dX5_worth_29 : decode cX5_worth 29 = .ok (.aload_n 0, 1) := by decide +kernel
theorem dX5_worth_30 : decode cX5_worth 30 = .ok (.getfield 20, 3) := by decide +kernel
theorem dX5_worth_33 : decode cX5_worth 33 = .ok (.iload 4, 2) := by decide +kernel
theorem dX5_worth_35 : decode cX5_worth 35 = .ok (.invokevirtual 160, 3) := by decide +kernel
theorem dX5_worth_38 : decode cX5_worth 38 = .ok (.goto 4, 3) := by decide +kernel
theorem dX5_worth_41 : decode cX5_worth 41 = .ok (.lconst 0, 1) := by decide +kernel
theorem dX5_worth_42 : decode cX5_worth 42 = .ok (.lor, 1) := by decide +kernel
theorem dX5_worth_43 : decode cX5_worth 43 = .ok (.lstore_n 2, 1) := by decide +kernel
theorem dX5_worth_44 : decode cX5_worth 44 = .ok (.iinc 4 1, 3) := by decide +kernel
theorem dX5_worth_47 : decode cX5_worth 47 = .ok (.goto (-42), 3) := by decide +kernel
theorem dX5_worth_50 : decode cX5_worth 50 = .ok (.lload_n 2, 1) := by decide +kernel
theorem dX5_worth_51 : decode cX5_worth 51 = .ok (.invokestatic 168, 3) := by decide +kernel
theorem dX5_worth_54 : decode cX5_worth 54 = .ok (.ireturn, 1) := by decide +kernel
theorem dX5_share_0 : decode cX5_share 0 = .ok (.aload_n 0, 1) := by decide +kernel
theorem dX5_share_1 : decode cX5_share 1 = .ok (.iload_n 1, 1) := by decide +kernel
theorem dX5_share_2 : decode cX5_share 2 = .ok (.invokevirtual 199, 3) := by decide +kernel
theorem dX5_share_5 : decode cX5_share 5 = .ok (.ifCond .ne 5, 3) := by decide +kernel
theorem dX5_share_8 : decode cX5_share 8 = .ok (.iconst (-1), 1) := by decide +kernel
theorem dX5_share_9 : decode cX5_share 9 = .ok (.ireturn, 1) := by decide +kernel
theorem dX5_share_10 : decode cX5_share 10 = .ok (.aload_n 0, 1) := by decide +kernel
theorem dX5_share_11 : decode cX5_share 11 = .ok (.getfield 20, 3) := by decide +kernel
theorem dX5_share_14 : decode cX5_share 14 = .ok (.bipush 36, 2) := by decide +kernel
theorem dX5_share_16 : decode cX5_share 16 = .ok (.iaload, 1) := by decide +kernel
theorem dX5_share_17 : decode cX5_share 17 = .ok (.istore_n 3, 1) := by decide +kernel
theorem dX5_share_18 : decode cX5_share 18 = .ok (.iconst 0, 1) := by decide +kernel
theorem dX5_share_19 : decode cX5_share 19 = .ok (.istore 4, 2) := by decide +kernel
theorem dX5_share_21 : decode cX5_share 21 = .ok (.iconst 0, 1) := by decide +kernel
theorem dX5_share_22 : decode cX5_share 22 = .ok (.istore 5, 2) := by decide +kernel
theorem dX5_share_24 : decode cX5_share 24 = .ok (.iload 5, 2) := by decide +kernel
theorem dX5_share_26 : decode cX5_share 26 = .ok (.iconst 1, 1) := by decide +kernel
theorem dX5_share_27 : decode cX5_share 27 = .ok (.iload_n 3, 1) := by decide +kernel
theorem dX5_share_28 : decode cX5_share 28 = .ok (.ishl, 1) := by decide +kernel
theorem dX5_share_29 : decode cX5_share 29 = .ok (.if_icmp .ge 69, 3) := by decide +kernel
theorem dX5_share_32 : decode cX5_share 32 = .ok (.iload 5, 2) := by decide +kernel
theorem dX5_share_34 : decode cX5_share 34 = .ok (.i2l, 1) := by decide +kernel
theorem dX5_share_35 : decode cX5_share 35 = .ok (.invokestatic 168, 3) := by decide +kernel
theorem dX5_share_38 : decode cX5_share 38 = .ok (.istore 6, 2) := by decide +kernel
theorem dX5_share_40 : decode cX5_share 40 = .ok (.iload 4, 2) := by decide +kernel
theorem dX5_share_42 : decode cX5_share 42 = .ok (.iload 5, 2) := by decide +kernel
theorem dX5_share_44 : decode cX5_share 44 = .ok (.i2l, 1) := by decide +kernel
theorem dX5_share_45 : decode cX5_share 45 = .ok (.iload_n 1, 1) := by decide +kernel
theorem dX5_share_46 : decode cX5_share 46 = .ok (.invokestatic 59, 3) := by decide +kernel
theorem dX5_share_49 : decode cX5_share 49 = .ok (.ifCond .eq 7, 3) := by decide +kernel
theorem dX5_share_52 : decode cX5_share 52 = .ok (.iconst 0, 1) := by decide +kernel
theorem dX5_share_53 : decode cX5_share 53 = .ok (.goto 36, 3) := by decide +kernel
theorem dX5_share_56 : decode cX5_share 56 = .ok (.iload 6, 2) := by decide +kernel
theorem dX5_share_58 : decode cX5_share 58 = .ok (.invokestatic 252, 3) := by decide +kernel
theorem dX5_share_61 : decode cX5_share 61 = .ok (.iload_n 3, 1) := by decide +kernel
theorem dX5_share_62 : decode cX5_share 62 = .ok (.iconst 1, 1) := by decide +kernel
theorem dX5_share_63 : decode cX5_share 63 = .ok (.isub, 1) := by decide +kernel
theorem dX5_share_64 : decode cX5_share 64 = .ok (.iload 6, 2) := by decide +kernel
theorem dX5_share_66 : decode cX5_share 66 = .ok (.isub, 1) := by decide +kernel
theorem dX5_share_67 : decode cX5_share 67 = .ok (.invokestatic 252, 3) := by decide +kernel
theorem dX5_share_70 : decode cX5_share 70 = .ok (.imul, 1) := by decide +kernel
theorem dX5_share_71 : decode cX5_share 71 = .ok (.aload_n 0, 1) := by decide +kernel
theorem dX5_share_72 : decode cX5_share 72 = .ok (.iload 5, 2) := by decide +kernel
theorem dX5_share_74 : decode cX5_share 74 = .ok (.iconst 1, 1) := by decide +kernel
theorem dX5_share_75 : decode cX5_share 75 = .ok (.iload_n 1, 1) := by decide +kernel
theorem dX5_share_76 : decode cX5_share 76 = .ok (.ishl, 1) := by decide +kernel
theorem dX5_share_77 : decode cX5_share 77 = .ok (.ior, 1) := by decide +kernel
theorem dX5_share_78 : decode cX5_share 78 = .ok (.invokevirtual 255, 3) := by decide +kernel
theorem dX5_share_81 : decode cX5_share 81 = .ok (.aload_n 0, 1) := by decide +kernel
theorem dX5_share_82 : decode cX5_share 82 = .ok (.iload 5, 2) := by decide +kernel
theorem dX5_share_84 : decode cX5_share 84 = .ok (.invokevirtual 255, 3) := by decide +kernel
theorem dX5_share_87 : decode cX5_share 87 = .ok (.isub, 1) := by decide +kernel
theorem dX5_share_88 : decode cX5_share 88 = .ok (.imul, 1) := by decide +kernel
theorem dX5_share_89 : decode cX5_share 89 = .ok (.iadd, 1) := by decide +kernel
theorem dX5_share_90 : decode cX5_share 90 = .ok (.istore 4, 2) := by decide +kernel
theorem dX5_share_92 : decode cX5_share 92 = .ok (.iinc 5 1, 3) := by decide +kernel
theorem dX5_share_95 : decode cX5_share 95 = .ok (.goto (-71), 3) := by decide +kernel
theorem dX5_share_98 : decode cX5_share 98 = .ok (.iload 4, 2) := by decide +kernel
theorem dX5_share_100 : decode cX5_share 100 = .ok (.iload_n 3, 1) := by decide +kernel
theorem dX5_share_101 : decode cX5_share 101 = .ok (.invokestatic 252, 3) := by decide +kernel
theorem dX5_share_104 : decode cX5_share 104 = .ok (.iload_n 2, 1) := by decide +kernel
theorem dX5_share_105 : decode cX5_share 105 = .ok (.invokestatic 240, 3) := by decide +kernel
theorem dX5_share_108 : decode cX5_share 108 = .ok (.ireturn, 1) := by decide +kernel
theorem dX5_chance_0 : decode cX5_chance 0 = .ok (.aload_n 0, 1) := by decide +kernel
theorem dX5_chance_1 : decode cX5_chance 1 = .ok (.iload_n 1, 1) := by decide +kernel
theorem dX5_chance_2 : decode cX5_chance 2 = .ok (.invokevirtual 185, 3) := by decide +kernel
theorem dX5_chance_5 : decode cX5_chance 5 = .ok (.ifCond .ne 5, 3) := by decide +kernel
theorem dX5_chance_8 : decode cX5_chance 8 = .ok (.iconst (-1), 1) := by decide +kernel
theorem dX5_chance_9 : decode cX5_chance 9 = .ok (.ireturn, 1) := by decide +kernel
theorem dX5_chance_10 : decode cX5_chance 10 = .ok (.iload_n 2, 1) := by decide +kernel
theorem dX5_chance_11 : decode cX5_chance 11 = .ok (.i2l, 1) := by decide +kernel
theorem dX5_chance_12 : decode cX5_chance 12 = .ok (.lconst 0, 1) := by decide +kernel
theorem dX5_chance_13 : decode cX5_chance 13 = .ok (.ldc2_w 258, 3) := by decide +kernel
theorem dX5_chance_16 : decode cX5_chance 16 = .ok (.invokestatic 67, 3) := by decide +kernel
theorem dX5_chance_19 : decode cX5_chance 19 = .ok (.ifCond .ne 6, 3) := by decide +kernel
theorem dX5_chance_22 : decode cX5_chance 22 = .ok (.bipush (-2), 2) := by decide +kernel
theorem dX5_chance_24 : decode cX5_chance 24 = .ok (.ireturn, 1) := by decide +kernel
theorem dX5_chance_25 : decode cX5_chance 25 = .ok (.aload_n 0, 1) := by decide +kernel
theorem dX5_chance_26 : decode cX5_chance 26 = .ok (.iload_n 1, 1) := by decide +kernel
theorem dX5_chance_27 : decode cX5_chance 27 = .ok (.invokevirtual 191, 3) := by decide +kernel
theorem dX5_chance_30 : decode cX5_chance 30 = .ok (.istore 4, 2) := by decide +kernel
theorem dX5_chance_32 : decode cX5_chance 32 = .ok (.bipush 10, 2) := by decide +kernel
theorem dX5_chance_34 : decode cX5_chance 34 = .ok (.iload 4, 2) := by decide +kernel
theorem dX5_chance_36 : decode cX5_chance 36 = .ok (.invokestatic 260, 3) := by decide +kernel
theorem dX5_chance_39 : decode cX5_chance 39 = .ok (.iload_n 2, 1) := by decide +kernel
theorem dX5_chance_40 : decode cX5_chance 40 = .ok (.iload 4, 2) := by decide +kernel
theorem dX5_chance_42 : decode cX5_chance 42 = .ok (.invokestatic 260, 3) := by decide +kernel
theorem dX5_chance_45 : decode cX5_chance 45 = .ok (.isub, 1) := by decide +kernel
theorem dX5_chance_46 : decode cX5_chance 46 = .ok (.bipush 10, 2) := by decide +kernel
theorem dX5_chance_48 : decode cX5_chance 48 = .ok (.iload 4, 2) := by decide +kernel
theorem dX5_chance_50 : decode cX5_chance 50 = .ok (.invokestatic 260, 3) := by decide +kernel
theorem dX5_chance_53 : decode cX5_chance 53 = .ok (.iload_n 3, 1) := by decide +kernel
theorem dX5_chance_54 : decode cX5_chance 54 = .ok (.invokestatic 240, 3) := by decide +kernel
theorem dX5_chance_57 : decode cX5_chance 57 = .ok (.ireturn, 1) := by decide +kernel
theorem dX5_seed_0 : decode cX5_seed 0 = .ok (.aload_n 0, 1) := by decide +kernel
theorem dX5_seed_1 : decode cX5_seed 1 = .ok (.getfield 263, 3) := by decide +kernel
theorem dX5_seed_4 : decode cX5_seed 4 = .ok (.lstore_n 3, 1) := by decide +kernel
theorem dX5_seed_5 : decode cX5_seed 5 = .ok (.aload_n 0, 1) := by decide +kernel
theorem dX5_seed_6 : decode cX5_seed 6 = .ok (.lload_n 1, 1) := by decide +kernel
theorem dX5_seed_7 : decode cX5_seed 7 = .ok (.putfield 263, 3) := by decide +kernel
theorem dX5_seed_10 : decode cX5_seed 10 = .ok (.lload_n 3, 1) := by decide +kernel
theorem dX5_seed_11 : decode cX5_seed 11 = .ok (.lreturn, 1) := by decide +kernel
theorem dX5_drawn_0 : decode cX5_drawn 0 = .ok (.iload_n 1, 1) := by decide +kernel
theorem dX5_drawn_1 : decode cX5_drawn 1 = .ok (.i2l, 1) := by decide +kernel
theorem dX5_drawn_2 : decode cX5_drawn 2 = .ok (.lconst 1, 1) := by decide +kernel
theorem dX5_drawn_3 : decode cX5_drawn 3 = .ok (.ldc2_w 267, 3) := by decide +kernel
theorem dX5_drawn_6 : decode cX5_drawn 6 = .ok (.invokestatic 67, 3) := by decide +kernel
theorem dX5_drawn_9 : decode cX5_drawn 9 = .ok (.ifCond .ne 6, 3) := by decide +kernel
theorem dX5_drawn_12 : decode cX5_drawn 12 = .ok (.bipush (-2), 2) := by decide +kernel
theorem dX5_drawn_14 : decode cX5_drawn 14 = .ok (.ireturn, 1) := by decide +kernel
theorem dX5_drawn_15 : decode cX5_drawn 15 = .ok (.aload_n 0, 1) := by decide +kernel
theorem dX5_drawn_16 : decode cX5_drawn 16 = .ok (.getfield 20, 3) := by decide +kernel
theorem dX5_drawn_19 : decode cX5_drawn 19 = .ok (.aload_n 0, 1) := by decide +kernel
theorem dX5_drawn_20 : decode cX5_drawn 20 = .ok (.getfield 23, 3) := by decide +kernel
theorem dX5_drawn_23 : decode cX5_drawn 23 = .ok (.invokestatic 117, 3) := by decide +kernel
theorem dX5_drawn_26 : decode cX5_drawn 26 = .ok (.iconst 0, 1) := by decide +kernel
theorem dX5_drawn_27 : decode cX5_drawn 27 = .ok (.istore_n 2, 1) := by decide +kernel
theorem dX5_drawn_28 : decode cX5_drawn 28 = .ok (.iconst 0, 1) := by decide +kernel
theorem dX5_drawn_29 : decode cX5_drawn 29 = .ok (.istore_n 3, 1) := by decide +kernel
theorem dX5_drawn_30 : decode cX5_drawn 30 = .ok (.iload_n 3, 1) := by decide +kernel
theorem dX5_drawn_31 : decode cX5_drawn 31 = .ok (.iload_n 1, 1) := by decide +kernel
theorem dX5_drawn_32 : decode cX5_drawn 32 = .ok (.if_icmp .ge 66, 3) := by decide +kernel
theorem dX5_drawn_35 : decode cX5_drawn 35 = .ok (.aload_n 0, 1) := by decide +kernel
theorem dX5_drawn_36 : decode cX5_drawn 36 = .ok (.aload_n 0, 1) := by decide +kernel
theorem dX5_drawn_37 : decode cX5_drawn 37 = .ok (.getfield 263, 3) := by decide +kernel
theorem dX5_drawn_40 : decode cX5_drawn 40 = .ok (.ldc2_w 269, 3) := by decide +kernel
theorem dX5_drawn_43 : decode cX5_drawn 43 = .ok (.lmul, 1) := by decide +kernel
theorem dX5_drawn_44 : decode cX5_drawn 44 = .ok (.ldc2_w 271, 3) := by decide +kernel
theorem dX5_drawn_47 : decode cX5_drawn 47 = .ok (.ladd, 1) := by decide +kernel
theorem dX5_drawn_48 : decode cX5_drawn 48 = .ok (.putfield 263, 3) := by decide +kernel
theorem dX5_drawn_51 : decode cX5_drawn 51 = .ok (.aload_n 0, 1) := by decide +kernel
theorem dX5_drawn_52 : decode cX5_drawn 52 = .ok (.getfield 263, 3) := by decide +kernel
theorem dX5_drawn_55 : decode cX5_drawn 55 = .ok (.bipush 33, 2) := by decide +kernel
theorem dX5_drawn_57 : decode cX5_drawn 57 = .ok (.lushr, 1) := by decide +kernel
theorem dX5_drawn_58 : decode cX5_drawn 58 = .ok (.l2i, 1) := by decide +kernel
theorem dX5_drawn_59 : decode cX5_drawn 59 = .ok (.istore 4, 2) := by decide +kernel
theorem dX5_drawn_61 : decode cX5_drawn 61 = .ok (.aload_n 0, 1) := by decide +kernel
theorem dX5_drawn_62 : decode cX5_drawn 62 = .ok (.getfield 23, 3) := by decide +kernel
theorem dX5_drawn_65 : decode cX5_drawn 65 = .ok (.iload 4, 2) := by decide +kernel
theorem dX5_drawn_67 : decode cX5_drawn 67 = .ok (.aload_n 0, 1) := by decide +kernel
theorem dX5_drawn_68 : decode cX5_drawn 68 = .ok (.invokevirtual 63, 3) := by decide +kernel
theorem dX5_drawn_71 : decode cX5_drawn 71 = .ok (.irem, 1) := by decide +kernel
theorem dX5_drawn_72 : decode cX5_drawn 72 = .ok (.iload 4, 2) := by decide +kernel
theorem dX5_drawn_74 : decode cX5_drawn 74 = .ok (.bipush 64, 2) := by decide +kernel
theorem dX5_drawn_76 : decode cX5_drawn 76 = .ok (.idiv, 1) := by decide +kernel
theorem dX5_drawn_77 : decode cX5_drawn 77 = .ok (.bipush 10, 2) := by decide +kernel
theorem dX5_drawn_79 : decode cX5_drawn 79 = .ok (.irem, 1) := by decide +kernel
theorem dX5_drawn_80 : decode cX5_drawn 80 = .ok (.iastore, 1) := by decide +kernel
theorem dX5_drawn_81 : decode cX5_drawn 81 = .ok (.iload_n 2, 1) := by decide +kernel
theorem dX5_drawn_82 : decode cX5_drawn 82 = .ok (.aload_n 0, 1) := by decide +kernel
theorem dX5_drawn_83 : decode cX5_drawn 83 = .ok (.aload_n 0, 1) := by decide +kernel
theorem dX5_drawn_84 : decode cX5_drawn 84 = .ok (.getfield 23, 3) := by decide +kernel
theorem dX5_drawn_87 : decode cX5_drawn 87 = .ok (.invokevirtual 175, 3) := by decide +kernel
theorem dX5_drawn_90 : decode cX5_drawn 90 = .ok (.iadd, 1) := by decide +kernel
theorem dX5_drawn_91 : decode cX5_drawn 91 = .ok (.istore_n 2, 1) := by decide +kernel
theorem dX5_drawn_92 : decode cX5_drawn 92 = .ok (.iinc 3 1, 3) := by decide +kernel
theorem dX5_drawn_95 : decode cX5_drawn 95 = .ok (.goto (-65), 3) := by decide +kernel
theorem dX5_drawn_98 : decode cX5_drawn 98 = .ok (.iload_n 2, 1) := by decide +kernel
theorem dX5_drawn_99 : decode cX5_drawn 99 = .ok (.ireturn, 1) := by decide +kernel
theorem dX5_keep_0 : decode cX5_keep 0 = .ok (.iload_n 1, 1) := by decide +kernel
theorem dX5_keep_1 : decode cX5_keep 1 = .ok (.i2l, 1) := by decide +kernel
theorem dX5_keep_2 : decode cX5_keep 2 = .ok (.lconst 0, 1) := by decide +kernel
theorem dX5_keep_3 : decode cX5_keep 3 = .ok (.lconst 1, 1) := by decide +kernel
theorem dX5_keep_4 : decode cX5_keep 4 = .ok (.invokestatic 67, 3) := by decide +kernel
theorem dX5_keep_7 : decode cX5_keep 7 = .ok (.ifCond .ne 5, 3) := by decide +kernel
theorem dX5_keep_10 : decode cX5_keep 10 = .ok (.iconst (-1), 1) := by decide +kernel
theorem dX5_keep_11 : decode cX5_keep 11 = .ok (.ireturn, 1) := by decide +kernel
theorem dX5_keep_12 : decode cX5_keep 12 = .ok (.aload_n 0, 1) := by decide +kernel
theorem dX5_keep_13 : decode cX5_keep 13 = .ok (.getfield 32, 3) := by decide +kernel
theorem dX5_keep_16 : decode cX5_keep 16 = .ok (.iload_n 1, 1) := by decide +kernel
theorem dX5_keep_17 : decode cX5_keep 17 = .ok (.iconst 1, 1) := by decide +kernel
theorem dX5_keep_18 : decode cX5_keep 18 = .ok (.bastore, 1) := by decide +kernel
theorem dX5_keep_19 : decode cX5_keep 19 = .ok (.iconst 0, 1) := by decide +kernel
theorem dX5_keep_20 : decode cX5_keep 20 = .ok (.istore_n 2, 1) := by decide +kernel
theorem dX5_keep_21 : decode cX5_keep 21 = .ok (.iload_n 2, 1) := by decide +kernel
theorem dX5_keep_22 : decode cX5_keep 22 = .ok (.bipush 51, 2) := by decide +kernel
theorem dX5_keep_24 : decode cX5_keep 24 = .ok (.if_icmp .ge 26, 3) := by decide +kernel
theorem dX5_keep_27 : decode cX5_keep 27 = .ok (.aload_n 0, 1) := by decide +kernel
theorem dX5_keep_28 : decode cX5_keep 28 = .ok (.getfield 29, 3) := by decide +kernel
theorem dX5_keep_31 : decode cX5_keep 31 = .ok (.bipush 51, 2) := by decide +kernel
theorem dX5_keep_33 : decode cX5_keep 33 = .ok (.iload_n 1, 1) := by decide +kernel
theorem dX5_keep_34 : decode cX5_keep 34 = .ok (.imul, 1) := by decide +kernel
theorem dX5_keep_35 : decode cX5_keep 35 = .ok (.iload_n 2, 1) := by decide +kernel
theorem dX5_keep_36 : decode cX5_keep 36 = .ok (.iadd, 1) := by decide +kernel
theorem dX5_keep_37 : decode cX5_keep 37 = .ok (.aload_n 0, 1) := by decide +kernel
theorem dX5_keep_38 : decode cX5_keep 38 = .ok (.getfield 20, 3) := by decide +kernel
theorem dX5_keep_41 : decode cX5_keep 41 = .ok (.iload_n 2, 1) := by decide +kernel
theorem dX5_keep_42 : decode cX5_keep 42 = .ok (.iaload, 1) := by decide +kernel
theorem dX5_keep_43 : decode cX5_keep 43 = .ok (.iastore, 1) := by decide +kernel
theorem dX5_keep_44 : decode cX5_keep 44 = .ok (.iinc 2 1, 3) := by decide +kernel
theorem dX5_keep_47 : decode cX5_keep 47 = .ok (.goto (-26), 3) := by decide +kernel
theorem dX5_keep_50 : decode cX5_keep 50 = .ok (.aload_n 0, 1) := by decide +kernel
theorem dX5_keep_51 : decode cX5_keep 51 = .ok (.getfield 20, 3) := by decide +kernel
theorem dX5_keep_54 : decode cX5_keep 54 = .ok (.bipush 36, 2) := by decide +kernel
theorem dX5_keep_56 : decode cX5_keep 56 = .ok (.iaload, 1) := by decide +kernel
theorem dX5_keep_57 : decode cX5_keep 57 = .ok (.ireturn, 1) := by decide +kernel
theorem dX5_again_0 : decode cX5_again 0 = .ok (.iload_n 1, 1) := by decide +kernel
theorem dX5_again_1 : decode cX5_again 1 = .ok (.i2l, 1) := by decide +kernel
theorem dX5_again_2 : decode cX5_again 2 = .ok (.lconst 0, 1) := by decide +kernel
theorem dX5_again_3 : decode cX5_again 3 = .ok (.lconst 1, 1) := by decide +kernel
theorem dX5_again_4 : decode cX5_again 4 = .ok (.invokestatic 67, 3) := by decide +kernel
theorem dX5_again_7 : decode cX5_again 7 = .ok (.ifCond .ne 5, 3) := by decide +kernel
theorem dX5_again_10 : decode cX5_again 10 = .ok (.iconst (-1), 1) := by decide +kernel
theorem dX5_again_11 : decode cX5_again 11 = .ok (.ireturn, 1) := by decide +kernel
theorem dX5_again_12 : decode cX5_again 12 = .ok (.aload_n 0, 1) := by decide +kernel
theorem dX5_again_13 : decode cX5_again 13 = .ok (.getfield 32, 3) := by decide +kernel
theorem dX5_again_16 : decode cX5_again 16 = .ok (.iload_n 1, 1) := by decide +kernel
theorem dX5_again_17 : decode cX5_again 17 = .ok (.baload, 1) := by decide +kernel
theorem dX5_again_18 : decode cX5_again 18 = .ok (.ifCond .ne 6, 3) := by decide +kernel
theorem dX5_again_21 : decode cX5_again 21 = .ok (.bipush (-3), 2) := by decide +kernel
theorem dX5_again_23 : decode cX5_again 23 = .ok (.ireturn, 1) := by decide +kernel
theorem dX5_again_24 : decode cX5_again 24 = .ok (.iconst 0, 1) := by decide +kernel
theorem dX5_again_25 : decode cX5_again 25 = .ok (.istore_n 2, 1) := by decide +kernel
theorem dX5_again_26 : decode cX5_again 26 = .ok (.iload_n 2, 1) := by decide +kernel
theorem dX5_again_27 : decode cX5_again 27 = .ok (.bipush 51, 2) := by decide +kernel
theorem dX5_again_29 : decode cX5_again 29 = .ok (.if_icmp .ge 26, 3) := by decide +kernel
theorem dX5_again_32 : decode cX5_again 32 = .ok (.aload_n 0, 1) := by decide +kernel
theorem dX5_again_33 : decode cX5_again 33 = .ok (.getfield 20, 3) := by decide +kernel
theorem dX5_again_36 : decode cX5_again 36 = .ok (.iload_n 2, 1) := by decide +kernel
theorem dX5_again_37 : decode cX5_again 37 = .ok (.aload_n 0, 1) := by decide +kernel
theorem dX5_again_38 : decode cX5_again 38 = .ok (.getfield 29, 3) := by decide +kernel
theorem dX5_again_41 : decode cX5_again 41 = .ok (.bipush 51, 2) := by decide +kernel
theorem dX5_again_43 : decode cX5_again 43 = .ok (.iload_n 1, 1) := by decide +kernel
theorem dX5_again_44 : decode cX5_again 44 = .ok (.imul, 1) := by decide +kernel
theorem dX5_again_45 : decode cX5_again 45 = .ok (.iload_n 2, 1) := by decide +kernel
theorem dX5_again_46 : decode cX5_again 46 = .ok (.iadd, 1) := by decide +kernel
theorem dX5_again_47 : decode cX5_again 47 = .ok (.iaload, 1) := by decide +kernel
theorem dX5_again_48 : decode cX5_again 48 = .ok (.iastore, 1) := by decide +kernel
theorem dX5_again_49 : decode cX5_again 49 = .ok (.iinc 2 1, 3) := by decide +kernel
theorem dX5_again_52 : decode cX5_again 52 = .ok (.goto (-26), 3) := by decide +kernel
theorem dX5_again_55 : decode cX5_again 55 = .ok (.aload_n 0, 1) := by decide +kernel
theorem dX5_again_56 : decode cX5_again 56 = .ok (.iconst 0, 1) := by decide +kernel
theorem dX5_again_57 : decode cX5_again 57 = .ok (.putfield 121, 3) := by decide +kernel
theorem dX5_again_60 : decode cX5_again 60 = .ok (.aload_n 0, 1) := by decide +kernel
theorem dX5_again_61 : decode cX5_again 61 = .ok (.getfield 20, 3) := by decide +kernel
theorem dX5_again_64 : decode cX5_again 64 = .ok (.bipush 36, 2) := by decide +kernel
theorem dX5_again_66 : decode cX5_again 66 = .ok (.iaload, 1) := by decide +kernel
theorem dX5_again_67 : decode cX5_again 67 = .ok (.ireturn, 1) := by decide +kernel
theorem dJ13_bitCount_95d88_0 : decode cJ13_bitCount_95d88 0 = .ok (.lload_n 0, 1) := by decide +kernel
theorem dJ13_bitCount_95d88_1 : decode cJ13_bitCount_95d88 1 = .ok (.lload_n 0, 1) := by decide +kernel
theorem dJ13_bitCount_95d88_2 : decode cJ13_bitCount_95d88 2 = .ok (.iconst 1, 1) := by decide +kernel
theorem dJ13_bitCount_95d88_3 : decode cJ13_bitCount_95d88 3 = .ok (.lushr, 1) := by decide +kernel
theorem dJ13_bitCount_95d88_4 : decode cJ13_bitCount_95d88 4 = .ok (.ldc2_w 314, 3) := by decide +kernel
theorem dJ13_bitCount_95d88_7 : decode cJ13_bitCount_95d88 7 = .ok (.land, 1) := by decide +kernel
theorem dJ13_bitCount_95d88_8 : decode cJ13_bitCount_95d88 8 = .ok (.lsub, 1) := by decide +kernel
theorem dJ13_bitCount_95d88_9 : decode cJ13_bitCount_95d88 9 = .ok (.lstore_n 0, 1) := by decide +kernel
theorem dJ13_bitCount_95d88_10 : decode cJ13_bitCount_95d88 10 = .ok (.lload_n 0, 1) := by decide +kernel
theorem dJ13_bitCount_95d88_11 : decode cJ13_bitCount_95d88 11 = .ok (.ldc2_w 316, 3) := by decide +kernel
theorem dJ13_bitCount_95d88_14 : decode cJ13_bitCount_95d88 14 = .ok (.land, 1) := by decide +kernel
theorem dJ13_bitCount_95d88_15 : decode cJ13_bitCount_95d88 15 = .ok (.lload_n 0, 1) := by decide +kernel
theorem dJ13_bitCount_95d88_16 : decode cJ13_bitCount_95d88 16 = .ok (.iconst 2, 1) := by decide +kernel
theorem dJ13_bitCount_95d88_17 : decode cJ13_bitCount_95d88 17 = .ok (.lushr, 1) := by decide +kernel
theorem dJ13_bitCount_95d88_18 : decode cJ13_bitCount_95d88 18 = .ok (.ldc2_w 316, 3) := by decide +kernel
theorem dJ13_bitCount_95d88_21 : decode cJ13_bitCount_95d88 21 = .ok (.land, 1) := by decide +kernel
theorem dJ13_bitCount_95d88_22 : decode cJ13_bitCount_95d88 22 = .ok (.ladd, 1) := by decide +kernel
theorem dJ13_bitCount_95d88_23 : decode cJ13_bitCount_95d88 23 = .ok (.lstore_n 0, 1) := by decide +kernel
theorem dJ13_bitCount_95d88_24 : decode cJ13_bitCount_95d88 24 = .ok (.lload_n 0, 1) := by decide +kernel
theorem dJ13_bitCount_95d88_25 : decode cJ13_bitCount_95d88 25 = .ok (.lload_n 0, 1) := by decide +kernel
theorem dJ13_bitCount_95d88_26 : decode cJ13_bitCount_95d88 26 = .ok (.iconst 4, 1) := by decide +kernel
theorem dJ13_bitCount_95d88_27 : decode cJ13_bitCount_95d88 27 = .ok (.lushr, 1) := by decide +kernel
theorem dJ13_bitCount_95d88_28 : decode cJ13_bitCount_95d88 28 = .ok (.ladd, 1) := by decide +kernel
theorem dJ13_bitCount_95d88_29 : decode cJ13_bitCount_95d88 29 = .ok (.ldc2_w 318, 3) := by decide +kernel
theorem dJ13_bitCount_95d88_32 : decode cJ13_bitCount_95d88 32 = .ok (.land, 1) := by decide +kernel
theorem dJ13_bitCount_95d88_33 : decode cJ13_bitCount_95d88 33 = .ok (.lstore_n 0, 1) := by decide +kernel
theorem dJ13_bitCount_95d88_34 : decode cJ13_bitCount_95d88 34 = .ok (.lload_n 0, 1) := by decide +kernel
theorem dJ13_bitCount_95d88_35 : decode cJ13_bitCount_95d88 35 = .ok (.lload_n 0, 1) := by decide +kernel
theorem dJ13_bitCount_95d88_36 : decode cJ13_bitCount_95d88 36 = .ok (.bipush 8, 2) := by decide +kernel
theorem dJ13_bitCount_95d88_38 : decode cJ13_bitCount_95d88 38 = .ok (.lushr, 1) := by decide +kernel
theorem dJ13_bitCount_95d88_39 : decode cJ13_bitCount_95d88 39 = .ok (.ladd, 1) := by decide +kernel
theorem dJ13_bitCount_95d88_40 : decode cJ13_bitCount_95d88 40 = .ok (.lstore_n 0, 1) := by decide +kernel
theorem dJ13_bitCount_95d88_41 : decode cJ13_bitCount_95d88 41 = .ok (.lload_n 0, 1) := by decide +kernel
theorem dJ13_bitCount_95d88_42 : decode cJ13_bitCount_95d88 42 = .ok (.lload_n 0, 1) := by decide +kernel
theorem dJ13_bitCount_95d88_43 : decode cJ13_bitCount_95d88 43 = .ok (.bipush 16, 2) := by decide +kernel
theorem dJ13_bitCount_95d88_45 : decode cJ13_bitCount_95d88 45 = .ok (.lushr, 1) := by decide +kernel
theorem dJ13_bitCount_95d88_46 : decode cJ13_bitCount_95d88 46 = .ok (.ladd, 1) := by decide +kernel
theorem dJ13_bitCount_95d88_47 : decode cJ13_bitCount_95d88 47 = .ok (.lstore_n 0, 1) := by decide +kernel
theorem dJ13_bitCount_95d88_48 : decode cJ13_bitCount_95d88 48 = .ok (.lload_n 0, 1) := by decide +kernel
theorem dJ13_bitCount_95d88_49 : decode cJ13_bitCount_95d88 49 = .ok (.lload_n 0, 1) := by decide +kernel
theorem dJ13_bitCount_95d88_50 : decode cJ13_bitCount_95d88 50 = .ok (.bipush 32, 2) := by decide +kernel
theorem dJ13_bitCount_95d88_52 : decode cJ13_bitCount_95d88 52 = .ok (.lushr, 1) := by decide +kernel
theorem dJ13_bitCount_95d88_53 : decode cJ13_bitCount_95d88 53 = .ok (.ladd, 1) := by decide +kernel
theorem dJ13_bitCount_95d88_54 : decode cJ13_bitCount_95d88 54 = .ok (.lstore_n 0, 1) := by decide +kernel
theorem dJ13_bitCount_95d88_55 : decode cJ13_bitCount_95d88 55 = .ok (.lload_n 0, 1) := by decide +kernel
theorem dJ13_bitCount_95d88_56 : decode cJ13_bitCount_95d88 56 = .ok (.l2i, 1) := by decide +kernel
theorem dJ13_bitCount_95d88_57 : decode cJ13_bitCount_95d88 57 = .ok (.bipush 127, 2) := by decide +kernel
theorem dJ13_bitCount_95d88_59 : decode cJ13_bitCount_95d88 59 = .ok (.iand, 1) := by decide +kernel
theorem dJ13_bitCount_95d88_60 : decode cJ13_bitCount_95d88 60 = .ok (.ireturn, 1) := by decide +kernel
theorem dJ0_length_8abf5_0 : decode cJ0_length_8abf5 0 = .ok (.aload_n 0, 1) := by decide +kernel
theorem dJ0_length_8abf5_1 : decode cJ0_length_8abf5 1 = .ok (.getfield 9, 3) := by decide +kernel
theorem dJ0_length_8abf5_4 : decode cJ0_length_8abf5 4 = .ok (.arraylength, 1) := by decide +kernel
theorem dJ0_length_8abf5_5 : decode cJ0_length_8abf5 5 = .ok (.aload_n 0, 1) := by decide +kernel
theorem dJ0_length_8abf5_6 : decode cJ0_length_8abf5 6 = .ok (.invokevirtual 335, 3) := by decide +kernel
theorem dJ0_length_8abf5_9 : decode cJ0_length_8abf5 9 = .ok (.ishr, 1) := by decide +kernel
theorem dJ0_length_8abf5_10 : decode cJ0_length_8abf5 10 = .ok (.ireturn, 1) := by decide +kernel
theorem dJ0_indexOf_0f7a4_0 : decode cJ0_indexOf_0f7a4 0 = .ok (.aload_n 0, 1) := by decide +kernel
theorem dJ0_indexOf_0f7a4_1 : decode cJ0_indexOf_0f7a4 1 = .ok (.iload_n 1, 1) := by decide +kernel
theorem dJ0_indexOf_0f7a4_2 : decode cJ0_indexOf_0f7a4 2 = .ok (.iconst 0, 1) := by decide +kernel
theorem dJ0_indexOf_0f7a4_3 : decode cJ0_indexOf_0f7a4 3 = .ok (.invokevirtual 633, 3) := by decide +kernel
theorem dJ0_indexOf_0f7a4_6 : decode cJ0_indexOf_0f7a4 6 = .ok (.ireturn, 1) := by decide +kernel
theorem dJ0_indexOf_7cf53_0 : decode cJ0_indexOf_7cf53 0 = .ok (.aload_n 0, 1) := by decide +kernel
theorem dJ0_indexOf_7cf53_1 : decode cJ0_indexOf_7cf53 1 = .ok (.invokevirtual 492, 3) := by decide +kernel
theorem dJ0_indexOf_7cf53_4 : decode cJ0_indexOf_7cf53 4 = .ok (.ifCond .eq 19, 3) := by decide +kernel
theorem dJ0_indexOf_7cf53_7 : decode cJ0_indexOf_7cf53 7 = .ok (.aload_n 0, 1) := by decide +kernel
theorem dJ0_indexOf_7cf53_8 : decode cJ0_indexOf_7cf53 8 = .ok (.getfield 9, 3) := by decide +kernel
theorem dJ0_indexOf_7cf53_11 : decode cJ0_indexOf_7cf53 11 = .ok (.iload_n 1, 1) := by decide +kernel
theorem dJ0_indexOf_7cf53_12 : decode cJ0_indexOf_7cf53 12 = .ok (.iload_n 2, 1) := by decide +kernel
theorem dJ0_indexOf_7cf53_13 : decode cJ0_indexOf_7cf53 13 = .ok (.aload_n 0, 1) := by decide +kernel
theorem dJ0_indexOf_7cf53_14 : decode cJ0_indexOf_7cf53 14 = .ok (.invokevirtual 505, 3) := by decide +kernel
theorem dJ0_indexOf_7cf53_17 : decode cJ0_indexOf_7cf53 17 = .ok (.invokestatic 637, 3) := by decide +kernel
theorem dJ0_indexOf_7cf53_20 : decode cJ0_indexOf_7cf53 20 = .ok (.goto 16, 3) := by decide +kernel
theorem dJ0_indexOf_7cf53_23 : decode cJ0_indexOf_7cf53 23 = .ok (.aload_n 0, 1) := by decide +kernel
theorem dJ0_indexOf_7cf53_24 : decode cJ0_indexOf_7cf53 24 = .ok (.getfield 9, 3) := by decide +kernel
theorem dJ0_indexOf_7cf53_27 : decode cJ0_indexOf_7cf53 27 = .ok (.iload_n 1, 1) := by decide +kernel
theorem dJ0_indexOf_7cf53_28 : decode cJ0_indexOf_7cf53 28 = .ok (.iload_n 2, 1) := by decide +kernel
theorem dJ0_indexOf_7cf53_29 : decode cJ0_indexOf_7cf53 29 = .ok (.aload_n 0, 1) := by decide +kernel
theorem dJ0_indexOf_7cf53_30 : decode cJ0_indexOf_7cf53 30 = .ok (.invokevirtual 505, 3) := by decide +kernel
theorem dJ0_indexOf_7cf53_33 : decode cJ0_indexOf_7cf53 33 = .ok (.invokestatic 640, 3) := by decide +kernel
theorem dJ0_indexOf_7cf53_36 : decode cJ0_indexOf_7cf53 36 = .ok (.ireturn, 1) := by decide +kernel
theorem dJ0_coder_7d493_0 : decode cJ0_coder_7d493 0 = .ok (.getstatic 38, 3) := by decide +kernel
theorem dJ0_coder_7d493_3 : decode cJ0_coder_7d493 3 = .ok (.ifCond .eq 10, 3) := by decide +kernel
theorem dJ0_coder_7d493_6 : decode cJ0_coder_7d493 6 = .ok (.aload_n 0, 1) := by decide +kernel
theorem dJ0_coder_7d493_7 : decode cJ0_coder_7d493 7 = .ok (.getfield 15, 3) := by decide +kernel
theorem dJ0_coder_7d493_10 : decode cJ0_coder_7d493 10 = .ok (.goto 4, 3) := by decide +kernel
theorem dJ0_coder_7d493_13 : decode cJ0_coder_7d493 13 = .ok (.iconst 1, 1) := by decide +kernel
theorem dJ0_coder_7d493_14 : decode cJ0_coder_7d493 14 = .ok (.ireturn, 1) := by decide +kernel
theorem dJ0_isLatin1_aae02_0 : decode cJ0_isLatin1_aae02 0 = .ok (.getstatic 38, 3) := by decide +kernel
theorem dJ0_isLatin1_aae02_3 : decode cJ0_isLatin1_aae02 3 = .ok (.ifCond .eq 14, 3) := by decide +kernel
theorem dJ0_isLatin1_aae02_6 : decode cJ0_isLatin1_aae02 6 = .ok (.aload_n 0, 1) := by decide +kernel
theorem dJ0_isLatin1_aae02_7 : decode cJ0_isLatin1_aae02 7 = .ok (.getfield 15, 3) := by decide +kernel
theorem dJ0_isLatin1_aae02_10 : decode cJ0_isLatin1_aae02 10 = .ok (.ifCond .ne 7, 3) := by decide +kernel
theorem dJ0_isLatin1_aae02_13 : decode cJ0_isLatin1_aae02 13 = .ok (.iconst 1, 1) := by decide +kernel
theorem dJ0_isLatin1_aae02_14 : decode cJ0_isLatin1_aae02 14 = .ok (.goto 4, 3) := by decide +kernel
theorem dJ0_isLatin1_aae02_17 : decode cJ0_isLatin1_aae02 17 = .ok (.iconst 0, 1) := by decide +kernel
theorem dJ0_isLatin1_aae02_18 : decode cJ0_isLatin1_aae02 18 = .ok (.ireturn, 1) := by decide +kernel
theorem dJ1_canEncode_9a6ad_0 : decode cJ1_canEncode_9a6ad 0 = .ok (.iload_n 0, 1) := by decide +kernel
theorem dJ1_canEncode_9a6ad_1 : decode cJ1_canEncode_9a6ad 1 = .ok (.ifCond .lt 14, 3) := by decide +kernel
theorem dJ1_canEncode_9a6ad_4 : decode cJ1_canEncode_9a6ad 4 = .ok (.iload_n 0, 1) := by decide +kernel
theorem dJ1_canEncode_9a6ad_5 : decode cJ1_canEncode_9a6ad 5 = .ok (.sipush 255, 3) := by decide +kernel
theorem dJ1_canEncode_9a6ad_8 : decode cJ1_canEncode_9a6ad 8 = .ok (.if_icmp .gt 7, 3) := by decide +kernel
theorem dJ1_canEncode_9a6ad_11 : decode cJ1_canEncode_9a6ad 11 = .ok (.iconst 1, 1) := by decide +kernel
theorem dJ1_canEncode_9a6ad_12 : decode cJ1_canEncode_9a6ad 12 = .ok (.goto 4, 3) := by decide +kernel
theorem dJ1_canEncode_9a6ad_15 : decode cJ1_canEncode_9a6ad 15 = .ok (.iconst 0, 1) := by decide +kernel
theorem dJ1_canEncode_9a6ad_16 : decode cJ1_canEncode_9a6ad 16 = .ok (.ireturn, 1) := by decide +kernel
theorem dJ1_indexOf_4cfef_0 : decode cJ1_indexOf_4cfef 0 = .ok (.iload_n 1, 1) := by decide +kernel
theorem dJ1_indexOf_4cfef_1 : decode cJ1_indexOf_4cfef 1 = .ok (.invokestatic 88, 3) := by decide +kernel
theorem dJ1_indexOf_4cfef_4 : decode cJ1_indexOf_4cfef 4 = .ok (.ifCond .ne 5, 3) := by decide +kernel
theorem dJ1_indexOf_4cfef_7 : decode cJ1_indexOf_4cfef 7 = .ok (.iconst (-1), 1) := by decide +kernel
theorem dJ1_indexOf_4cfef_8 : decode cJ1_indexOf_4cfef 8 = .ok (.ireturn, 1) := by decide +kernel
theorem dJ1_indexOf_4cfef_9 : decode cJ1_indexOf_4cfef 9 = .ok (.iload_n 2, 1) := by decide +kernel
theorem dJ1_indexOf_4cfef_10 : decode cJ1_indexOf_4cfef 10 = .ok (.iconst 0, 1) := by decide +kernel
theorem dJ1_indexOf_4cfef_11 : decode cJ1_indexOf_4cfef 11 = .ok (.invokestatic 92, 3) := by decide +kernel
theorem dJ1_indexOf_4cfef_14 : decode cJ1_indexOf_4cfef 14 = .ok (.istore_n 2, 1) := by decide +kernel
theorem dJ1_indexOf_4cfef_15 : decode cJ1_indexOf_4cfef 15 = .ok (.iload_n 3, 1) := by decide +kernel
theorem dJ1_indexOf_4cfef_16 : decode cJ1_indexOf_4cfef 16 = .ok (.aload_n 0, 1) := by decide +kernel
theorem dJ1_indexOf_4cfef_17 : decode cJ1_indexOf_4cfef 17 = .ok (.arraylength, 1) := by decide +kernel
theorem dJ1_indexOf_4cfef_18 : decode cJ1_indexOf_4cfef 18 = .ok (.invokestatic 38, 3) := by decide +kernel
theorem dJ1_indexOf_4cfef_21 : decode cJ1_indexOf_4cfef 21 = .ok (.istore_n 3, 1) := by decide +kernel
theorem dJ1_indexOf_4cfef_22 : decode cJ1_indexOf_4cfef 22 = .ok (.iload_n 2, 1) := by decide +kernel
theorem dJ1_indexOf_4cfef_23 : decode cJ1_indexOf_4cfef 23 = .ok (.iload_n 3, 1) := by decide +kernel
theorem dJ1_indexOf_4cfef_24 : decode cJ1_indexOf_4cfef 24 = .ok (.if_icmp .lt 5, 3) := by decide +kernel
theorem dJ1_indexOf_4cfef_27 : decode cJ1_indexOf_4cfef 27 = .ok (.iconst (-1), 1) := by decide +kernel
theorem dJ1_indexOf_4cfef_28 : decode cJ1_indexOf_4cfef 28 = .ok (.ireturn, 1) := by decide +kernel
theorem dJ1_indexOf_4cfef_29 : decode cJ1_indexOf_4cfef 29 = .ok (.aload_n 0, 1) := by decide +kernel
theorem dJ1_indexOf_4cfef_30 : decode cJ1_indexOf_4cfef 30 = .ok (.iload_n 1, 1) := by decide +kernel
theorem dJ1_indexOf_4cfef_31 : decode cJ1_indexOf_4cfef 31 = .ok (.iload_n 2, 1) := by decide +kernel
theorem dJ1_indexOf_4cfef_32 : decode cJ1_indexOf_4cfef 32 = .ok (.iload_n 3, 1) := by decide +kernel
theorem dJ1_indexOf_4cfef_33 : decode cJ1_indexOf_4cfef 33 = .ok (.invokestatic 95, 3) := by decide +kernel
theorem dJ1_indexOf_4cfef_36 : decode cJ1_indexOf_4cfef 36 = .ok (.ireturn, 1) := by decide +kernel
theorem dJ1_indexOfChar_4cfef_0 : decode cJ1_indexOfChar_4cfef 0 = .ok (.iload_n 1, 1) := by decide +kernel
theorem dJ1_indexOfChar_4cfef_1 : decode cJ1_indexOfChar_4cfef 1 = .ok (.i2b, 1) := by decide +kernel
theorem dJ1_indexOfChar_4cfef_2 : decode cJ1_indexOfChar_4cfef 2 = .ok (.istore 4, 2) := by decide +kernel
theorem dJ1_indexOfChar_4cfef_4 : decode cJ1_indexOfChar_4cfef 4 = .ok (.iload_n 2, 1) := by decide +kernel
theorem dJ1_indexOfChar_4cfef_5 : decode cJ1_indexOfChar_4cfef 5 = .ok (.istore 5, 2) := by decide +kernel
theorem dJ1_indexOfChar_4cfef_7 : decode cJ1_indexOfChar_4cfef 7 = .ok (.iload 5, 2) := by decide +kernel
theorem dJ1_indexOfChar_4cfef_9 : decode cJ1_indexOfChar_4cfef 9 = .ok (.iload_n 3, 1) := by decide +kernel
theorem dJ1_indexOfChar_4cfef_10 : decode cJ1_indexOfChar_4cfef 10 = .ok (.if_icmp .ge 21, 3) := by decide +kernel
theorem dJ1_indexOfChar_4cfef_13 : decode cJ1_indexOfChar_4cfef 13 = .ok (.aload_n 0, 1) := by decide +kernel
theorem dJ1_indexOfChar_4cfef_14 : decode cJ1_indexOfChar_4cfef 14 = .ok (.iload 5, 2) := by decide +kernel
theorem dJ1_indexOfChar_4cfef_16 : decode cJ1_indexOfChar_4cfef 16 = .ok (.baload, 1) := by decide +kernel
theorem dJ1_indexOfChar_4cfef_17 : decode cJ1_indexOfChar_4cfef 17 = .ok (.iload 4, 2) := by decide +kernel
theorem dJ1_indexOfChar_4cfef_19 : decode cJ1_indexOfChar_4cfef 19 = .ok (.if_icmp .ne 6, 3) := by decide +kernel
theorem dJ1_indexOfChar_4cfef_22 : decode cJ1_indexOfChar_4cfef 22 = .ok (.iload 5, 2) := by decide +kernel
theorem dJ1_indexOfChar_4cfef_24 : decode cJ1_indexOfChar_4cfef 24 = .ok (.ireturn, 1) := by decide +kernel
theorem dJ1_indexOfChar_4cfef_25 : decode cJ1_indexOfChar_4cfef 25 = .ok (.iinc 5 1, 3) := by decide +kernel
theorem dJ1_indexOfChar_4cfef_28 : decode cJ1_indexOfChar_4cfef 28 = .ok (.goto (-21), 3) := by decide +kernel
theorem dJ1_indexOfChar_4cfef_31 : decode cJ1_indexOfChar_4cfef 31 = .ok (.iconst (-1), 1) := by decide +kernel
theorem dJ1_indexOfChar_4cfef_32 : decode cJ1_indexOfChar_4cfef 32 = .ok (.ireturn, 1) := by decide +kernel
theorem dJ7_fill_53178_0 : decode cJ7_fill_53178 0 = .ok (.iconst 0, 1) := by decide +kernel
theorem dJ7_fill_53178_1 : decode cJ7_fill_53178 1 = .ok (.istore_n 2, 1) := by decide +kernel
theorem dJ7_fill_53178_2 : decode cJ7_fill_53178 2 = .ok (.aload_n 0, 1) := by decide +kernel
theorem dJ7_fill_53178_3 : decode cJ7_fill_53178 3 = .ok (.arraylength, 1) := by decide +kernel
theorem dJ7_fill_53178_4 : decode cJ7_fill_53178 4 = .ok (.istore_n 3, 1) := by decide +kernel
theorem dJ7_fill_53178_5 : decode cJ7_fill_53178 5 = .ok (.iload_n 2, 1) := by decide +kernel
theorem dJ7_fill_53178_6 : decode cJ7_fill_53178 6 = .ok (.iload_n 3, 1) := by decide +kernel
theorem dJ7_fill_53178_7 : decode cJ7_fill_53178 7 = .ok (.if_icmp .ge 13, 3) := by decide +kernel
theorem dJ7_fill_53178_10 : decode cJ7_fill_53178 10 = .ok (.aload_n 0, 1) := by decide +kernel
theorem dJ7_fill_53178_11 : decode cJ7_fill_53178 11 = .ok (.iload_n 2, 1) := by decide +kernel
theorem dJ7_fill_53178_12 : decode cJ7_fill_53178 12 = .ok (.iload_n 1, 1) := by decide +kernel
theorem dJ7_fill_53178_13 : decode cJ7_fill_53178 13 = .ok (.iastore, 1) := by decide +kernel
theorem dJ7_fill_53178_14 : decode cJ7_fill_53178 14 = .ok (.iinc 2 1, 3) := by decide +kernel
theorem dJ7_fill_53178_17 : decode cJ7_fill_53178 17 = .ok (.goto (-12), 3) := by decide +kernel
theorem dJ7_fill_53178_20 : decode cJ7_fill_53178 20 = .ok (.return_, 1) := by decide +kernel
theorem dL_law_0 : decode cL_law 0 = .ok (.new 7, 3) := by decide +kernel
theorem dL_law_3 : decode cL_law 3 = .ok (.dup, 1) := by decide +kernel
theorem dL_law_4 : decode cL_law 4 = .ok (.invokespecial 9, 3) := by decide +kernel
theorem dL_law_7 : decode cL_law 7 = .ok (.astore_n 1, 1) := by decide +kernel
theorem dL_law_8 : decode cL_law 8 = .ok (.new 10, 3) := by decide +kernel
theorem dL_law_11 : decode cL_law 11 = .ok (.dup, 1) := by decide +kernel
theorem dL_law_12 : decode cL_law 12 = .ok (.invokespecial 12, 3) := by decide +kernel
theorem dL_law_15 : decode cL_law 15 = .ok (.astore_n 2, 1) := by decide +kernel
theorem dL_law_16 : decode cL_law 16 = .ok (.iconst 0, 1) := by decide +kernel
theorem dL_law_17 : decode cL_law 17 = .ok (.istore_n 3, 1) := by decide +kernel
theorem dL_law_18 : decode cL_law 18 = .ok (.iload_n 3, 1) := by decide +kernel
theorem dL_law_19 : decode cL_law 19 = .ok (.aload_n 0, 1) := by decide +kernel
theorem dL_law_20 : decode cL_law 20 = .ok (.arraylength, 1) := by decide +kernel
theorem dL_law_21 : decode cL_law 21 = .ok (.iconst 4, 1) := by decide +kernel
theorem dL_law_22 : decode cL_law 22 = .ok (.isub, 1) := by decide +kernel
theorem dL_law_23 : decode cL_law 23 = .ok (.if_icmp .gt 1072, 3) := by decide +kernel
theorem dL_law_26 : decode cL_law 26 = .ok (.aload_n 0, 1) := by decide +kernel
theorem dL_law_27 : decode cL_law 27 = .ok (.iload_n 3, 1) := by decide +kernel
theorem dL_law_28 : decode cL_law 28 = .ok (.iaload, 1) := by decide +kernel
theorem dL_law_29 : decode cL_law 29 = .ok (.bipush 31, 2) := by decide +kernel
theorem dL_law_31 : decode cL_law 31 = .ok (.iand, 1) := by decide +kernel
theorem dL_law_32 : decode cL_law 32 = .ok (.tableswitch 1057 0 30 #[140, 163, 176, 189, 202, 225, 258, 291, 324, 357, 380, 413, 426, 469, 493, 517, 541, 565, 598, 631, 664, 703, 766, 799, 812, 826, 875, 934, 988, 1011, 1034], 140) := by decide +kernel
theorem dL_law_172 : decode cL_law 172 = .ok (.aload_n 1, 1) := by decide +kernel
theorem dL_law_173 : decode cL_law 173 = .ok (.aload_n 0, 1) := by decide +kernel
theorem dL_law_174 : decode cL_law 174 = .ok (.iload_n 3, 1) := by decide +kernel
theorem dL_law_175 : decode cL_law 175 = .ok (.iconst 1, 1) := by decide +kernel
theorem dL_law_176 : decode cL_law 176 = .ok (.iadd, 1) := by decide +kernel
theorem dL_law_177 : decode cL_law 177 = .ok (.iaload, 1) := by decide +kernel
theorem dL_law_178 : decode cL_law 178 = .ok (.invokevirtual 13, 3) := by decide +kernel
theorem dL_law_181 : decode cL_law 181 = .ok (.aload_n 2, 1) := by decide +kernel
theorem dL_law_182 : decode cL_law 182 = .ok (.aload_n 0, 1) := by decide +kernel
theorem dL_law_183 : decode cL_law 183 = .ok (.iload_n 3, 1) := by decide +kernel
theorem dL_law_184 : decode cL_law 184 = .ok (.iconst 1, 1) := by decide +kernel
theorem dL_law_185 : decode cL_law 185 = .ok (.iadd, 1) := by decide +kernel
theorem dL_law_186 : decode cL_law 186 = .ok (.iaload, 1) := by decide +kernel
theorem dL_law_187 : decode cL_law 187 = .ok (.invokevirtual 17, 3) := by decide +kernel
theorem dL_law_190 : decode cL_law 190 = .ok (.if_icmp .eq 899, 3) := by decide +kernel
theorem dL_law_193 : decode cL_law 193 = .ok (.iconst 0, 1) := by decide +kernel
theorem dL_law_194 : decode cL_law 194 = .ok (.ireturn, 1) := by decide +kernel
theorem dL_law_195 : decode cL_law 195 = .ok (.aload_n 1, 1) := by decide +kernel
theorem dL_law_196 : decode cL_law 196 = .ok (.invokevirtual 18, 3) := by decide +kernel
theorem dL_law_199 : decode cL_law 199 = .ok (.aload_n 2, 1) := by decide +kernel
theorem dL_law_200 : decode cL_law 200 = .ok (.invokevirtual 22, 3) := by decide +kernel
theorem dL_law_203 : decode cL_law 203 = .ok (.if_icmp .eq 886, 3) := by decide +kernel
theorem dL_law_206 : decode cL_law 206 = .ok (.iconst 0, 1) := by decide +kernel
theorem dL_law_207 : decode cL_law 207 = .ok (.ireturn, 1) := by decide +kernel
theorem dL_law_208 : decode cL_law 208 = .ok (.aload_n 1, 1) := by decide +kernel
theorem dL_law_209 : decode cL_law 209 = .ok (.invokevirtual 23, 3) := by decide +kernel
theorem dL_law_212 : decode cL_law 212 = .ok (.aload_n 2, 1) := by decide +kernel
theorem dL_law_213 : decode cL_law 213 = .ok (.invokevirtual 26, 3) := by decide +kernel
theorem dL_law_216 : decode cL_law 216 = .ok (.if_icmp .eq 873, 3) := by decide +kernel
theorem dL_law_219 : decode cL_law 219 = .ok (.iconst 0, 1) := by decide +kernel
theorem dL_law_220 : decode cL_law 220 = .ok (.ireturn, 1) := by decide +kernel
theorem dL_law_221 : decode cL_law 221 = .ok (.aload_n 1, 1) := by decide +kernel
theorem dL_law_222 : decode cL_law 222 = .ok (.invokevirtual 27, 3) := by decide +kernel
theorem dL_law_225 : decode cL_law 225 = .ok (.aload_n 2, 1) := by decide +kernel
theorem dL_law_226 : decode cL_law 226 = .ok (.invokevirtual 30, 3) := by decide +kernel
theorem dL_law_229 : decode cL_law 229 = .ok (.if_icmp .eq 860, 3) := by decide +kernel
theorem dL_law_232 : decode cL_law 232 = .ok (.iconst 0, 1) := by decide +kernel
theorem dL_law_233 : decode cL_law 233 = .ok (.ireturn, 1) := by decide +kernel
theorem dL_law_234 : decode cL_law 234 = .ok (.aload_n 1, 1) := by decide +kernel
theorem dL_law_235 : decode cL_law 235 = .ok (.aload_n 0, 1) := by decide +kernel
theorem dL_law_236 : decode cL_law 236 = .ok (.iload_n 3, 1) := by decide +kernel
theorem dL_law_237 : decode cL_law 237 = .ok (.iconst 1, 1) := by decide +kernel
theorem dL_law_238 : decode cL_law 238 = .ok (.iadd, 1) := by decide +kernel
theorem dL_law_239 : decode cL_law 239 = .ok (.iaload, 1) := by decide +kernel
theorem dL_law_240 : decode cL_law 240 = .ok (.invokevirtual 31, 3) := by decide +kernel
theorem dL_law_243 : decode cL_law 243 = .ok (.aload_n 2, 1) := by decide +kernel
theorem dL_law_244 : decode cL_law 244 = .ok (.aload_n 0, 1) := by decide +kernel
theorem dL_law_245 : decode cL_law 245 = .ok (.iload_n 3, 1) := by decide +kernel
theorem dL_law_246 : decode cL_law 246 = .ok (.iconst 1, 1) := by decide +kernel
theorem dL_law_247 : decode cL_law 247 = .ok (.iadd, 1) := by decide +kernel
theorem dL_law_248 : decode cL_law 248 = .ok (.iaload, 1) := by decide +kernel
theorem dL_law_249 : decode cL_law 249 = .ok (.invokevirtual 34, 3) := by decide +kernel
theorem dL_law_252 : decode cL_law 252 = .ok (.if_icmp .eq 837, 3) := by decide +kernel
theorem dL_law_255 : decode cL_law 255 = .ok (.iconst 0, 1) := by decide +kernel
theorem dL_law_256 : decode cL_law 256 = .ok (.ireturn, 1) := by decide +kernel
theorem dL_law_257 : decode cL_law 257 = .ok (.aload_n 1, 1) := by decide +kernel
theorem dL_law_258 : decode cL_law 258 = .ok (.aload_n 0, 1) := by decide +kernel
theorem dL_law_259 : decode cL_law 259 = .ok (.iload_n 3, 1) := by decide +kernel
theorem dL_law_260 : decode cL_law 260 = .ok (.iconst 1, 1) := by decide +kernel
theorem dL_law_261 : decode cL_law 261 = .ok (.iadd, 1) := by decide +kernel
theorem dL_law_262 : decode cL_law 262 = .ok (.iaload, 1) := by decide +kernel
theorem dL_law_263 : decode cL_law 263 = .ok (.aload_n 0, 1) := by decide +kernel
theorem dL_law_264 : decode cL_law 264 = .ok (.iload_n 3, 1) := by decide +kernel
theorem dL_law_265 : decode cL_law 265 = .ok (.iconst 2, 1) := by decide +kernel
theorem dL_law_266 : decode cL_law 266 = .ok (.iadd, 1) := by decide +kernel
theorem dL_law_267 : decode cL_law 267 = .ok (.iaload, 1) := by decide +kernel
theorem dL_law_268 : decode cL_law 268 = .ok (.invokevirtual 35, 3) := by decide +kernel
theorem dL_law_271 : decode cL_law 271 = .ok (.aload_n 2, 1) := by decide +kernel
theorem dL_law_272 : decode cL_law 272 = .ok (.aload_n 0, 1) := by decide +kernel
theorem dL_law_273 : decode cL_law 273 = .ok (.iload_n 3, 1) := by decide +kernel
theorem dL_law_274 : decode cL_law 274 = .ok (.iconst 1, 1) := by decide +kernel
theorem dL_law_275 : decode cL_law 275 = .ok (.iadd, 1) := by decide +kernel
theorem dL_law_276 : decode cL_law 276 = .ok (.iaload, 1) := by decide +kernel
theorem dL_law_277 : decode cL_law 277 = .ok (.aload_n 0, 1) := by decide +kernel
theorem dL_law_278 : decode cL_law 278 = .ok (.iload_n 3, 1) := by decide +kernel
theorem dL_law_279 : decode cL_law 279 = .ok (.iconst 2, 1) := by decide +kernel
theorem dL_law_280 : decode cL_law 280 = .ok (.iadd, 1) := by decide +kernel
theorem dL_law_281 : decode cL_law 281 = .ok (.iaload, 1) := by decide +kernel
theorem dL_law_282 : decode cL_law 282 = .ok (.invokevirtual 39, 3) := by decide +kernel
theorem dL_law_285 : decode cL_law 285 = .ok (.if_icmp .eq 804, 3) := by decide +kernel
theorem dL_law_288 : decode cL_law 288 = .ok (.iconst 0, 1) := by decide +kernel
theorem dL_law_289 : decode cL_law 289 = .ok (.ireturn, 1) := by decide +kernel
theorem dL_law_290 : decode cL_law 290 = .ok (.aload_n 1, 1) := by decide +kernel
theorem dL_law_291 : decode cL_law 291 = .ok (.aload_n 0, 1) := by decide +kernel
theorem dL_law_292 : decode cL_law 292 = .ok (.iload_n 3, 1) := by decide +kernel
theorem dL_law_293 : decode cL_law 293 = .ok (.iconst 1, 1) := by decide +kernel
theorem dL_law_294 : decode cL_law 294 = .ok (.iadd, 1) := by decide +kernel
theorem dL_law_295 : decode cL_law 295 = .ok (.iaload, 1) := by decide +kernel
theorem dL_law_296 : decode cL_law 296 = .ok (.aload_n 0, 1) := by decide +kernel
theorem dL_law_297 : decode cL_law 297 = .ok (.iload_n 3, 1) := by decide +kernel
theorem dL_law_298 : decode cL_law 298 = .ok (.iconst 2, 1) := by decide +kernel
theorem dL_law_299 : decode cL_law 299 = .ok (.iadd, 1) := by decide +kernel
theorem dL_law_300 : decode cL_law 300 = .ok (.iaload, 1) := by decide +kernel
theorem dL_law_301 : decode cL_law 301 = .ok (.invokevirtual 40, 3) := by decide +kernel
theorem dL_law_304 : decode cL_law 304 = .ok (.aload_n 2, 1) := by decide +kernel
theorem dL_law_305 : decode cL_law 305 = .ok (.aload_n 0, 1) := by decide +kernel
theorem dL_law_306 : decode cL_law 306 = .ok (.iload_n 3, 1) := by decide +kernel
theorem dL_law_307 : decode cL_law 307 = .ok (.iconst 1, 1) := by decide +kernel
theorem dL_law_308 : decode cL_law 308 = .ok (.iadd, 1) := by decide +kernel
theorem dL_law_309 : decode cL_law 309 = .ok (.iaload, 1) := by decide +kernel
theorem dL_law_310 : decode cL_law 310 = .ok (.aload_n 0, 1) := by decide +kernel
theorem dL_law_311 : decode cL_law 311 = .ok (.iload_n 3, 1) := by decide +kernel
theorem dL_law_312 : decode cL_law 312 = .ok (.iconst 2, 1) := by decide +kernel
theorem dL_law_313 : decode cL_law 313 = .ok (.iadd, 1) := by decide +kernel
theorem dL_law_314 : decode cL_law 314 = .ok (.iaload, 1) := by decide +kernel
theorem dL_law_315 : decode cL_law 315 = .ok (.invokevirtual 43, 3) := by decide +kernel
theorem dL_law_318 : decode cL_law 318 = .ok (.if_icmp .eq 771, 3) := by decide +kernel
theorem dL_law_321 : decode cL_law 321 = .ok (.iconst 0, 1) := by decide +kernel
theorem dL_law_322 : decode cL_law 322 = .ok (.ireturn, 1) := by decide +kernel
theorem dL_law_323 : decode cL_law 323 = .ok (.aload_n 1, 1) := by decide +kernel
theorem dL_law_324 : decode cL_law 324 = .ok (.aload_n 0, 1) := by decide +kernel
theorem dL_law_325 : decode cL_law 325 = .ok (.iload_n 3, 1) := by decide +kernel
theorem dL_law_326 : decode cL_law 326 = .ok (.iconst 1, 1) := by decide +kernel
theorem dL_law_327 : decode cL_law 327 = .ok (.iadd, 1) := by decide +kernel
theorem dL_law_328 : decode cL_law 328 = .ok (.iaload, 1) := by decide +kernel
theorem dL_law_329 : decode cL_law 329 = .ok (.aload_n 0, 1) := by decide +kernel
theorem dL_law_330 : decode cL_law 330 = .ok (.iload_n 3, 1) := by decide +kernel
theorem dL_law_331 : decode cL_law 331 = .ok (.iconst 2, 1) := by decide +kernel
theorem dL_law_332 : decode cL_law 332 = .ok (.iadd, 1) := by decide +kernel
theorem dL_law_333 : decode cL_law 333 = .ok (.iaload, 1) := by decide +kernel
theorem dL_law_334 : decode cL_law 334 = .ok (.invokevirtual 44, 3) := by decide +kernel
theorem dL_law_337 : decode cL_law 337 = .ok (.aload_n 2, 1) := by decide +kernel
theorem dL_law_338 : decode cL_law 338 = .ok (.aload_n 0, 1) := by decide +kernel
theorem dL_law_339 : decode cL_law 339 = .ok (.iload_n 3, 1) := by decide +kernel
theorem dL_law_340 : decode cL_law 340 = .ok (.iconst 1, 1) := by decide +kernel
theorem dL_law_341 : decode cL_law 341 = .ok (.iadd, 1) := by decide +kernel
theorem dL_law_342 : decode cL_law 342 = .ok (.iaload, 1) := by decide +kernel
theorem dL_law_343 : decode cL_law 343 = .ok (.aload_n 0, 1) := by decide +kernel
theorem dL_law_344 : decode cL_law 344 = .ok (.iload_n 3, 1) := by decide +kernel
theorem dL_law_345 : decode cL_law 345 = .ok (.iconst 2, 1) := by decide +kernel
theorem dL_law_346 : decode cL_law 346 = .ok (.iadd, 1) := by decide +kernel
theorem dL_law_347 : decode cL_law 347 = .ok (.iaload, 1) := by decide +kernel
theorem dL_law_348 : decode cL_law 348 = .ok (.invokevirtual 47, 3) := by decide +kernel
theorem dL_law_351 : decode cL_law 351 = .ok (.if_icmp .eq 738, 3) := by decide +kernel
theorem dL_law_354 : decode cL_law 354 = .ok (.iconst 0, 1) := by decide +kernel
theorem dL_law_355 : decode cL_law 355 = .ok (.ireturn, 1) := by decide +kernel
theorem dL_law_356 : decode cL_law 356 = .ok (.aload_n 1, 1) := by decide +kernel
theorem dL_law_357 : decode cL_law 357 = .ok (.aload_n 0, 1) := by decide +kernel
theorem dL_law_358 : decode cL_law 358 = .ok (.iload_n 3, 1) := by decide +kernel
theorem dL_law_359 : decode cL_law 359 = .ok (.iconst 1, 1) := by decide +kernel
theorem dL_law_360 : decode cL_law 360 = .ok (.iadd, 1) := by decide +kernel
theorem dL_law_361 : decode cL_law 361 = .ok (.iaload, 1) := by decide +kernel
theorem dL_law_362 : decode cL_law 362 = .ok (.aload_n 0, 1) := by decide +kernel
theorem dL_law_363 : decode cL_law 363 = .ok (.iload_n 3, 1) := by decide +kernel
theorem dL_law_364 : decode cL_law 364 = .ok (.iconst 2, 1) := by decide +kernel
theorem dL_law_365 : decode cL_law 365 = .ok (.iadd, 1) := by decide +kernel
theorem dL_law_366 : decode cL_law 366 = .ok (.iaload, 1) := by decide +kernel
theorem dL_law_367 : decode cL_law 367 = .ok (.invokevirtual 48, 3) := by decide +kernel
theorem dL_law_370 : decode cL_law 370 = .ok (.aload_n 2, 1) := by decide +kernel
theorem dL_law_371 : decode cL_law 371 = .ok (.aload_n 0, 1) := by decide +kernel
theorem dL_law_372 : decode cL_law 372 = .ok (.iload_n 3, 1) := by decide +kernel
theorem dL_law_373 : decode cL_law 373 = .ok (.iconst 1, 1) := by decide +kernel
theorem dL_law_374 : decode cL_law 374 = .ok (.iadd, 1) := by decide +kernel
theorem dL_law_375 : decode cL_law 375 = .ok (.iaload, 1) := by decide +kernel
theorem dL_law_376 : decode cL_law 376 = .ok (.aload_n 0, 1) := by decide +kernel
theorem dL_law_377 : decode cL_law 377 = .ok (.iload_n 3, 1) := by decide +kernel
theorem dL_law_378 : decode cL_law 378 = .ok (.iconst 2, 1) := by decide +kernel
theorem dL_law_379 : decode cL_law 379 = .ok (.iadd, 1) := by decide +kernel
theorem dL_law_380 : decode cL_law 380 = .ok (.iaload, 1) := by decide +kernel
theorem dL_law_381 : decode cL_law 381 = .ok (.invokevirtual 51, 3) := by decide +kernel
theorem dL_law_384 : decode cL_law 384 = .ok (.if_icmp .eq 705, 3) := by decide +kernel
theorem dL_law_387 : decode cL_law 387 = .ok (.iconst 0, 1) := by decide +kernel
theorem dL_law_388 : decode cL_law 388 = .ok (.ireturn, 1) := by decide +kernel
theorem dL_law_389 : decode cL_law 389 = .ok (.aload_n 1, 1) := by decide +kernel
theorem dL_law_390 : decode cL_law 390 = .ok (.aload_n 0, 1) := by decide +kernel
theorem dL_law_391 : decode cL_law 391 = .ok (.iload_n 3, 1) := by decide +kernel
theorem dL_law_392 : decode cL_law 392 = .ok (.iconst 1, 1) := by decide +kernel
theorem dL_law_393 : decode cL_law 393 = .ok (.iadd, 1) := by decide +kernel
theorem dL_law_394 : decode cL_law 394 = .ok (.iaload, 1) := by decide +kernel
theorem dL_law_395 : decode cL_law 395 = .ok (.invokevirtual 52, 3) := by decide +kernel
theorem dL_law_398 : decode cL_law 398 = .ok (.aload_n 2, 1) := by decide +kernel
theorem dL_law_399 : decode cL_law 399 = .ok (.aload_n 0, 1) := by decide +kernel
theorem dL_law_400 : decode cL_law 400 = .ok (.iload_n 3, 1) := by decide +kernel
theorem dL_law_401 : decode cL_law 401 = .ok (.iconst 1, 1) := by decide +kernel
theorem dL_law_402 : decode cL_law 402 = .ok (.iadd, 1) := by decide +kernel
theorem dL_law_403 : decode cL_law 403 = .ok (.iaload, 1) := by decide +kernel
theorem dL_law_404 : decode cL_law 404 = .ok (.invokevirtual 55, 3) := by decide +kernel
theorem dL_law_407 : decode cL_law 407 = .ok (.if_icmp .eq 682, 3) := by decide +kernel
theorem dL_law_410 : decode cL_law 410 = .ok (.iconst 0, 1) := by decide +kernel
theorem dL_law_411 : decode cL_law 411 = .ok (.ireturn, 1) := by decide +kernel
theorem dL_law_412 : decode cL_law 412 = .ok (.aload_n 1, 1) := by decide +kernel
theorem dL_law_413 : decode cL_law 413 = .ok (.aload_n 0, 1) := by decide +kernel
theorem dL_law_414 : decode cL_law 414 = .ok (.iload_n 3, 1) := by decide +kernel
theorem dL_law_415 : decode cL_law 415 = .ok (.iconst 1, 1) := by decide +kernel
theorem dL_law_416 : decode cL_law 416 = .ok (.iadd, 1) := by decide +kernel
theorem dL_law_417 : decode cL_law 417 = .ok (.iaload, 1) := by decide +kernel
theorem dL_law_418 : decode cL_law 418 = .ok (.aload_n 0, 1) := by decide +kernel
theorem dL_law_419 : decode cL_law 419 = .ok (.iload_n 3, 1) := by decide +kernel
theorem dL_law_420 : decode cL_law 420 = .ok (.iconst 2, 1) := by decide +kernel
theorem dL_law_421 : decode cL_law 421 = .ok (.iadd, 1) := by decide +kernel
theorem dL_law_422 : decode cL_law 422 = .ok (.iaload, 1) := by decide +kernel
theorem dL_law_423 : decode cL_law 423 = .ok (.invokevirtual 56, 3) := by decide +kernel
theorem dL_law_426 : decode cL_law 426 = .ok (.aload_n 2, 1) := by decide +kernel
theorem dL_law_427 : decode cL_law 427 = .ok (.aload_n 0, 1) := by decide +kernel
theorem dL_law_428 : decode cL_law 428 = .ok (.iload_n 3, 1) := by decide +kernel
theorem dL_law_429 : decode cL_law 429 = .ok (.iconst 1, 1) := by decide +kernel
theorem dL_law_430 : decode cL_law 430 = .ok (.iadd, 1) := by decide +kernel
theorem dL_law_431 : decode cL_law 431 = .ok (.iaload, 1) := by decide +kernel
theorem dL_law_432 : decode cL_law 432 = .ok (.aload_n 0, 1) := by decide +kernel
theorem dL_law_433 : decode cL_law 433 = .ok (.iload_n 3, 1) := by decide +kernel
theorem dL_law_434 : decode cL_law 434 = .ok (.iconst 2, 1) := by decide +kernel
theorem dL_law_435 : decode cL_law 435 = .ok (.iadd, 1) := by decide +kernel
theorem dL_law_436 : decode cL_law 436 = .ok (.iaload, 1) := by decide +kernel
theorem dL_law_437 : decode cL_law 437 = .ok (.invokevirtual 59, 3) := by decide +kernel
theorem dL_law_440 : decode cL_law 440 = .ok (.if_icmp .eq 649, 3) := by decide +kernel
theorem dL_law_443 : decode cL_law 443 = .ok (.iconst 0, 1) := by decide +kernel
theorem dL_law_444 : decode cL_law 444 = .ok (.ireturn, 1) := by decide +kernel
theorem dL_law_445 : decode cL_law 445 = .ok (.aload_n 1, 1) := by decide +kernel
theorem dL_law_446 : decode cL_law 446 = .ok (.invokevirtual 60, 3) := by decide +kernel
theorem dL_law_449 : decode cL_law 449 = .ok (.aload_n 2, 1) := by decide +kernel
theorem dL_law_450 : decode cL_law 450 = .ok (.invokevirtual 63, 3) := by decide +kernel
theorem dL_law_453 : decode cL_law 453 = .ok (.if_icmp .eq 636, 3) := by decide +kernel
theorem dL_law_456 : decode cL_law 456 = .ok (.iconst 0, 1) := by decide +kernel
theorem dL_law_457 : decode cL_law 457 = .ok (.ireturn, 1) := by decide +kernel
theorem dL_law_458 : decode cL_law 458 = .ok (.aload_n 1, 1) := by decide +kernel
theorem dL_law_459 : decode cL_law 459 = .ok (.aload_n 0, 1) := by decide +kernel
theorem dL_law_460 : decode cL_law 460 = .ok (.iload_n 3, 1) := by decide +kernel
theorem dL_law_461 : decode cL_law 461 = .ok (.iconst 1, 1) := by decide +kernel
theorem dL_law_462 : decode cL_law 462 = .ok (.iadd, 1) := by decide +kernel
theorem dL_law_463 : decode cL_law 463 = .ok (.iaload, 1) := by decide +kernel
theorem dL_law_464 : decode cL_law 464 = .ok (.aload_n 0, 1) := by decide +kernel
theorem dL_law_465 : decode cL_law 465 = .ok (.iload_n 3, 1) := by decide +kernel
theorem dL_law_466 : decode cL_law 466 = .ok (.iconst 2, 1) := by decide +kernel
theorem dL_law_467 : decode cL_law 467 = .ok (.iadd, 1) := by decide +kernel
theorem dL_law_468 : decode cL_law 468 = .ok (.iaload, 1) := by decide +kernel
theorem dL_law_469 : decode cL_law 469 = .ok (.aload_n 0, 1) := by decide +kernel
theorem dL_law_470 : decode cL_law 470 = .ok (.iload_n 3, 1) := by decide +kernel
theorem dL_law_471 : decode cL_law 471 = .ok (.iconst 3, 1) := by decide +kernel
theorem dL_law_472 : decode cL_law 472 = .ok (.iadd, 1) := by decide +kernel
theorem dL_law_473 : decode cL_law 473 = .ok (.iaload, 1) := by decide +kernel
theorem dL_law_474 : decode cL_law 474 = .ok (.invokevirtual 64, 3) := by decide +kernel
theorem dL_law_477 : decode cL_law 477 = .ok (.aload_n 2, 1) := by decide +kernel
theorem dL_law_478 : decode cL_law 478 = .ok (.aload_n 0, 1) := by decide +kernel
theorem dL_law_479 : decode cL_law 479 = .ok (.iload_n 3, 1) := by decide +kernel
theorem dL_law_480 : decode cL_law 480 = .ok (.iconst 1, 1) := by decide +kernel
theorem dL_law_481 : decode cL_law 481 = .ok (.iadd, 1) := by decide +kernel
theorem dL_law_482 : decode cL_law 482 = .ok (.iaload, 1) := by decide +kernel
theorem dL_law_483 : decode cL_law 483 = .ok (.aload_n 0, 1) := by decide +kernel
theorem dL_law_484 : decode cL_law 484 = .ok (.iload_n 3, 1) := by decide +kernel
theorem dL_law_485 : decode cL_law 485 = .ok (.iconst 2, 1) := by decide +kernel
theorem dL_law_486 : decode cL_law 486 = .ok (.iadd, 1) := by decide +kernel
theorem dL_law_487 : decode cL_law 487 = .ok (.iaload, 1) := by decide +kernel
theorem dL_law_488 : decode cL_law 488 = .ok (.aload_n 0, 1) := by decide +kernel
theorem dL_law_489 : decode cL_law 489 = .ok (.iload_n 3, 1) := by decide +kernel
theorem dL_law_490 : decode cL_law 490 = .ok (.iconst 3, 1) := by decide +kernel
theorem dL_law_491 : decode cL_law 491 = .ok (.iadd, 1) := by decide +kernel
theorem dL_law_492 : decode cL_law 492 = .ok (.iaload, 1) := by decide +kernel
theorem dL_law_493 : decode cL_law 493 = .ok (.invokevirtual 68, 3) := by decide +kernel
theorem dL_law_496 : decode cL_law 496 = .ok (.if_icmp .eq 593, 3) := by decide +kernel
theorem dL_law_499 : decode cL_law 499 = .ok (.iconst 0, 1) := by decide +kernel
theorem dL_law_500 : decode cL_law 500 = .ok (.ireturn, 1) := by decide +kernel
theorem dL_law_501 : decode cL_law 501 = .ok (.aload_n 1, 1) := by decide +kernel
theorem dL_law_502 : decode cL_law 502 = .ok (.aload_n 0, 1) := by decide +kernel
theorem dL_law_503 : decode cL_law 503 = .ok (.iload_n 3, 1) := by decide +kernel
theorem dL_law_504 : decode cL_law 504 = .ok (.iconst 1, 1) := by decide +kernel
theorem dL_law_505 : decode cL_law 505 = .ok (.iadd, 1) := by decide +kernel
theorem dL_law_506 : decode cL_law 506 = .ok (.iaload, 1) := by decide +kernel
theorem dL_law_507 : decode cL_law 507 = .ok (.invokevirtual 69, 3) := by decide +kernel
theorem dL_law_510 : decode cL_law 510 = .ok (.aload_n 2, 1) := by decide +kernel
theorem dL_law_511 : decode cL_law 511 = .ok (.aload_n 0, 1) := by decide +kernel
theorem dL_law_512 : decode cL_law 512 = .ok (.iload_n 3, 1) := by decide +kernel
theorem dL_law_513 : decode cL_law 513 = .ok (.iconst 1, 1) := by decide +kernel
theorem dL_law_514 : decode cL_law 514 = .ok (.iadd, 1) := by decide +kernel
theorem dL_law_515 : decode cL_law 515 = .ok (.iaload, 1) := by decide +kernel
theorem dL_law_516 : decode cL_law 516 = .ok (.invokevirtual 73, 3) := by decide +kernel
theorem dL_law_519 : decode cL_law 519 = .ok (.lcmp, 1) := by decide +kernel
theorem dL_law_520 : decode cL_law 520 = .ok (.ifCond .eq 569, 3) := by decide +kernel
theorem dL_law_523 : decode cL_law 523 = .ok (.iconst 0, 1) := by decide +kernel
theorem dL_law_524 : decode cL_law 524 = .ok (.ireturn, 1) := by decide +kernel
theorem dL_law_525 : decode cL_law 525 = .ok (.aload_n 1, 1) := by decide +kernel
theorem dL_law_526 : decode cL_law 526 = .ok (.aload_n 0, 1) := by decide +kernel
theorem dL_law_527 : decode cL_law 527 = .ok (.iload_n 3, 1) := by decide +kernel
theorem dL_law_528 : decode cL_law 528 = .ok (.iconst 1, 1) := by decide +kernel
theorem dL_law_529 : decode cL_law 529 = .ok (.iadd, 1) := by decide +kernel
theorem dL_law_530 : decode cL_law 530 = .ok (.iaload, 1) := by decide +kernel
theorem dL_law_531 : decode cL_law 531 = .ok (.invokevirtual 74, 3) := by decide +kernel
theorem dL_law_534 : decode cL_law 534 = .ok (.aload_n 2, 1) := by decide +kernel
theorem dL_law_535 : decode cL_law 535 = .ok (.aload_n 0, 1) := by decide +kernel
theorem dL_law_536 : decode cL_law 536 = .ok (.iload_n 3, 1) := by decide +kernel
theorem dL_law_537 : decode cL_law 537 = .ok (.iconst 1, 1) := by decide +kernel
theorem dL_law_538 : decode cL_law 538 = .ok (.iadd, 1) := by decide +kernel
theorem dL_law_539 : decode cL_law 539 = .ok (.iaload, 1) := by decide +kernel
theorem dL_law_540 : decode cL_law 540 = .ok (.invokevirtual 77, 3) := by decide +kernel
theorem dL_law_543 : decode cL_law 543 = .ok (.lcmp, 1) := by decide +kernel
theorem dL_law_544 : decode cL_law 544 = .ok (.ifCond .eq 545, 3) := by decide +kernel
theorem dL_law_547 : decode cL_law 547 = .ok (.iconst 0, 1) := by decide +kernel
theorem dL_law_548 : decode cL_law 548 = .ok (.ireturn, 1) := by decide +kernel
theorem dL_law_549 : decode cL_law 549 = .ok (.aload_n 1, 1) := by decide +kernel
theorem dL_law_550 : decode cL_law 550 = .ok (.aload_n 0, 1) := by decide +kernel
theorem dL_law_551 : decode cL_law 551 = .ok (.iload_n 3, 1) := by decide +kernel
theorem dL_law_552 : decode cL_law 552 = .ok (.iconst 1, 1) := by decide +kernel
theorem dL_law_553 : decode cL_law 553 = .ok (.iadd, 1) := by decide +kernel
theorem dL_law_554 : decode cL_law 554 = .ok (.iaload, 1) := by decide +kernel
theorem dL_law_555 : decode cL_law 555 = .ok (.invokevirtual 78, 3) := by decide +kernel
theorem dL_law_558 : decode cL_law 558 = .ok (.aload_n 2, 1) := by decide +kernel
theorem dL_law_559 : decode cL_law 559 = .ok (.aload_n 0, 1) := by decide +kernel
theorem dL_law_560 : decode cL_law 560 = .ok (.iload_n 3, 1) := by decide +kernel
theorem dL_law_561 : decode cL_law 561 = .ok (.iconst 1, 1) := by decide +kernel
theorem dL_law_562 : decode cL_law 562 = .ok (.iadd, 1) := by decide +kernel
theorem dL_law_563 : decode cL_law 563 = .ok (.iaload, 1) := by decide +kernel
theorem dL_law_564 : decode cL_law 564 = .ok (.invokevirtual 81, 3) := by decide +kernel
theorem dL_law_567 : decode cL_law 567 = .ok (.lcmp, 1) := by decide +kernel
theorem dL_law_568 : decode cL_law 568 = .ok (.ifCond .eq 521, 3) := by decide +kernel
theorem dL_law_571 : decode cL_law 571 = .ok (.iconst 0, 1) := by decide +kernel
theorem dL_law_572 : decode cL_law 572 = .ok (.ireturn, 1) := by decide +kernel
theorem dL_law_573 : decode cL_law 573 = .ok (.aload_n 1, 1) := by decide +kernel
theorem dL_law_574 : decode cL_law 574 = .ok (.aload_n 0, 1) := by decide +kernel
theorem dL_law_575 : decode cL_law 575 = .ok (.iload_n 3, 1) := by decide +kernel
theorem dL_law_576 : decode cL_law 576 = .ok (.iconst 1, 1) := by decide +kernel
theorem dL_law_577 : decode cL_law 577 = .ok (.iadd, 1) := by decide +kernel
theorem dL_law_578 : decode cL_law 578 = .ok (.iaload, 1) := by decide +kernel
theorem dL_law_579 : decode cL_law 579 = .ok (.invokevirtual 82, 3) := by decide +kernel
theorem dL_law_582 : decode cL_law 582 = .ok (.aload_n 2, 1) := by decide +kernel
theorem dL_law_583 : decode cL_law 583 = .ok (.aload_n 0, 1) := by decide +kernel
theorem dL_law_584 : decode cL_law 584 = .ok (.iload_n 3, 1) := by decide +kernel
theorem dL_law_585 : decode cL_law 585 = .ok (.iconst 1, 1) := by decide +kernel
theorem dL_law_586 : decode cL_law 586 = .ok (.iadd, 1) := by decide +kernel
theorem dL_law_587 : decode cL_law 587 = .ok (.iaload, 1) := by decide +kernel
theorem dL_law_588 : decode cL_law 588 = .ok (.invokevirtual 85, 3) := by decide +kernel
theorem dL_law_591 : decode cL_law 591 = .ok (.lcmp, 1) := by decide +kernel
theorem dL_law_592 : decode cL_law 592 = .ok (.ifCond .eq 497, 3) := by decide +kernel
theorem dL_law_595 : decode cL_law 595 = .ok (.iconst 0, 1) := by decide +kernel
theorem dL_law_596 : decode cL_law 596 = .ok (.ireturn, 1) := by decide +kernel
theorem dL_law_597 : decode cL_law 597 = .ok (.aload_n 1, 1) := by decide +kernel
theorem dL_law_598 : decode cL_law 598 = .ok (.aload_n 0, 1) := by decide +kernel
theorem dL_law_599 : decode cL_law 599 = .ok (.iload_n 3, 1) := by decide +kernel
theorem dL_law_600 : decode cL_law 600 = .ok (.iconst 1, 1) := by decide +kernel
theorem dL_law_601 : decode cL_law 601 = .ok (.iadd, 1) := by decide +kernel
theorem dL_law_602 : decode cL_law 602 = .ok (.iaload, 1) := by decide +kernel
theorem dL_law_603 : decode cL_law 603 = .ok (.aload_n 0, 1) := by decide +kernel
theorem dL_law_604 : decode cL_law 604 = .ok (.iload_n 3, 1) := by decide +kernel
theorem dL_law_605 : decode cL_law 605 = .ok (.iconst 2, 1) := by decide +kernel
theorem dL_law_606 : decode cL_law 606 = .ok (.iadd, 1) := by decide +kernel
theorem dL_law_607 : decode cL_law 607 = .ok (.iaload, 1) := by decide +kernel
theorem dL_law_608 : decode cL_law 608 = .ok (.invokevirtual 86, 3) := by decide +kernel
theorem dL_law_611 : decode cL_law 611 = .ok (.aload_n 2, 1) := by decide +kernel
theorem dL_law_612 : decode cL_law 612 = .ok (.aload_n 0, 1) := by decide +kernel
theorem dL_law_613 : decode cL_law 613 = .ok (.iload_n 3, 1) := by decide +kernel
theorem dL_law_614 : decode cL_law 614 = .ok (.iconst 1, 1) := by decide +kernel
theorem dL_law_615 : decode cL_law 615 = .ok (.iadd, 1) := by decide +kernel
theorem dL_law_616 : decode cL_law 616 = .ok (.iaload, 1) := by decide +kernel
theorem dL_law_617 : decode cL_law 617 = .ok (.aload_n 0, 1) := by decide +kernel
theorem dL_law_618 : decode cL_law 618 = .ok (.iload_n 3, 1) := by decide +kernel
theorem dL_law_619 : decode cL_law 619 = .ok (.iconst 2, 1) := by decide +kernel
theorem dL_law_620 : decode cL_law 620 = .ok (.iadd, 1) := by decide +kernel
theorem dL_law_621 : decode cL_law 621 = .ok (.iaload, 1) := by decide +kernel
theorem dL_law_622 : decode cL_law 622 = .ok (.invokevirtual 89, 3) := by decide +kernel
theorem dL_law_625 : decode cL_law 625 = .ok (.if_icmp .eq 464, 3) := by decide +kernel
theorem dL_law_628 : decode cL_law 628 = .ok (.iconst 0, 1) := by decide +kernel
theorem dL_law_629 : decode cL_law 629 = .ok (.ireturn, 1) := by decide +kernel
theorem dL_law_630 : decode cL_law 630 = .ok (.aload_n 1, 1) := by decide +kernel
theorem dL_law_631 : decode cL_law 631 = .ok (.aload_n 0, 1) := by decide +kernel
theorem dL_law_632 : decode cL_law 632 = .ok (.iload_n 3, 1) := by decide +kernel
theorem dL_law_633 : decode cL_law 633 = .ok (.iconst 1, 1) := by decide +kernel
theorem dL_law_634 : decode cL_law 634 = .ok (.iadd, 1) := by decide +kernel
theorem dL_law_635 : decode cL_law 635 = .ok (.iaload, 1) := by decide +kernel
theorem dL_law_636 : decode cL_law 636 = .ok (.aload_n 0, 1) := by decide +kernel
theorem dL_law_637 : decode cL_law 637 = .ok (.iload_n 3, 1) := by decide +kernel
theorem dL_law_638 : decode cL_law 638 = .ok (.iconst 2, 1) := by decide +kernel
theorem dL_law_639 : decode cL_law 639 = .ok (.iadd, 1) := by decide +kernel
theorem dL_law_640 : decode cL_law 640 = .ok (.iaload, 1) := by decide +kernel
theorem dL_law_641 : decode cL_law 641 = .ok (.invokevirtual 90, 3) := by decide +kernel
theorem dL_law_644 : decode cL_law 644 = .ok (.aload_n 2, 1) := by decide +kernel
theorem dL_law_645 : decode cL_law 645 = .ok (.aload_n 0, 1) := by decide +kernel
theorem dL_law_646 : decode cL_law 646 = .ok (.iload_n 3, 1) := by decide +kernel
theorem dL_law_647 : decode cL_law 647 = .ok (.iconst 1, 1) := by decide +kernel
theorem dL_law_648 : decode cL_law 648 = .ok (.iadd, 1) := by decide +kernel
theorem dL_law_649 : decode cL_law 649 = .ok (.iaload, 1) := by decide +kernel
theorem dL_law_650 : decode cL_law 650 = .ok (.aload_n 0, 1) := by decide +kernel
theorem dL_law_651 : decode cL_law 651 = .ok (.iload_n 3, 1) := by decide +kernel
theorem dL_law_652 : decode cL_law 652 = .ok (.iconst 2, 1) := by decide +kernel
theorem dL_law_653 : decode cL_law 653 = .ok (.iadd, 1) := by decide +kernel
theorem dL_law_654 : decode cL_law 654 = .ok (.iaload, 1) := by decide +kernel
theorem dL_law_655 : decode cL_law 655 = .ok (.invokevirtual 93, 3) := by decide +kernel
theorem dL_law_658 : decode cL_law 658 = .ok (.if_icmp .eq 431, 3) := by decide +kernel
theorem dL_law_661 : decode cL_law 661 = .ok (.iconst 0, 1) := by decide +kernel
theorem dL_law_662 : decode cL_law 662 = .ok (.ireturn, 1) := by decide +kernel
theorem dL_law_663 : decode cL_law 663 = .ok (.aload_n 1, 1) := by decide +kernel
theorem dL_law_664 : decode cL_law 664 = .ok (.aload_n 0, 1) := by decide +kernel
theorem dL_law_665 : decode cL_law 665 = .ok (.iload_n 3, 1) := by decide +kernel
theorem dL_law_666 : decode cL_law 666 = .ok (.iconst 1, 1) := by decide +kernel
theorem dL_law_667 : decode cL_law 667 = .ok (.iadd, 1) := by decide +kernel
theorem dL_law_668 : decode cL_law 668 = .ok (.iaload, 1) := by decide +kernel
theorem dL_law_669 : decode cL_law 669 = .ok (.aload_n 0, 1) := by decide +kernel
theorem dL_law_670 : decode cL_law 670 = .ok (.iload_n 3, 1) := by decide +kernel
theorem dL_law_671 : decode cL_law 671 = .ok (.iconst 2, 1) := by decide +kernel
theorem dL_law_672 : decode cL_law 672 = .ok (.iadd, 1) := by decide +kernel
theorem dL_law_673 : decode cL_law 673 = .ok (.iaload, 1) := by decide +kernel
theorem dL_law_674 : decode cL_law 674 = .ok (.invokevirtual 94, 3) := by decide +kernel
theorem dL_law_677 : decode cL_law 677 = .ok (.aload_n 2, 1) := by decide +kernel
theorem dL_law_678 : decode cL_law 678 = .ok (.aload_n 0, 1) := by decide +kernel
theorem dL_law_679 : decode cL_law 679 = .ok (.iload_n 3, 1) := by decide +kernel
theorem dL_law_680 : decode cL_law 680 = .ok (.iconst 1, 1) := by decide +kernel
theorem dL_law_681 : decode cL_law 681 = .ok (.iadd, 1) := by decide +kernel
theorem dL_law_682 : decode cL_law 682 = .ok (.iaload, 1) := by decide +kernel
theorem dL_law_683 : decode cL_law 683 = .ok (.aload_n 0, 1) := by decide +kernel
theorem dL_law_684 : decode cL_law 684 = .ok (.iload_n 3, 1) := by decide +kernel
theorem dL_law_685 : decode cL_law 685 = .ok (.iconst 2, 1) := by decide +kernel
theorem dL_law_686 : decode cL_law 686 = .ok (.iadd, 1) := by decide +kernel
theorem dL_law_687 : decode cL_law 687 = .ok (.iaload, 1) := by decide +kernel
theorem dL_law_688 : decode cL_law 688 = .ok (.invokevirtual 97, 3) := by decide +kernel
theorem dL_law_691 : decode cL_law 691 = .ok (.if_icmp .eq 398, 3) := by decide +kernel
theorem dL_law_694 : decode cL_law 694 = .ok (.iconst 0, 1) := by decide +kernel
theorem dL_law_695 : decode cL_law 695 = .ok (.ireturn, 1) := by decide +kernel
theorem dL_law_696 : decode cL_law 696 = .ok (.aload_n 1, 1) := by decide +kernel
theorem dL_law_697 : decode cL_law 697 = .ok (.aload_n 0, 1) := by decide +kernel
theorem dL_law_698 : decode cL_law 698 = .ok (.iload_n 3, 1) := by decide +kernel
theorem dL_law_699 : decode cL_law 699 = .ok (.iconst 1, 1) := by decide +kernel
theorem dL_law_700 : decode cL_law 700 = .ok (.iadd, 1) := by decide +kernel
theorem dL_law_701 : decode cL_law 701 = .ok (.iaload, 1) := by decide +kernel
theorem dL_law_702 : decode cL_law 702 = .ok (.ifCond .eq 7, 3) := by decide +kernel
theorem dL_law_705 : decode cL_law 705 = .ok (.iconst 1, 1) := by decide +kernel
theorem dL_law_706 : decode cL_law 706 = .ok (.goto 4, 3) := by decide +kernel
theorem dL_law_709 : decode cL_law 709 = .ok (.iconst 0, 1) := by decide +kernel
theorem dL_law_710 : decode cL_law 710 = .ok (.invokevirtual 98, 3) := by decide +kernel
theorem dL_law_713 : decode cL_law 713 = .ok (.aload_n 2, 1) := by decide +kernel
theorem dL_law_714 : decode cL_law 714 = .ok (.aload_n 0, 1) := by decide +kernel
theorem dL_law_715 : decode cL_law 715 = .ok (.iload_n 3, 1) := by decide +kernel
theorem dL_law_716 : decode cL_law 716 = .ok (.iconst 1, 1) := by decide +kernel
theorem dL_law_717 : decode cL_law 717 = .ok (.iadd, 1) := by decide +kernel
theorem dL_law_718 : decode cL_law 718 = .ok (.iaload, 1) := by decide +kernel
theorem dL_law_719 : decode cL_law 719 = .ok (.ifCond .eq 7, 3) := by decide +kernel
theorem dL_law_722 : decode cL_law 722 = .ok (.iconst 1, 1) := by decide +kernel
theorem dL_law_723 : decode cL_law 723 = .ok (.goto 4, 3) := by decide +kernel
theorem dL_law_726 : decode cL_law 726 = .ok (.iconst 0, 1) := by decide +kernel
theorem dL_law_727 : decode cL_law 727 = .ok (.invokevirtual 102, 3) := by decide +kernel
theorem dL_law_730 : decode cL_law 730 = .ok (.if_icmp .eq 359, 3) := by decide +kernel
theorem dL_law_733 : decode cL_law 733 = .ok (.iconst 0, 1) := by decide +kernel
theorem dL_law_734 : decode cL_law 734 = .ok (.ireturn, 1) := by decide +kernel
theorem dL_law_735 : decode cL_law 735 = .ok (.aload_n 1, 1) := by decide +kernel
theorem dL_law_736 : decode cL_law 736 = .ok (.aload_n 0, 1) := by decide +kernel
theorem dL_law_737 : decode cL_law 737 = .ok (.iload_n 3, 1) := by decide +kernel
theorem dL_law_738 : decode cL_law 738 = .ok (.iconst 1, 1) := by decide +kernel
theorem dL_law_739 : decode cL_law 739 = .ok (.iadd, 1) := by decide +kernel
theorem dL_law_740 : decode cL_law 740 = .ok (.iaload, 1) := by decide +kernel
theorem dL_law_741 : decode cL_law 741 = .ok (.aload_n 0, 1) := by decide +kernel
theorem dL_law_742 : decode cL_law 742 = .ok (.iload_n 3, 1) := by decide +kernel
theorem dL_law_743 : decode cL_law 743 = .ok (.iconst 2, 1) := by decide +kernel
theorem dL_law_744 : decode cL_law 744 = .ok (.iadd, 1) := by decide +kernel
theorem dL_law_745 : decode cL_law 745 = .ok (.iaload, 1) := by decide +kernel
theorem dL_law_746 : decode cL_law 746 = .ok (.i2l, 1) := by decide +kernel
theorem dL_law_747 : decode cL_law 747 = .ok (.bipush 32, 2) := by decide +kernel
theorem dL_law_749 : decode cL_law 749 = .ok (.lshl, 1) := by decide +kernel
theorem dL_law_750 : decode cL_law 750 = .ok (.aload_n 0, 1) := by decide +kernel
theorem dL_law_751 : decode cL_law 751 = .ok (.iload_n 3, 1) := by decide +kernel
theorem dL_law_752 : decode cL_law 752 = .ok (.iconst 3, 1) := by decide +kernel
theorem dL_law_753 : decode cL_law 753 = .ok (.iadd, 1) := by decide +kernel
theorem dL_law_754 : decode cL_law 754 = .ok (.iaload, 1) := by decide +kernel
theorem dL_law_755 : decode cL_law 755 = .ok (.i2l, 1) := by decide +kernel
theorem dL_law_756 : decode cL_law 756 = .ok (.ldc2_w 103, 3) := by decide +kernel
theorem dL_law_759 : decode cL_law 759 = .ok (.land, 1) := by decide +kernel
theorem dL_law_760 : decode cL_law 760 = .ok (.lor, 1) := by decide +kernel
theorem dL_law_761 : decode cL_law 761 = .ok (.invokevirtual 105, 3) := by decide +kernel
theorem dL_law_764 : decode cL_law 764 = .ok (.aload_n 2, 1) := by decide +kernel
theorem dL_law_765 : decode cL_law 765 = .ok (.aload_n 0, 1) := by decide +kernel
theorem dL_law_766 : decode cL_law 766 = .ok (.iload_n 3, 1) := by decide +kernel
theorem dL_law_767 : decode cL_law 767 = .ok (.iconst 1, 1) := by decide +kernel
theorem dL_law_768 : decode cL_law 768 = .ok (.iadd, 1) := by decide +kernel
theorem dL_law_769 : decode cL_law 769 = .ok (.iaload, 1) := by decide +kernel
theorem dL_law_770 : decode cL_law 770 = .ok (.aload_n 0, 1) := by decide +kernel
theorem dL_law_771 : decode cL_law 771 = .ok (.iload_n 3, 1) := by decide +kernel
theorem dL_law_772 : decode cL_law 772 = .ok (.iconst 2, 1) := by decide +kernel
theorem dL_law_773 : decode cL_law 773 = .ok (.iadd, 1) := by decide +kernel
theorem dL_law_774 : decode cL_law 774 = .ok (.iaload, 1) := by decide +kernel
theorem dL_law_775 : decode cL_law 775 = .ok (.i2l, 1) := by decide +kernel
theorem dL_law_776 : decode cL_law 776 = .ok (.bipush 32, 2) := by decide +kernel
theorem dL_law_778 : decode cL_law 778 = .ok (.lshl, 1) := by decide +kernel
theorem dL_law_779 : decode cL_law 779 = .ok (.aload_n 0, 1) := by decide +kernel
theorem dL_law_780 : decode cL_law 780 = .ok (.iload_n 3, 1) := by decide +kernel
theorem dL_law_781 : decode cL_law 781 = .ok (.iconst 3, 1) := by decide +kernel
theorem dL_law_782 : decode cL_law 782 = .ok (.iadd, 1) := by decide +kernel
theorem dL_law_783 : decode cL_law 783 = .ok (.iaload, 1) := by decide +kernel
theorem dL_law_784 : decode cL_law 784 = .ok (.i2l, 1) := by decide +kernel
theorem dL_law_785 : decode cL_law 785 = .ok (.ldc2_w 103, 3) := by decide +kernel
theorem dL_law_788 : decode cL_law 788 = .ok (.land, 1) := by decide +kernel
theorem dL_law_789 : decode cL_law 789 = .ok (.lor, 1) := by decide +kernel
theorem dL_law_790 : decode cL_law 790 = .ok (.invokevirtual 109, 3) := by decide +kernel
theorem dL_law_793 : decode cL_law 793 = .ok (.if_icmp .eq 296, 3) := by decide +kernel
theorem dL_law_796 : decode cL_law 796 = .ok (.iconst 0, 1) := by decide +kernel
theorem dL_law_797 : decode cL_law 797 = .ok (.ireturn, 1) := by decide +kernel
theorem dL_law_798 : decode cL_law 798 = .ok (.aload_n 1, 1) := by decide +kernel
theorem dL_law_799 : decode cL_law 799 = .ok (.aload_n 0, 1) := by decide +kernel
theorem dL_law_800 : decode cL_law 800 = .ok (.iload_n 3, 1) := by decide +kernel
theorem dL_law_801 : decode cL_law 801 = .ok (.iconst 1, 1) := by decide +kernel
theorem dL_law_802 : decode cL_law 802 = .ok (.iadd, 1) := by decide +kernel
theorem dL_law_803 : decode cL_law 803 = .ok (.iaload, 1) := by decide +kernel
theorem dL_law_804 : decode cL_law 804 = .ok (.aload_n 0, 1) := by decide +kernel
theorem dL_law_805 : decode cL_law 805 = .ok (.iload_n 3, 1) := by decide +kernel
theorem dL_law_806 : decode cL_law 806 = .ok (.iconst 2, 1) := by decide +kernel
theorem dL_law_807 : decode cL_law 807 = .ok (.iadd, 1) := by decide +kernel
theorem dL_law_808 : decode cL_law 808 = .ok (.iaload, 1) := by decide +kernel
theorem dL_law_809 : decode cL_law 809 = .ok (.invokevirtual 110, 3) := by decide +kernel
theorem dL_law_812 : decode cL_law 812 = .ok (.aload_n 2, 1) := by decide +kernel
theorem dL_law_813 : decode cL_law 813 = .ok (.aload_n 0, 1) := by decide +kernel
theorem dL_law_814 : decode cL_law 814 = .ok (.iload_n 3, 1) := by decide +kernel
theorem dL_law_815 : decode cL_law 815 = .ok (.iconst 1, 1) := by decide +kernel
theorem dL_law_816 : decode cL_law 816 = .ok (.iadd, 1) := by decide +kernel
theorem dL_law_817 : decode cL_law 817 = .ok (.iaload, 1) := by decide +kernel
theorem dL_law_818 : decode cL_law 818 = .ok (.aload_n 0, 1) := by decide +kernel
theorem dL_law_819 : decode cL_law 819 = .ok (.iload_n 3, 1) := by decide +kernel
theorem dL_law_820 : decode cL_law 820 = .ok (.iconst 2, 1) := by decide +kernel
theorem dL_law_821 : decode cL_law 821 = .ok (.iadd, 1) := by decide +kernel
theorem dL_law_822 : decode cL_law 822 = .ok (.iaload, 1) := by decide +kernel
theorem dL_law_823 : decode cL_law 823 = .ok (.invokevirtual 113, 3) := by decide +kernel
theorem dL_law_826 : decode cL_law 826 = .ok (.if_icmp .eq 263, 3) := by decide +kernel
theorem dL_law_829 : decode cL_law 829 = .ok (.iconst 0, 1) := by decide +kernel
theorem dL_law_830 : decode cL_law 830 = .ok (.ireturn, 1) := by decide +kernel
theorem dL_law_831 : decode cL_law 831 = .ok (.aload_n 1, 1) := by decide +kernel
theorem dL_law_832 : decode cL_law 832 = .ok (.invokevirtual 114, 3) := by decide +kernel
theorem dL_law_835 : decode cL_law 835 = .ok (.aload_n 2, 1) := by decide +kernel
theorem dL_law_836 : decode cL_law 836 = .ok (.invokevirtual 117, 3) := by decide +kernel
theorem dL_law_839 : decode cL_law 839 = .ok (.if_icmp .eq 250, 3) := by decide +kernel
theorem dL_law_842 : decode cL_law 842 = .ok (.iconst 0, 1) := by decide +kernel
theorem dL_law_843 : decode cL_law 843 = .ok (.ireturn, 1) := by decide +kernel
theorem dL_law_844 : decode cL_law 844 = .ok (.aload_n 1, 1) := by decide +kernel
theorem dL_law_845 : decode cL_law 845 = .ok (.invokevirtual 118, 3) := by decide +kernel
theorem dL_law_848 : decode cL_law 848 = .ok (.aload_n 2, 1) := by decide +kernel
theorem dL_law_849 : decode cL_law 849 = .ok (.invokevirtual 122, 3) := by decide +kernel
theorem dL_law_852 : decode cL_law 852 = .ok (.lcmp, 1) := by decide +kernel
theorem dL_law_853 : decode cL_law 853 = .ok (.ifCond .eq 236, 3) := by decide +kernel
theorem dL_law_856 : decode cL_law 856 = .ok (.iconst 0, 1) := by decide +kernel
theorem dL_law_857 : decode cL_law 857 = .ok (.ireturn, 1) := by decide +kernel
theorem dL_law_858 : decode cL_law 858 = .ok (.aload_n 1, 1) := by decide +kernel
theorem dL_law_859 : decode cL_law 859 = .ok (.aload_n 0, 1) := by decide +kernel
theorem dL_law_860 : decode cL_law 860 = .ok (.iload_n 3, 1) := by decide +kernel
theorem dL_law_861 : decode cL_law 861 = .ok (.iconst 1, 1) := by decide +kernel
theorem dL_law_862 : decode cL_law 862 = .ok (.iadd, 1) := by decide +kernel
theorem dL_law_863 : decode cL_law 863 = .ok (.iaload, 1) := by decide +kernel
theorem dL_law_864 : decode cL_law 864 = .ok (.aload_n 0, 1) := by decide +kernel
theorem dL_law_865 : decode cL_law 865 = .ok (.iload_n 3, 1) := by decide +kernel
theorem dL_law_866 : decode cL_law 866 = .ok (.iconst 2, 1) := by decide +kernel
theorem dL_law_867 : decode cL_law 867 = .ok (.iadd, 1) := by decide +kernel
theorem dL_law_868 : decode cL_law 868 = .ok (.iaload, 1) := by decide +kernel
theorem dL_law_869 : decode cL_law 869 = .ok (.ifCond .eq 7, 3) := by decide +kernel
theorem dL_law_872 : decode cL_law 872 = .ok (.iconst 1, 1) := by decide +kernel
theorem dL_law_873 : decode cL_law 873 = .ok (.goto 4, 3) := by decide +kernel
theorem dL_law_876 : decode cL_law 876 = .ok (.iconst 0, 1) := by decide +kernel
theorem dL_law_877 : decode cL_law 877 = .ok (.invokevirtual 123, 3) := by decide +kernel
theorem dL_law_880 : decode cL_law 880 = .ok (.aload_n 2, 1) := by decide +kernel
theorem dL_law_881 : decode cL_law 881 = .ok (.aload_n 0, 1) := by decide +kernel
theorem dL_law_882 : decode cL_law 882 = .ok (.iload_n 3, 1) := by decide +kernel
theorem dL_law_883 : decode cL_law 883 = .ok (.iconst 1, 1) := by decide +kernel
theorem dL_law_884 : decode cL_law 884 = .ok (.iadd, 1) := by decide +kernel
theorem dL_law_885 : decode cL_law 885 = .ok (.iaload, 1) := by decide +kernel
theorem dL_law_886 : decode cL_law 886 = .ok (.aload_n 0, 1) := by decide +kernel
theorem dL_law_887 : decode cL_law 887 = .ok (.iload_n 3, 1) := by decide +kernel
theorem dL_law_888 : decode cL_law 888 = .ok (.iconst 2, 1) := by decide +kernel
theorem dL_law_889 : decode cL_law 889 = .ok (.iadd, 1) := by decide +kernel
theorem dL_law_890 : decode cL_law 890 = .ok (.iaload, 1) := by decide +kernel
theorem dL_law_891 : decode cL_law 891 = .ok (.ifCond .eq 7, 3) := by decide +kernel
theorem dL_law_894 : decode cL_law 894 = .ok (.iconst 1, 1) := by decide +kernel
theorem dL_law_895 : decode cL_law 895 = .ok (.goto 4, 3) := by decide +kernel
theorem dL_law_898 : decode cL_law 898 = .ok (.iconst 0, 1) := by decide +kernel
theorem dL_law_899 : decode cL_law 899 = .ok (.invokevirtual 127, 3) := by decide +kernel
theorem dL_law_902 : decode cL_law 902 = .ok (.if_icmp .eq 187, 3) := by decide +kernel
theorem dL_law_905 : decode cL_law 905 = .ok (.iconst 0, 1) := by decide +kernel
theorem dL_law_906 : decode cL_law 906 = .ok (.ireturn, 1) := by decide +kernel
theorem dL_law_907 : decode cL_law 907 = .ok (.aload_n 1, 1) := by decide +kernel
theorem dL_law_908 : decode cL_law 908 = .ok (.aload_n 0, 1) := by decide +kernel
theorem dL_law_909 : decode cL_law 909 = .ok (.iload_n 3, 1) := by decide +kernel
theorem dL_law_910 : decode cL_law 910 = .ok (.iconst 1, 1) := by decide +kernel
theorem dL_law_911 : decode cL_law 911 = .ok (.iadd, 1) := by decide +kernel
theorem dL_law_912 : decode cL_law 912 = .ok (.iaload, 1) := by decide +kernel
theorem dL_law_913 : decode cL_law 913 = .ok (.aload_n 0, 1) := by decide +kernel
theorem dL_law_914 : decode cL_law 914 = .ok (.iload_n 3, 1) := by decide +kernel
theorem dL_law_915 : decode cL_law 915 = .ok (.iconst 2, 1) := by decide +kernel
theorem dL_law_916 : decode cL_law 916 = .ok (.iadd, 1) := by decide +kernel
theorem dL_law_917 : decode cL_law 917 = .ok (.iaload, 1) := by decide +kernel
theorem dL_law_918 : decode cL_law 918 = .ok (.aload_n 0, 1) := by decide +kernel
theorem dL_law_919 : decode cL_law 919 = .ok (.iload_n 3, 1) := by decide +kernel
theorem dL_law_920 : decode cL_law 920 = .ok (.iconst 3, 1) := by decide +kernel
theorem dL_law_921 : decode cL_law 921 = .ok (.iadd, 1) := by decide +kernel
theorem dL_law_922 : decode cL_law 922 = .ok (.iaload, 1) := by decide +kernel
theorem dL_law_923 : decode cL_law 923 = .ok (.ifCond .eq 7, 3) := by decide +kernel
theorem dL_law_926 : decode cL_law 926 = .ok (.iconst 1, 1) := by decide +kernel
theorem dL_law_927 : decode cL_law 927 = .ok (.goto 4, 3) := by decide +kernel
theorem dL_law_930 : decode cL_law 930 = .ok (.iconst 0, 1) := by decide +kernel
theorem dL_law_931 : decode cL_law 931 = .ok (.invokevirtual 128, 3) := by decide +kernel
theorem dL_law_934 : decode cL_law 934 = .ok (.aload_n 2, 1) := by decide +kernel
theorem dL_law_935 : decode cL_law 935 = .ok (.aload_n 0, 1) := by decide +kernel
theorem dL_law_936 : decode cL_law 936 = .ok (.iload_n 3, 1) := by decide +kernel
theorem dL_law_937 : decode cL_law 937 = .ok (.iconst 1, 1) := by decide +kernel
theorem dL_law_938 : decode cL_law 938 = .ok (.iadd, 1) := by decide +kernel
theorem dL_law_939 : decode cL_law 939 = .ok (.iaload, 1) := by decide +kernel
theorem dL_law_940 : decode cL_law 940 = .ok (.aload_n 0, 1) := by decide +kernel
theorem dL_law_941 : decode cL_law 941 = .ok (.iload_n 3, 1) := by decide +kernel
theorem dL_law_942 : decode cL_law 942 = .ok (.iconst 2, 1) := by decide +kernel
theorem dL_law_943 : decode cL_law 943 = .ok (.iadd, 1) := by decide +kernel
theorem dL_law_944 : decode cL_law 944 = .ok (.iaload, 1) := by decide +kernel
theorem dL_law_945 : decode cL_law 945 = .ok (.aload_n 0, 1) := by decide +kernel
theorem dL_law_946 : decode cL_law 946 = .ok (.iload_n 3, 1) := by decide +kernel
theorem dL_law_947 : decode cL_law 947 = .ok (.iconst 3, 1) := by decide +kernel
theorem dL_law_948 : decode cL_law 948 = .ok (.iadd, 1) := by decide +kernel
theorem dL_law_949 : decode cL_law 949 = .ok (.iaload, 1) := by decide +kernel
theorem dL_law_950 : decode cL_law 950 = .ok (.ifCond .eq 7, 3) := by decide +kernel
theorem dL_law_953 : decode cL_law 953 = .ok (.iconst 1, 1) := by decide +kernel
theorem dL_law_954 : decode cL_law 954 = .ok (.goto 4, 3) := by decide +kernel
theorem dL_law_957 : decode cL_law 957 = .ok (.iconst 0, 1) := by decide +kernel
theorem dL_law_958 : decode cL_law 958 = .ok (.invokevirtual 132, 3) := by decide +kernel
theorem dL_law_961 : decode cL_law 961 = .ok (.if_icmp .eq 128, 3) := by decide +kernel
theorem dL_law_964 : decode cL_law 964 = .ok (.iconst 0, 1) := by decide +kernel
theorem dL_law_965 : decode cL_law 965 = .ok (.ireturn, 1) := by decide +kernel
theorem dL_law_966 : decode cL_law 966 = .ok (.aload_n 1, 1) := by decide +kernel
theorem dL_law_967 : decode cL_law 967 = .ok (.aload_n 0, 1) := by decide +kernel
theorem dL_law_968 : decode cL_law 968 = .ok (.iload_n 3, 1) := by decide +kernel
theorem dL_law_969 : decode cL_law 969 = .ok (.iconst 1, 1) := by decide +kernel
theorem dL_law_970 : decode cL_law 970 = .ok (.iadd, 1) := by decide +kernel
theorem dL_law_971 : decode cL_law 971 = .ok (.iaload, 1) := by decide +kernel
theorem dL_law_972 : decode cL_law 972 = .ok (.i2l, 1) := by decide +kernel
theorem dL_law_973 : decode cL_law 973 = .ok (.bipush 32, 2) := by decide +kernel
theorem dL_law_975 : decode cL_law 975 = .ok (.lshl, 1) := by decide +kernel
theorem dL_law_976 : decode cL_law 976 = .ok (.aload_n 0, 1) := by decide +kernel
theorem dL_law_977 : decode cL_law 977 = .ok (.iload_n 3, 1) := by decide +kernel
theorem dL_law_978 : decode cL_law 978 = .ok (.iconst 2, 1) := by decide +kernel
theorem dL_law_979 : decode cL_law 979 = .ok (.iadd, 1) := by decide +kernel
theorem dL_law_980 : decode cL_law 980 = .ok (.iaload, 1) := by decide +kernel
theorem dL_law_981 : decode cL_law 981 = .ok (.i2l, 1) := by decide +kernel
theorem dL_law_982 : decode cL_law 982 = .ok (.ldc2_w 103, 3) := by decide +kernel
theorem dL_law_985 : decode cL_law 985 = .ok (.land, 1) := by decide +kernel
theorem dL_law_986 : decode cL_law 986 = .ok (.lor, 1) := by decide +kernel
theorem dL_law_987 : decode cL_law 987 = .ok (.invokevirtual 133, 3) := by decide +kernel
theorem dL_law_990 : decode cL_law 990 = .ok (.aload_n 2, 1) := by decide +kernel
theorem dL_law_991 : decode cL_law 991 = .ok (.aload_n 0, 1) := by decide +kernel
theorem dL_law_992 : decode cL_law 992 = .ok (.iload_n 3, 1) := by decide +kernel
theorem dL_law_993 : decode cL_law 993 = .ok (.iconst 1, 1) := by decide +kernel
theorem dL_law_994 : decode cL_law 994 = .ok (.iadd, 1) := by decide +kernel
theorem dL_law_995 : decode cL_law 995 = .ok (.iaload, 1) := by decide +kernel
theorem dL_law_996 : decode cL_law 996 = .ok (.i2l, 1) := by decide +kernel
theorem dL_law_997 : decode cL_law 997 = .ok (.bipush 32, 2) := by decide +kernel
theorem dL_law_999 : decode cL_law 999 = .ok (.lshl, 1) := by decide +kernel
theorem dL_law_1000 : decode cL_law 1000 = .ok (.aload_n 0, 1) := by decide +kernel
theorem dL_law_1001 : decode cL_law 1001 = .ok (.iload_n 3, 1) := by decide +kernel
theorem dL_law_1002 : decode cL_law 1002 = .ok (.iconst 2, 1) := by decide +kernel
theorem dL_law_1003 : decode cL_law 1003 = .ok (.iadd, 1) := by decide +kernel
theorem dL_law_1004 : decode cL_law 1004 = .ok (.iaload, 1) := by decide +kernel
theorem dL_law_1005 : decode cL_law 1005 = .ok (.i2l, 1) := by decide +kernel
theorem dL_law_1006 : decode cL_law 1006 = .ok (.ldc2_w 103, 3) := by decide +kernel
theorem dL_law_1009 : decode cL_law 1009 = .ok (.land, 1) := by decide +kernel
theorem dL_law_1010 : decode cL_law 1010 = .ok (.lor, 1) := by decide +kernel
theorem dL_law_1011 : decode cL_law 1011 = .ok (.invokevirtual 137, 3) := by decide +kernel
theorem dL_law_1014 : decode cL_law 1014 = .ok (.lcmp, 1) := by decide +kernel
theorem dL_law_1015 : decode cL_law 1015 = .ok (.ifCond .eq 74, 3) := by decide +kernel
theorem dL_law_1018 : decode cL_law 1018 = .ok (.iconst 0, 1) := by decide +kernel
theorem dL_law_1019 : decode cL_law 1019 = .ok (.ireturn, 1) := by decide +kernel
theorem dL_law_1020 : decode cL_law 1020 = .ok (.aload_n 1, 1) := by decide +kernel
theorem dL_law_1021 : decode cL_law 1021 = .ok (.aload_n 0, 1) := by decide +kernel
theorem dL_law_1022 : decode cL_law 1022 = .ok (.iload_n 3, 1) := by decide +kernel
theorem dL_law_1023 : decode cL_law 1023 = .ok (.iconst 1, 1) := by decide +kernel
theorem dL_law_1024 : decode cL_law 1024 = .ok (.iadd, 1) := by decide +kernel
theorem dL_law_1025 : decode cL_law 1025 = .ok (.iaload, 1) := by decide +kernel
theorem dL_law_1026 : decode cL_law 1026 = .ok (.invokevirtual 138, 3) := by decide +kernel
theorem dL_law_1029 : decode cL_law 1029 = .ok (.aload_n 2, 1) := by decide +kernel
theorem dL_law_1030 : decode cL_law 1030 = .ok (.aload_n 0, 1) := by decide +kernel
theorem dL_law_1031 : decode cL_law 1031 = .ok (.iload_n 3, 1) := by decide +kernel
theorem dL_law_1032 : decode cL_law 1032 = .ok (.iconst 1, 1) := by decide +kernel
theorem dL_law_1033 : decode cL_law 1033 = .ok (.iadd, 1) := by decide +kernel
theorem dL_law_1034 : decode cL_law 1034 = .ok (.iaload, 1) := by decide +kernel
theorem dL_law_1035 : decode cL_law 1035 = .ok (.invokevirtual 141, 3) := by decide +kernel
theorem dL_law_1038 : decode cL_law 1038 = .ok (.if_icmp .eq 51, 3) := by decide +kernel
theorem dL_law_1041 : decode cL_law 1041 = .ok (.iconst 0, 1) := by decide +kernel
theorem dL_law_1042 : decode cL_law 1042 = .ok (.ireturn, 1) := by decide +kernel
theorem dL_law_1043 : decode cL_law 1043 = .ok (.aload_n 1, 1) := by decide +kernel
theorem dL_law_1044 : decode cL_law 1044 = .ok (.aload_n 0, 1) := by decide +kernel
theorem dL_law_1045 : decode cL_law 1045 = .ok (.iload_n 3, 1) := by decide +kernel
theorem dL_law_1046 : decode cL_law 1046 = .ok (.iconst 1, 1) := by decide +kernel
theorem dL_law_1047 : decode cL_law 1047 = .ok (.iadd, 1) := by decide +kernel
theorem dL_law_1048 : decode cL_law 1048 = .ok (.iaload, 1) := by decide +kernel
theorem dL_law_1049 : decode cL_law 1049 = .ok (.invokevirtual 142, 3) := by decide +kernel
theorem dL_law_1052 : decode cL_law 1052 = .ok (.aload_n 2, 1) := by decide +kernel
theorem dL_law_1053 : decode cL_law 1053 = .ok (.aload_n 0, 1) := by decide +kernel
theorem dL_law_1054 : decode cL_law 1054 = .ok (.iload_n 3, 1) := by decide +kernel
theorem dL_law_1055 : decode cL_law 1055 = .ok (.iconst 1, 1) := by decide +kernel
theorem dL_law_1056 : decode cL_law 1056 = .ok (.iadd, 1) := by decide +kernel
theorem dL_law_1057 : decode cL_law 1057 = .ok (.iaload, 1) := by decide +kernel
theorem dL_law_1058 : decode cL_law 1058 = .ok (.invokevirtual 145, 3) := by decide +kernel
theorem dL_law_1061 : decode cL_law 1061 = .ok (.if_icmp .eq 28, 3) := by decide +kernel
theorem dL_law_1064 : decode cL_law 1064 = .ok (.iconst 0, 1) := by decide +kernel
theorem dL_law_1065 : decode cL_law 1065 = .ok (.ireturn, 1) := by decide +kernel
theorem dL_law_1066 : decode cL_law 1066 = .ok (.aload_n 1, 1) := by decide +kernel
theorem dL_law_1067 : decode cL_law 1067 = .ok (.aload_n 0, 1) := by decide +kernel
theorem dL_law_1068 : decode cL_law 1068 = .ok (.iload_n 3, 1) := by decide +kernel
theorem dL_law_1069 : decode cL_law 1069 = .ok (.iconst 1, 1) := by decide +kernel
theorem dL_law_1070 : decode cL_law 1070 = .ok (.iadd, 1) := by decide +kernel
theorem dL_law_1071 : decode cL_law 1071 = .ok (.iaload, 1) := by decide +kernel
theorem dL_law_1072 : decode cL_law 1072 = .ok (.invokevirtual 146, 3) := by decide +kernel
theorem dL_law_1075 : decode cL_law 1075 = .ok (.aload_n 2, 1) := by decide +kernel
theorem dL_law_1076 : decode cL_law 1076 = .ok (.aload_n 0, 1) := by decide +kernel
theorem dL_law_1077 : decode cL_law 1077 = .ok (.iload_n 3, 1) := by decide +kernel
theorem dL_law_1078 : decode cL_law 1078 = .ok (.iconst 1, 1) := by decide +kernel
theorem dL_law_1079 : decode cL_law 1079 = .ok (.iadd, 1) := by decide +kernel
theorem dL_law_1080 : decode cL_law 1080 = .ok (.iaload, 1) := by decide +kernel
theorem dL_law_1081 : decode cL_law 1081 = .ok (.invokevirtual 149, 3) := by decide +kernel
theorem dL_law_1084 : decode cL_law 1084 = .ok (.if_icmp .eq 5, 3) := by decide +kernel
theorem dL_law_1087 : decode cL_law 1087 = .ok (.iconst 0, 1) := by decide +kernel
theorem dL_law_1088 : decode cL_law 1088 = .ok (.ireturn, 1) := by decide +kernel
theorem dL_law_1089 : decode cL_law 1089 = .ok (.iinc 3 4, 3) := by decide +kernel
theorem dL_law_1092 : decode cL_law 1092 = .ok (.goto (-1074), 3) := by decide +kernel
theorem dL_law_1095 : decode cL_law 1095 = .ok (.iconst 1, 1) := by decide +kernel
theorem dL_law_1096 : decode cL_law 1096 = .ok (.ireturn, 1) := by decide +kernel
