theorem dX5_takeLetter_34 : decode cX5_takeLetter 34 = .ok (.iconst 1, 1) := by decide +kernel
theorem dX5_takeLetter_35 : decode cX5_takeLetter 35 = .ok (.goto 4, 3) := by decide +kernel
theorem dX5_takeLetter_38 : decode cX5_takeLetter 38 = .ok (.iconst 0, 1) := by decide +kernel
theorem dX5_takeLetter_39 : decode cX5_takeLetter 39 = .ok (.ireturn, 1) := by decide +kernel
theorem dX5_takeLetter_40 : decode cX5_takeLetter 40 = .ok (.iload_n 1, 1) := by decide +kernel
theorem dX5_takeLetter_41 : decode cX5_takeLetter 41 = .ok (.iconst 1, 1) := by decide +kernel
theorem dX5_takeLetter_42 : decode cX5_takeLetter 42 = .ok (.if_icmp .ne 20, 3) := by decide +kernel
theorem dX5_takeLetter_45 : decode cX5_takeLetter 45 = .ok (.aload_n 0, 1) := by decide +kernel
theorem dX5_takeLetter_46 : decode cX5_takeLetter 46 = .ok (.iload_n 3, 1) := by decide +kernel
theorem dX5_takeLetter_47 : decode cX5_takeLetter 47 = .ok (.putfield 86, 3) := by decide +kernel
theorem dX5_takeLetter_50 : decode cX5_takeLetter 50 = .ok (.iload_n 3, 1) := by decide +kernel
theorem dX5_takeLetter_51 : decode cX5_takeLetter 51 = .ok (.i2l, 1) := by decide +kernel
theorem dX5_takeLetter_52 : decode cX5_takeLetter 52 = .ok (.ldc2_w 96, 3) := by decide +kernel
theorem dX5_takeLetter_55 : decode cX5_takeLetter 55 = .ok (.ldc2_w 98, 3) := by decide +kernel
theorem dX5_takeLetter_58 : decode cX5_takeLetter 58 = .ok (.invokestatic 67, 3) := by decide +kernel
theorem dX5_takeLetter_61 : decode cX5_takeLetter 61 = .ok (.ireturn, 1) := by decide +kernel
theorem dX5_takeLetter_62 : decode cX5_takeLetter 62 = .ok (.iload_n 1, 1) := by decide +kernel
theorem dX5_takeLetter_63 : decode cX5_takeLetter 63 = .ok (.iconst 2, 1) := by decide +kernel
theorem dX5_takeLetter_64 : decode cX5_takeLetter 64 = .ok (.if_icmp .ne 20, 3) := by decide +kernel
theorem dX5_takeLetter_67 : decode cX5_takeLetter 67 = .ok (.aload_n 0, 1) := by decide +kernel
theorem dX5_takeLetter_68 : decode cX5_takeLetter 68 = .ok (.iload_n 3, 1) := by decide +kernel
theorem dX5_takeLetter_69 : decode cX5_takeLetter 69 = .ok (.putfield 89, 3) := by decide +kernel
theorem dX5_takeLetter_72 : decode cX5_takeLetter 72 = .ok (.iload_n 3, 1) := by decide +kernel
theorem dX5_takeLetter_73 : decode cX5_takeLetter 73 = .ok (.i2l, 1) := by decide +kernel
theorem dX5_takeLetter_74 : decode cX5_takeLetter 74 = .ok (.ldc2_w 96, 3) := by decide +kernel
theorem dX5_takeLetter_77 : decode cX5_takeLetter 77 = .ok (.ldc2_w 98, 3) := by decide +kernel
theorem dX5_takeLetter_80 : decode cX5_takeLetter 80 = .ok (.invokestatic 67, 3) := by decide +kernel
theorem dX5_takeLetter_83 : decode cX5_takeLetter 83 = .ok (.ireturn, 1) := by decide +kernel
theorem dX5_takeLetter_84 : decode cX5_takeLetter 84 = .ok (.aload_n 0, 1) := by decide +kernel
theorem dX5_takeLetter_85 : decode cX5_takeLetter 85 = .ok (.getfield 100, 3) := by decide +kernel
theorem dX5_takeLetter_88 : decode cX5_takeLetter 88 = .ok (.aload_n 0, 1) := by decide +kernel
theorem dX5_takeLetter_89 : decode cX5_takeLetter 89 = .ok (.getfield 86, 3) := by decide +kernel
theorem dX5_takeLetter_92 : decode cX5_takeLetter 92 = .ok (.aload_n 0, 1) := by decide +kernel
theorem dX5_takeLetter_93 : decode cX5_takeLetter 93 = .ok (.getfield 89, 3) := by decide +kernel
theorem dX5_takeLetter_96 : decode cX5_takeLetter 96 = .ok (.imul, 1) := by decide +kernel
theorem dX5_takeLetter_97 : decode cX5_takeLetter 97 = .ok (.if_icmp .ge 33, 3) := by decide +kernel
theorem dX5_takeLetter_100 : decode cX5_takeLetter 100 = .ok (.aload_n 0, 1) := by decide +kernel
theorem dX5_takeLetter_101 : decode cX5_takeLetter 101 = .ok (.getfield 42, 3) := by decide +kernel
theorem dX5_takeLetter_104 : decode cX5_takeLetter 104 = .ok (.aload_n 0, 1) := by decide +kernel
theorem dX5_takeLetter_105 : decode cX5_takeLetter 105 = .ok (.getfield 100, 3) := by decide +kernel
theorem dX5_takeLetter_108 : decode cX5_takeLetter 108 = .ok (.iload_n 3, 1) := by decide +kernel
theorem dX5_takeLetter_109 : decode cX5_takeLetter 109 = .ok (.iastore, 1) := by decide +kernel
theorem dX5_takeLetter_110 : decode cX5_takeLetter 110 = .ok (.aload_n 0, 1) := by decide +kernel
theorem dX5_takeLetter_111 : decode cX5_takeLetter 111 = .ok (.dup, 1) := by decide +kernel
theorem dX5_takeLetter_112 : decode cX5_takeLetter 112 = .ok (.getfield 100, 3) := by decide +kernel
theorem dX5_takeLetter_115 : decode cX5_takeLetter 115 = .ok (.iconst 1, 1) := by decide +kernel
theorem dX5_takeLetter_116 : decode cX5_takeLetter 116 = .ok (.iadd, 1) := by decide +kernel
theorem dX5_takeLetter_117 : decode cX5_takeLetter 117 = .ok (.putfield 100, 3) := by decide +kernel
theorem dX5_takeLetter_120 : decode cX5_takeLetter 120 = .ok (.iload_n 3, 1) := by decide +kernel
theorem dX5_takeLetter_121 : decode cX5_takeLetter 121 = .ok (.ifCond .lt 7, 3) := by decide +kernel
theorem dX5_takeLetter_124 : decode cX5_takeLetter 124 = .ok (.iconst 1, 1) := by decide +kernel
theorem dX5_takeLetter_125 : decode cX5_takeLetter 125 = .ok (.goto 4, 3) := by decide +kernel
theorem dX5_takeLetter_128 : decode cX5_takeLetter 128 = .ok (.iconst 0, 1) := by decide +kernel
theorem dX5_takeLetter_129 : decode cX5_takeLetter 129 = .ok (.ireturn, 1) := by decide +kernel
theorem dX5_takeLetter_130 : decode cX5_takeLetter 130 = .ok (.aload_n 0, 1) := by decide +kernel
theorem dX5_takeLetter_131 : decode cX5_takeLetter 131 = .ok (.getfield 79, 3) := by decide +kernel
theorem dX5_takeLetter_134 : decode cX5_takeLetter 134 = .ok (.ifCond .ne 9, 3) := by decide +kernel
theorem dX5_takeLetter_137 : decode cX5_takeLetter 137 = .ok (.aload_n 0, 1) := by decide +kernel
theorem dX5_takeLetter_138 : decode cX5_takeLetter 138 = .ok (.iload_n 2, 1) := by decide +kernel
theorem dX5_takeLetter_139 : decode cX5_takeLetter 139 = .ok (.invokevirtual 103, 3) := by decide +kernel
theorem dX5_takeLetter_142 : decode cX5_takeLetter 142 = .ok (.ireturn, 1) := by decide +kernel
theorem dX5_takeLetter_143 : decode cX5_takeLetter 143 = .ok (.aload_n 0, 1) := by decide +kernel
theorem dX5_takeLetter_144 : decode cX5_takeLetter 144 = .ok (.getfield 76, 3) := by decide +kernel
theorem dX5_takeLetter_147 : decode cX5_takeLetter 147 = .ok (.bipush 116, 2) := by decide +kernel
theorem dX5_takeLetter_149 : decode cX5_takeLetter 149 = .ok (.if_icmp .ne 9, 3) := by decide +kernel
theorem dX5_takeLetter_152 : decode cX5_takeLetter 152 = .ok (.aload_n 0, 1) := by decide +kernel
theorem dX5_takeLetter_153 : decode cX5_takeLetter 153 = .ok (.iload_n 3, 1) := by decide +kernel
theorem dX5_takeLetter_154 : decode cX5_takeLetter 154 = .ok (.invokevirtual 107, 3) := by decide +kernel
theorem dX5_takeLetter_157 : decode cX5_takeLetter 157 = .ok (.ireturn, 1) := by decide +kernel
theorem dX5_takeLetter_158 : decode cX5_takeLetter 158 = .ok (.aload_n 0, 1) := by decide +kernel
theorem dX5_takeLetter_159 : decode cX5_takeLetter 159 = .ok (.getfield 76, 3) := by decide +kernel
theorem dX5_takeLetter_162 : decode cX5_takeLetter 162 = .ok (.invokestatic 82, 3) := by decide +kernel
theorem dX5_takeLetter_165 : decode cX5_takeLetter 165 = .ok (.istore 4, 2) := by decide +kernel
theorem dX5_takeLetter_167 : decode cX5_takeLetter 167 = .ok (.aload_n 0, 1) := by decide +kernel
theorem dX5_takeLetter_168 : decode cX5_takeLetter 168 = .ok (.getfield 42, 3) := by decide +kernel
theorem dX5_takeLetter_171 : decode cX5_takeLetter 171 = .ok (.bipush 47, 2) := by decide +kernel
theorem dX5_takeLetter_173 : decode cX5_takeLetter 173 = .ok (.iload 4, 2) := by decide +kernel
theorem dX5_takeLetter_175 : decode cX5_takeLetter 175 = .ok (.iadd, 1) := by decide +kernel
theorem dX5_takeLetter_176 : decode cX5_takeLetter 176 = .ok (.iload_n 3, 1) := by decide +kernel
theorem dX5_takeLetter_177 : decode cX5_takeLetter 177 = .ok (.iastore, 1) := by decide +kernel
theorem dX5_takeLetter_178 : decode cX5_takeLetter 178 = .ok (.aload_n 0, 1) := by decide +kernel
theorem dX5_takeLetter_179 : decode cX5_takeLetter 179 = .ok (.getfield 45, 3) := by decide +kernel
theorem dX5_takeLetter_182 : decode cX5_takeLetter 182 = .ok (.iload 4, 2) := by decide +kernel
theorem dX5_takeLetter_184 : decode cX5_takeLetter 184 = .ok (.iconst 1, 1) := by decide +kernel
theorem dX5_takeLetter_185 : decode cX5_takeLetter 185 = .ok (.bastore, 1) := by decide +kernel
theorem dX5_takeLetter_186 : decode cX5_takeLetter 186 = .ok (.aload_n 0, 1) := by decide +kernel
theorem dX5_takeLetter_187 : decode cX5_takeLetter 187 = .ok (.iconst 0, 1) := by decide +kernel
theorem dX5_takeLetter_188 : decode cX5_takeLetter 188 = .ok (.putfield 79, 3) := by decide +kernel
theorem dX5_takeLetter_191 : decode cX5_takeLetter 191 = .ok (.iload_n 3, 1) := by decide +kernel
theorem dX5_takeLetter_192 : decode cX5_takeLetter 192 = .ok (.iload 4, 2) := by decide +kernel
theorem dX5_takeLetter_194 : decode cX5_takeLetter 194 = .ok (.iconst 3, 1) := by decide +kernel
theorem dX5_takeLetter_195 : decode cX5_takeLetter 195 = .ok (.if_icmp .ne 7, 3) := by decide +kernel
theorem dX5_takeLetter_198 : decode cX5_takeLetter 198 = .ok (.iconst 1, 1) := by decide +kernel
theorem dX5_takeLetter_199 : decode cX5_takeLetter 199 = .ok (.goto 4, 3) := by decide +kernel
theorem dX5_takeLetter_202 : decode cX5_takeLetter 202 = .ok (.iconst 0, 1) := by decide +kernel
theorem dX5_takeLetter_203 : decode cX5_takeLetter 203 = .ok (.if_icmp .lt 7, 3) := by decide +kernel
theorem dX5_takeLetter_206 : decode cX5_takeLetter 206 = .ok (.iconst 1, 1) := by decide +kernel
theorem dX5_takeLetter_207 : decode cX5_takeLetter 207 = .ok (.goto 4, 3) := by decide +kernel
theorem dX5_takeLetter_210 : decode cX5_takeLetter 210 = .ok (.iconst 0, 1) := by decide +kernel
theorem dX5_takeLetter_211 : decode cX5_takeLetter 211 = .ok (.ireturn, 1) := by decide +kernel
theorem dX5_readText_0 : decode cX5_readText 0 = .ok (.aload_n 0, 1) := by decide +kernel
theorem dX5_readText_1 : decode cX5_readText 1 = .ok (.getfield 42, 3) := by decide +kernel
theorem dX5_readText_4 : decode cX5_readText 4 = .ok (.invokestatic 55, 3) := by decide +kernel
theorem dX5_readText_7 : decode cX5_readText 7 = .ok (.iconst 0, 1) := by decide +kernel
theorem dX5_readText_8 : decode cX5_readText 8 = .ok (.istore_n 1, 1) := by decide +kernel
theorem dX5_readText_9 : decode cX5_readText 9 = .ok (.iload_n 1, 1) := by decide +kernel
theorem dX5_readText_10 : decode cX5_readText 10 = .ok (.iconst 4, 1) := by decide +kernel
theorem dX5_readText_11 : decode cX5_readText 11 = .ok (.if_icmp .ge 16, 3) := by decide +kernel
theorem dX5_readText_14 : decode cX5_readText 14 = .ok (.aload_n 0, 1) := by decide +kernel
theorem dX5_readText_15 : decode cX5_readText 15 = .ok (.getfield 45, 3) := by decide +kernel
theorem dX5_readText_18 : decode cX5_readText 18 = .ok (.iload_n 1, 1) := by decide +kernel
theorem dX5_readText_19 : decode cX5_readText 19 = .ok (.iconst 0, 1) := by decide +kernel
theorem dX5_readText_20 : decode cX5_readText 20 = .ok (.bastore, 1) := by decide +kernel
theorem dX5_readText_21 : decode cX5_readText 21 = .ok (.iinc 1 1, 3) := by decide +kernel
theorem dX5_readText_24 : decode cX5_readText 24 = .ok (.goto (-15), 3) := by decide +kernel
theorem dX5_readText_27 : decode cX5_readText 27 = .ok (.aload_n 0, 1) := by decide +kernel
theorem dX5_readText_28 : decode cX5_readText 28 = .ok (.iconst 0, 1) := by decide +kernel
theorem dX5_readText_29 : decode cX5_readText 29 = .ok (.putfield 100, 3) := by decide +kernel
theorem dX5_readText_32 : decode cX5_readText 32 = .ok (.aload_n 0, 1) := by decide +kernel
theorem dX5_readText_33 : decode cX5_readText 33 = .ok (.iconst 0, 1) := by decide +kernel
theorem dX5_readText_34 : decode cX5_readText 34 = .ok (.putfield 79, 3) := by decide +kernel
theorem dX5_readText_37 : decode cX5_readText 37 = .ok (.iconst 0, 1) := by decide +kernel
theorem dX5_readText_38 : decode cX5_readText 38 = .ok (.istore_n 1, 1) := by decide +kernel
theorem dX5_readText_39 : decode cX5_readText 39 = .ok (.iload_n 1, 1) := by decide +kernel
theorem dX5_readText_40 : decode cX5_readText 40 = .ok (.aload_n 0, 1) := by decide +kernel
theorem dX5_readText_41 : decode cX5_readText 41 = .ok (.getfield 73, 3) := by decide +kernel
theorem dX5_readText_44 : decode cX5_readText 44 = .ok (.if_icmp .ge 25, 3) := by decide +kernel
theorem dX5_readText_47 : decode cX5_readText 47 = .ok (.aload_n 0, 1) := by decide +kernel
theorem dX5_readText_48 : decode cX5_readText 48 = .ok (.iload_n 1, 1) := by decide +kernel
theorem dX5_readText_49 : decode cX5_readText 49 = .ok (.aload_n 0, 1) := by decide +kernel
theorem dX5_readText_50 : decode cX5_readText 50 = .ok (.getfield 7, 3) := by decide +kernel
theorem dX5_readText_53 : decode cX5_readText 53 = .ok (.iload_n 1, 1) := by decide +kernel
theorem dX5_readText_54 : decode cX5_readText 54 = .ok (.iaload, 1) := by decide +kernel
theorem dX5_readText_55 : decode cX5_readText 55 = .ok (.invokevirtual 110, 3) := by decide +kernel
theorem dX5_readText_58 : decode cX5_readText 58 = .ok (.ifCond .ne 5, 3) := by decide +kernel
theorem dX5_readText_61 : decode cX5_readText 61 = .ok (.iload_n 1, 1) := by decide +kernel
theorem dX5_readText_62 : decode cX5_readText 62 = .ok (.ireturn, 1) := by decide +kernel
theorem dX5_readText_63 : decode cX5_readText 63 = .ok (.iinc 1 1, 3) := by decide +kernel
theorem dX5_readText_66 : decode cX5_readText 66 = .ok (.goto (-27), 3) := by decide +kernel
theorem dX5_readText_69 : decode cX5_readText 69 = .ok (.aload_n 0, 1) := by decide +kernel
theorem dX5_readText_70 : decode cX5_readText 70 = .ok (.getfield 73, 3) := by decide +kernel
theorem dX5_readText_73 : decode cX5_readText 73 = .ok (.iconst 3, 1) := by decide +kernel
theorem dX5_readText_74 : decode cX5_readText 74 = .ok (.if_icmp .lt 26, 3) := by decide +kernel
theorem dX5_readText_77 : decode cX5_readText 77 = .ok (.aload_n 0, 1) := by decide +kernel
theorem dX5_readText_78 : decode cX5_readText 78 = .ok (.getfield 100, 3) := by decide +kernel
theorem dX5_readText_81 : decode cX5_readText 81 = .ok (.aload_n 0, 1) := by decide +kernel
theorem dX5_readText_82 : decode cX5_readText 82 = .ok (.getfield 86, 3) := by decide +kernel
theorem dX5_readText_85 : decode cX5_readText 85 = .ok (.aload_n 0, 1) := by decide +kernel
theorem dX5_readText_86 : decode cX5_readText 86 = .ok (.getfield 89, 3) := by decide +kernel
theorem dX5_readText_89 : decode cX5_readText 89 = .ok (.imul, 1) := by decide +kernel
theorem dX5_readText_90 : decode cX5_readText 90 = .ok (.if_icmp .lt 10, 3) := by decide +kernel
theorem dX5_readText_93 : decode cX5_readText 93 = .ok (.aload_n 0, 1) := by decide +kernel
theorem dX5_readText_94 : decode cX5_readText 94 = .ok (.getfield 79, 3) := by decide +kernel
theorem dX5_readText_97 : decode cX5_readText 97 = .ok (.ifCond .le 10, 3) := by decide +kernel
theorem dX5_readText_100 : decode cX5_readText 100 = .ok (.aload_n 0, 1) := by decide +kernel
theorem dX5_readText_101 : decode cX5_readText 101 = .ok (.getfield 73, 3) := by decide +kernel
theorem dX5_readText_104 : decode cX5_readText 104 = .ok (.goto 5, 3) := by decide +kernel
theorem dX5_readText_107 : decode cX5_readText 107 = .ok (.bipush (-9), 2) := by decide +kernel
theorem dX5_readText_109 : decode cX5_readText 109 = .ok (.ireturn, 1) := by decide +kernel
theorem dX5_fault_0 : decode cX5_fault 0 = .ok (.aload_n 0, 1) := by decide +kernel
theorem dX5_fault_1 : decode cX5_fault 1 = .ok (.invokevirtual 114, 3) := by decide +kernel
theorem dX5_fault_4 : decode cX5_fault 4 = .ok (.ireturn, 1) := by decide +kernel
theorem dX5_map_0 : decode cX5_map 0 = .ok (.aload_n 0, 1) := by decide +kernel
theorem dX5_map_1 : decode cX5_map 1 = .ok (.invokevirtual 114, 3) := by decide +kernel
theorem dX5_map_4 : decode cX5_map 4 = .ok (.bipush (-9), 2) := by decide +kernel
theorem dX5_map_6 : decode cX5_map 6 = .ok (.if_icmp .eq 6, 3) := by decide +kernel
theorem dX5_map_9 : decode cX5_map 9 = .ok (.bipush (-3), 2) := by decide +kernel
theorem dX5_map_11 : decode cX5_map 11 = .ok (.ireturn, 1) := by decide +kernel
theorem dX5_map_12 : decode cX5_map 12 = .ok (.aload_n 0, 1) := by decide +kernel
theorem dX5_map_13 : decode cX5_map 13 = .ok (.aload_n 0, 1) := by decide +kernel
theorem dX5_map_14 : decode cX5_map 14 = .ok (.getfield 86, 3) := by decide +kernel
theorem dX5_map_17 : decode cX5_map 17 = .ok (.putfield 13, 3) := by decide +kernel
theorem dX5_map_20 : decode cX5_map 20 = .ok (.aload_n 0, 1) := by decide +kernel
theorem dX5_map_21 : decode cX5_map 21 = .ok (.aload_n 0, 1) := by decide +kernel
theorem dX5_map_22 : decode cX5_map 22 = .ok (.getfield 89, 3) := by decide +kernel
theorem dX5_map_25 : decode cX5_map 25 = .ok (.putfield 17, 3) := by decide +kernel
theorem dX5_map_28 : decode cX5_map 28 = .ok (.aload_n 0, 1) := by decide +kernel
theorem dX5_map_29 : decode cX5_map 29 = .ok (.getfield 42, 3) := by decide +kernel
theorem dX5_map_32 : decode cX5_map 32 = .ok (.aload_n 0, 1) := by decide +kernel
theorem dX5_map_33 : decode cX5_map 33 = .ok (.getfield 20, 3) := by decide +kernel
theorem dX5_map_36 : decode cX5_map 36 = .ok (.invokestatic 117, 3) := by decide +kernel
theorem dX5_map_39 : decode cX5_map 39 = .ok (.aload_n 0, 1) := by decide +kernel
theorem dX5_map_40 : decode cX5_map 40 = .ok (.iconst 0, 1) := by decide +kernel
theorem dX5_map_41 : decode cX5_map 41 = .ok (.putfield 121, 3) := by decide +kernel
theorem dX5_map_44 : decode cX5_map 44 = .ok (.aload_n 0, 1) := by decide +kernel
theorem dX5_map_45 : decode cX5_map 45 = .ok (.getfield 32, 3) := by decide +kernel
theorem dX5_map_48 : decode cX5_map 48 = .ok (.iconst 0, 1) := by decide +kernel
theorem dX5_map_49 : decode cX5_map 49 = .ok (.iconst 0, 1) := by decide +kernel
theorem dX5_map_50 : decode cX5_map 50 = .ok (.bastore, 1) := by decide +kernel
theorem dX5_map_51 : decode cX5_map 51 = .ok (.aload_n 0, 1) := by decide +kernel
theorem dX5_map_52 : decode cX5_map 52 = .ok (.getfield 32, 3) := by decide +kernel
theorem dX5_map_55 : decode cX5_map 55 = .ok (.iconst 1, 1) := by decide +kernel
theorem dX5_map_56 : decode cX5_map 56 = .ok (.iconst 0, 1) := by decide +kernel
theorem dX5_map_57 : decode cX5_map 57 = .ok (.bastore, 1) := by decide +kernel
theorem dX5_map_58 : decode cX5_map 58 = .ok (.aload_n 0, 1) := by decide +kernel
theorem dX5_map_59 : decode cX5_map 59 = .ok (.invokevirtual 63, 3) := by decide +kernel
theorem dX5_map_62 : decode cX5_map 62 = .ok (.ireturn, 1) := by decide +kernel
theorem dX5_size_0 : decode cX5_size 0 = .ok (.iload_n 0, 1) := by decide +kernel
theorem dX5_size_1 : decode cX5_size 1 = .ok (.ifCond .ge 8, 3) := by decide +kernel
theorem dX5_size_4 : decode cX5_size 4 = .ok (.iload_n 0, 1) := by decide +kernel
theorem dX5_size_5 : decode cX5_size 5 = .ok (.ineg, 1) := by decide +kernel
theorem dX5_size_6 : decode cX5_size 6 = .ok (.goto 4, 3) := by decide +kernel
theorem dX5_size_9 : decode cX5_size 9 = .ok (.iload_n 0, 1) := by decide +kernel
theorem dX5_size_10 : decode cX5_size 10 = .ok (.ireturn, 1) := by decide +kernel
theorem dX5_distance_0 : decode cX5_distance 0 = .ok (.iload_n 2, 1) := by decide +kernel
theorem dX5_distance_1 : decode cX5_distance 1 = .ok (.aload_n 0, 1) := by decide +kernel
theorem dX5_distance_2 : decode cX5_distance 2 = .ok (.getfield 13, 3) := by decide +kernel
theorem dX5_distance_5 : decode cX5_distance 5 = .ok (.irem, 1) := by decide +kernel
theorem dX5_distance_6 : decode cX5_distance 6 = .ok (.iload_n 1, 1) := by decide +kernel
theorem dX5_distance_7 : decode cX5_distance 7 = .ok (.aload_n 0, 1) := by decide +kernel
theorem dX5_distance_8 : decode cX5_distance 8 = .ok (.getfield 13, 3) := by decide +kernel
theorem dX5_distance_11 : decode cX5_distance 11 = .ok (.irem, 1) := by decide +kernel
theorem dX5_distance_12 : decode cX5_distance 12 = .ok (.isub, 1) := by decide +kernel
theorem dX5_distance_13 : decode cX5_distance 13 = .ok (.invokestatic 124, 3) := by decide +kernel
theorem dX5_distance_16 : decode cX5_distance 16 = .ok (.istore_n 3, 1) := by decide +kernel
theorem dX5_distance_17 : decode cX5_distance 17 = .ok (.iload_n 2, 1) := by decide +kernel
theorem dX5_distance_18 : decode cX5_distance 18 = .ok (.aload_n 0, 1) := by decide +kernel
theorem dX5_distance_19 : decode cX5_distance 19 = .ok (.getfield 13, 3) := by decide +kernel
theorem dX5_distance_22 : decode cX5_distance 22 = .ok (.idiv, 1) := by decide +kernel
theorem dX5_distance_23 : decode cX5_distance 23 = .ok (.iload_n 1, 1) := by decide +kernel
theorem dX5_distance_24 : decode cX5_distance 24 = .ok (.aload_n 0, 1) := by decide +kernel
theorem dX5_distance_25 : decode cX5_distance 25 = .ok (.getfield 13, 3) := by decide +kernel
theorem dX5_distance_28 : decode cX5_distance 28 = .ok (.idiv, 1) := by decide +kernel
theorem dX5_distance_29 : decode cX5_distance 29 = .ok (.isub, 1) := by decide +kernel
theorem dX5_distance_30 : decode cX5_distance 30 = .ok (.invokestatic 124, 3) := by decide +kernel
theorem dX5_distance_33 : decode cX5_distance 33 = .ok (.istore 4, 2) := by decide +kernel
theorem dX5_distance_35 : decode cX5_distance 35 = .ok (.iload_n 3, 1) := by decide +kernel
theorem dX5_distance_36 : decode cX5_distance 36 = .ok (.iload 4, 2) := by decide +kernel
theorem dX5_distance_38 : decode cX5_distance 38 = .ok (.if_icmp .le 7, 3) := by decide +kernel
theorem dX5_distance_41 : decode cX5_distance 41 = .ok (.iload_n 3, 1) := by decide +kernel
theorem dX5_distance_42 : decode cX5_distance 42 = .ok (.goto 5, 3) := by decide +kernel
theorem dX5_distance_45 : decode cX5_distance 45 = .ok (.iload 4, 2) := by decide +kernel
theorem dX5_distance_47 : decode cX5_distance 47 = .ok (.ireturn, 1) := by decide +kernel
theorem dX5_nearest_0 : decode cX5_nearest 0 = .ok (.iload_n 0, 1) := by decide +kernel
theorem dX5_nearest_1 : decode cX5_nearest 1 = .ok (.ifCond .lt 9, 3) := by decide +kernel
theorem dX5_nearest_4 : decode cX5_nearest 4 = .ok (.iload_n 0, 1) := by decide +kernel
theorem dX5_nearest_5 : decode cX5_nearest 5 = .ok (.iload_n 1, 1) := by decide +kernel
theorem dX5_nearest_6 : decode cX5_nearest 6 = .ok (.idiv, 1) := by decide +kernel
theorem dX5_nearest_7 : decode cX5_nearest 7 = .ok (.goto 12, 3) := by decide +kernel
theorem dX5_nearest_10 : decode cX5_nearest 10 = .ok (.iload_n 0, 1) := by decide +kernel
theorem dX5_nearest_11 : decode cX5_nearest 11 = .ok (.ineg, 1) := by decide +kernel
theorem dX5_nearest_12 : decode cX5_nearest 12 = .ok (.iload_n 1, 1) := by decide +kernel
theorem dX5_nearest_13 : decode cX5_nearest 13 = .ok (.iadd, 1) := by decide +kernel
theorem dX5_nearest_14 : decode cX5_nearest 14 = .ok (.iconst 1, 1) := by decide +kernel
theorem dX5_nearest_15 : decode cX5_nearest 15 = .ok (.isub, 1) := by decide +kernel
theorem dX5_nearest_16 : decode cX5_nearest 16 = .ok (.iload_n 1, 1) := by decide +kernel
theorem dX5_nearest_17 : decode cX5_nearest 17 = .ok (.idiv, 1) := by decide +kernel
theorem dX5_nearest_18 : decode cX5_nearest 18 = .ok (.ineg, 1) := by decide +kernel
theorem dX5_nearest_19 : decode cX5_nearest 19 = .ok (.istore_n 3, 1) := by decide +kernel
theorem dX5_nearest_20 : decode cX5_nearest 20 = .ok (.iconst 2, 1) := by decide +kernel
theorem dX5_nearest_21 : decode cX5_nearest 21 = .ok (.iload_n 0, 1) := by decide +kernel
theorem dX5_nearest_22 : decode cX5_nearest 22 = .ok (.iload_n 3, 1) := by decide +kernel
theorem dX5_nearest_23 : decode cX5_nearest 23 = .ok (.iload_n 1, 1) := by decide +kernel
theorem dX5_nearest_24 : decode cX5_nearest 24 = .ok (.imul, 1) := by decide +kernel
theorem dX5_nearest_25 : decode cX5_nearest 25 = .ok (.isub, 1) := by decide +kernel
theorem dX5_nearest_26 : decode cX5_nearest 26 = .ok (.imul, 1) := by decide +kernel
theorem dX5_nearest_27 : decode cX5_nearest 27 = .ok (.istore 4, 2) := by decide +kernel
theorem dX5_nearest_29 : decode cX5_nearest 29 = .ok (.iload 4, 2) := by decide +kernel
theorem dX5_nearest_31 : decode cX5_nearest 31 = .ok (.iload_n 1, 1) := by decide +kernel
theorem dX5_nearest_32 : decode cX5_nearest 32 = .ok (.if_icmp .gt 13, 3) := by decide +kernel
theorem dX5_nearest_35 : decode cX5_nearest 35 = .ok (.iload 4, 2) := by decide +kernel
theorem dX5_nearest_37 : decode cX5_nearest 37 = .ok (.iload_n 1, 1) := by decide +kernel
theorem dX5_nearest_38 : decode cX5_nearest 38 = .ok (.if_icmp .ne 13, 3) := by decide +kernel
theorem dX5_nearest_41 : decode cX5_nearest 41 = .ok (.iload_n 2, 1) := by decide +kernel
theorem dX5_nearest_42 : decode cX5_nearest 42 = .ok (.ifCond .eq 9, 3) := by decide +kernel
theorem dX5_nearest_45 : decode cX5_nearest 45 = .ok (.iload_n 3, 1) := by decide +kernel
theorem dX5_nearest_46 : decode cX5_nearest 46 = .ok (.iconst 1, 1) := by decide +kernel
theorem dX5_nearest_47 : decode cX5_nearest 47 = .ok (.iadd, 1) := by decide +kernel
theorem dX5_nearest_48 : decode cX5_nearest 48 = .ok (.goto 4, 3) := by decide +kernel
theorem dX5_nearest_51 : decode cX5_nearest 51 = .ok (.iload_n 3, 1) := by decide +kernel
theorem dX5_nearest_52 : decode cX5_nearest 52 = .ok (.ireturn, 1) := by decide +kernel
theorem dX5_cellAt_0 : decode cX5_cellAt 0 = .ok (.aload_n 0, 1) := by decide +kernel
theorem dX5_cellAt_1 : decode cX5_cellAt 1 = .ok (.iload_n 1, 1) := by decide +kernel
theorem dX5_cellAt_2 : decode cX5_cellAt 2 = .ok (.iload_n 2, 1) := by decide +kernel
theorem dX5_cellAt_3 : decode cX5_cellAt 3 = .ok (.invokevirtual 127, 3) := by decide +kernel
theorem dX5_cellAt_6 : decode cX5_cellAt 6 = .ok (.istore 5, 2) := by decide +kernel
theorem dX5_cellAt_8 : decode cX5_cellAt 8 = .ok (.iload_n 1, 1) := by decide +kernel
theorem dX5_cellAt_9 : decode cX5_cellAt 9 = .ok (.aload_n 0, 1) := by decide +kernel
theorem dX5_cellAt_10 : decode cX5_cellAt 10 = .ok (.getfield 13, 3) := by decide +kernel
theorem dX5_cellAt_13 : decode cX5_cellAt 13 = .ok (.irem, 1) := by decide +kernel
theorem dX5_cellAt_14 : decode cX5_cellAt 14 = .ok (.iload_n 3, 1) := by decide +kernel
theorem dX5_cellAt_15 : decode cX5_cellAt 15 = .ok (.iload_n 2, 1) := by decide +kernel
theorem dX5_cellAt_16 : decode cX5_cellAt 16 = .ok (.aload_n 0, 1) := by decide +kernel
theorem dX5_cellAt_17 : decode cX5_cellAt 17 = .ok (.getfield 13, 3) := by decide +kernel
theorem dX5_cellAt_20 : decode cX5_cellAt 20 = .ok (.irem, 1) := by decide +kernel
theorem dX5_cellAt_21 : decode cX5_cellAt 21 = .ok (.iload_n 1, 1) := by decide +kernel
theorem dX5_cellAt_22 : decode cX5_cellAt 22 = .ok (.aload_n 0, 1) := by decide +kernel
theorem dX5_cellAt_23 : decode cX5_cellAt 23 = .ok (.getfield 13, 3) := by decide +kernel
theorem dX5_cellAt_26 : decode cX5_cellAt 26 = .ok (.irem, 1) := by decide +kernel
theorem dX5_cellAt_27 : decode cX5_cellAt 27 = .ok (.isub, 1) := by decide +kernel
theorem dX5_cellAt_28 : decode cX5_cellAt 28 = .ok (.imul, 1) := by decide +kernel
theorem dX5_cellAt_29 : decode cX5_cellAt 29 = .ok (.iload 5, 2) := by decide +kernel
theorem dX5_cellAt_31 : decode cX5_cellAt 31 = .ok (.iload 4, 2) := by decide +kernel
theorem dX5_cellAt_33 : decode cX5_cellAt 33 = .ok (.invokestatic 131, 3) := by decide +kernel
theorem dX5_cellAt_36 : decode cX5_cellAt 36 = .ok (.iadd, 1) := by decide +kernel
theorem dX5_cellAt_37 : decode cX5_cellAt 37 = .ok (.istore 6, 2) := by decide +kernel
theorem dX5_cellAt_39 : decode cX5_cellAt 39 = .ok (.iload_n 1, 1) := by decide +kernel
theorem dX5_cellAt_40 : decode cX5_cellAt 40 = .ok (.aload_n 0, 1) := by decide +kernel
theorem dX5_cellAt_41 : decode cX5_cellAt 41 = .ok (.getfield 13, 3) := by decide +kernel
theorem dX5_cellAt_44 : decode cX5_cellAt 44 = .ok (.idiv, 1) := by decide +kernel
theorem dX5_cellAt_45 : decode cX5_cellAt 45 = .ok (.iload_n 3, 1) := by decide +kernel
theorem dX5_cellAt_46 : decode cX5_cellAt 46 = .ok (.iload_n 2, 1) := by decide +kernel
theorem dX5_cellAt_47 : decode cX5_cellAt 47 = .ok (.aload_n 0, 1) := by decide +kernel
theorem dX5_cellAt_48 : decode cX5_cellAt 48 = .ok (.getfield 13, 3) := by decide +kernel
theorem dX5_cellAt_51 : decode cX5_cellAt 51 = .ok (.idiv, 1) := by decide +kernel
theorem dX5_cellAt_52 : decode cX5_cellAt 52 = .ok (.iload_n 1, 1) := by decide +kernel
theorem dX5_cellAt_53 : decode cX5_cellAt 53 = .ok (.aload_n 0, 1) := by decide +kernel
theorem dX5_cellAt_54 : decode cX5_cellAt 54 = .ok (.getfield 13, 3) := by decide +kernel
theorem dX5_cellAt_57 : decode cX5_cellAt 57 = .ok (.idiv, 1) := by decide +kernel
theorem dX5_cellAt_58 : decode cX5_cellAt 58 = .ok (.isub, 1) := by decide +kernel
theorem dX5_cellAt_59 : decode cX5_cellAt 59 = .ok (.imul, 1) := by decide +kernel
theorem dX5_cellAt_60 : decode cX5_cellAt 60 = .ok (.iload 5, 2) := by decide +kernel
theorem dX5_cellAt_62 : decode cX5_cellAt 62 = .ok (.iload 4, 2) := by decide +kernel
theorem dX5_cellAt_64 : decode cX5_cellAt 64 = .ok (.invokestatic 131, 3) := by decide +kernel
theorem dX5_cellAt_67 : decode cX5_cellAt 67 = .ok (.iadd, 1) := by decide +kernel
theorem dX5_cellAt_68 : decode cX5_cellAt 68 = .ok (.istore 7, 2) := by decide +kernel
theorem dX5_cellAt_70 : decode cX5_cellAt 70 = .ok (.aload_n 0, 1) := by decide +kernel
theorem dX5_cellAt_71 : decode cX5_cellAt 71 = .ok (.getfield 13, 3) := by decide +kernel
theorem dX5_cellAt_74 : decode cX5_cellAt 74 = .ok (.iload 7, 2) := by decide +kernel
theorem dX5_cellAt_76 : decode cX5_cellAt 76 = .ok (.imul, 1) := by decide +kernel
theorem dX5_cellAt_77 : decode cX5_cellAt 77 = .ok (.iload 6, 2) := by decide +kernel
theorem dX5_cellAt_79 : decode cX5_cellAt 79 = .ok (.iadd, 1) := by decide +kernel
theorem dX5_cellAt_80 : decode cX5_cellAt 80 = .ok (.ireturn, 1) := by decide +kernel
theorem dX5_overBy_0 : decode cX5_overBy 0 = .ok (.aload_n 0, 1) := by decide +kernel
theorem dX5_overBy_1 : decode cX5_overBy 1 = .ok (.iload_n 2, 1) := by decide +kernel
theorem dX5_overBy_2 : decode cX5_overBy 2 = .ok (.iload 4, 2) := by decide +kernel
theorem dX5_overBy_4 : decode cX5_overBy 4 = .ok (.invokevirtual 127, 3) := by decide +kernel
theorem dX5_overBy_7 : decode cX5_overBy 7 = .ok (.istore 7, 2) := by decide +kernel
theorem dX5_overBy_9 : decode cX5_overBy 9 = .ok (.aload_n 1, 1) := by decide +kernel
theorem dX5_overBy_10 : decode cX5_overBy 10 = .ok (.aload_n 0, 1) := by decide +kernel
theorem dX5_overBy_11 : decode cX5_overBy 11 = .ok (.iload_n 2, 1) := by decide +kernel
theorem dX5_overBy_12 : decode cX5_overBy 12 = .ok (.iload 4, 2) := by decide +kernel
theorem dX5_overBy_14 : decode cX5_overBy 14 = .ok (.iload 5, 2) := by decide +kernel
theorem dX5_overBy_16 : decode cX5_overBy 16 = .ok (.iload 6, 2) := by decide +kernel
theorem dX5_overBy_18 : decode cX5_overBy 18 = .ok (.invokevirtual 135, 3) := by decide +kernel
theorem dX5_overBy_21 : decode cX5_overBy 21 = .ok (.iaload, 1) := by decide +kernel
theorem dX5_overBy_22 : decode cX5_overBy 22 = .ok (.istore 8, 2) := by decide +kernel
theorem dX5_overBy_24 : decode cX5_overBy 24 = .ok (.aload_n 1, 1) := by decide +kernel
theorem dX5_overBy_25 : decode cX5_overBy 25 = .ok (.iload 4, 2) := by decide +kernel
theorem dX5_overBy_27 : decode cX5_overBy 27 = .ok (.iaload, 1) := by decide +kernel
theorem dX5_overBy_28 : decode cX5_overBy 28 = .ok (.aload_n 1, 1) := by decide +kernel
theorem dX5_overBy_29 : decode cX5_overBy 29 = .ok (.bipush 48, 2) := by decide +kernel
theorem dX5_overBy_31 : decode cX5_overBy 31 = .ok (.iaload, 1) := by decide +kernel
theorem dX5_overBy_32 : decode cX5_overBy 32 = .ok (.iadd, 1) := by decide +kernel
theorem dX5_overBy_33 : decode cX5_overBy 33 = .ok (.istore 9, 2) := by decide +kernel
theorem dX5_overBy_35 : decode cX5_overBy 35 = .ok (.bipush 10, 2) := by decide +kernel
theorem dX5_overBy_37 : decode cX5_overBy 37 = .ok (.iload 7, 2) := by decide +kernel
theorem dX5_overBy_39 : decode cX5_overBy 39 = .ok (.imul, 1) := by decide +kernel
theorem dX5_overBy_40 : decode cX5_overBy 40 = .ok (.iload 8, 2) := by decide +kernel
theorem dX5_overBy_42 : decode cX5_overBy 42 = .ok (.imul, 1) := by decide +kernel
theorem dX5_overBy_43 : decode cX5_overBy 43 = .ok (.iload 7, 2) := by decide +kernel
theorem dX5_overBy_45 : decode cX5_overBy 45 = .ok (.aload_n 1, 1) := by decide +kernel
theorem dX5_overBy_46 : decode cX5_overBy 46 = .ok (.bipush 49, 2) := by decide +kernel
theorem dX5_overBy_48 : decode cX5_overBy 48 = .ok (.iaload, 1) := by decide +kernel
theorem dX5_overBy_49 : decode cX5_overBy 49 = .ok (.imul, 1) := by decide +kernel
theorem dX5_overBy_50 : decode cX5_overBy 50 = .ok (.iload 5, 2) := by decide +kernel
theorem dX5_overBy_52 : decode cX5_overBy 52 = .ok (.imul, 1) := by decide +kernel
theorem dX5_overBy_53 : decode cX5_overBy 53 = .ok (.iload 7, 2) := by decide +kernel
theorem dX5_overBy_55 : decode cX5_overBy 55 = .ok (.iload 5, 2) := by decide +kernel
theorem dX5_overBy_57 : decode cX5_overBy 57 = .ok (.isub, 1) := by decide +kernel
theorem dX5_overBy_58 : decode cX5_overBy 58 = .ok (.imul, 1) := by decide +kernel
theorem dX5_overBy_59 : decode cX5_overBy 59 = .ok (.iadd, 1) := by decide +kernel
theorem dX5_overBy_60 : decode cX5_overBy 60 = .ok (.bipush 10, 2) := by decide +kernel
theorem dX5_overBy_62 : decode cX5_overBy 62 = .ok (.iload_n 3, 1) := by decide +kernel
theorem dX5_overBy_63 : decode cX5_overBy 63 = .ok (.iload 7, 2) := by decide +kernel
theorem dX5_overBy_65 : decode cX5_overBy 65 = .ok (.iload 5, 2) := by decide +kernel
theorem dX5_overBy_67 : decode cX5_overBy 67 = .ok (.isub, 1) := by decide +kernel
theorem dX5_overBy_68 : decode cX5_overBy 68 = .ok (.imul, 1) := by decide +kernel
theorem dX5_overBy_69 : decode cX5_overBy 69 = .ok (.iload 9, 2) := by decide +kernel
theorem dX5_overBy_71 : decode cX5_overBy 71 = .ok (.iload 5, 2) := by decide +kernel
theorem dX5_overBy_73 : decode cX5_overBy 73 = .ok (.imul, 1) := by decide +kernel
theorem dX5_overBy_74 : decode cX5_overBy 74 = .ok (.iadd, 1) := by decide +kernel
theorem dX5_overBy_75 : decode cX5_overBy 75 = .ok (.imul, 1) := by decide +kernel
theorem dX5_overBy_76 : decode cX5_overBy 76 = .ok (.isub, 1) := by decide +kernel
theorem dX5_overBy_77 : decode cX5_overBy 77 = .ok (.ireturn, 1) := by decide +kernel
theorem dX5_over_0 : decode cX5_over 0 = .ok (.aload_n 0, 1) := by decide +kernel
theorem dX5_over_1 : decode cX5_over 1 = .ok (.aload_n 1, 1) := by decide +kernel
theorem dX5_over_2 : decode cX5_over 2 = .ok (.iload_n 2, 1) := by decide +kernel
theorem dX5_over_3 : decode cX5_over 3 = .ok (.iload_n 3, 1) := by decide +kernel
theorem dX5_over_4 : decode cX5_over 4 = .ok (.iload 4, 2) := by decide +kernel
theorem dX5_over_6 : decode cX5_over 6 = .ok (.iload 5, 2) := by decide +kernel
theorem dX5_over_8 : decode cX5_over 8 = .ok (.iconst 0, 1) := by decide +kernel
theorem dX5_over_9 : decode cX5_over 9 = .ok (.invokevirtual 139, 3) := by decide +kernel
theorem dX5_over_12 : decode cX5_over 12 = .ok (.istore 6, 2) := by decide +kernel
theorem dX5_over_14 : decode cX5_over 14 = .ok (.aload_n 0, 1) := by decide +kernel
theorem dX5_over_15 : decode cX5_over 15 = .ok (.aload_n 1, 1) := by decide +kernel
theorem dX5_over_16 : decode cX5_over 16 = .ok (.iload_n 2, 1) := by decide +kernel
theorem dX5_over_17 : decode cX5_over 17 = .ok (.iload_n 3, 1) := by decide +kernel
theorem dX5_over_18 : decode cX5_over 18 = .ok (.iload 4, 2) := by decide +kernel
theorem dX5_over_20 : decode cX5_over 20 = .ok (.iload 5, 2) := by decide +kernel
theorem dX5_over_22 : decode cX5_over 22 = .ok (.iconst 1, 1) := by decide +kernel
theorem dX5_over_23 : decode cX5_over 23 = .ok (.invokevirtual 139, 3) := by decide +kernel
theorem dX5_over_26 : decode cX5_over 26 = .ok (.istore 7, 2) := by decide +kernel
theorem dX5_over_28 : decode cX5_over 28 = .ok (.iload 6, 2) := by decide +kernel
theorem dX5_over_30 : decode cX5_over 30 = .ok (.iload 7, 2) := by decide +kernel
theorem dX5_over_32 : decode cX5_over 32 = .ok (.if_icmp .le 8, 3) := by decide +kernel
theorem dX5_over_35 : decode cX5_over 35 = .ok (.iload 6, 2) := by decide +kernel
theorem dX5_over_37 : decode cX5_over 37 = .ok (.goto 5, 3) := by decide +kernel
theorem dX5_over_40 : decode cX5_over 40 = .ok (.iload 7, 2) := by decide +kernel
theorem dX5_over_42 : decode cX5_over 42 = .ok (.ireturn, 1) := by decide +kernel
theorem dX5_mostOver_0 : decode cX5_mostOver 0 = .ok (.ldc 143, 2) := by decide +kernel
theorem dX5_mostOver_2 : decode cX5_mostOver 2 = .ok (.istore 5, 2) := by decide +kernel
theorem dX5_mostOver_4 : decode cX5_mostOver 4 = .ok (.iconst 1, 1) := by decide +kernel
theorem dX5_mostOver_5 : decode cX5_mostOver 5 = .ok (.istore 6, 2) := by decide +kernel
theorem dX5_mostOver_7 : decode cX5_mostOver 7 = .ok (.iload 6, 2) := by decide +kernel
theorem dX5_mostOver_9 : decode cX5_mostOver 9 = .ok (.aload_n 0, 1) := by decide +kernel
theorem dX5_mostOver_10 : decode cX5_mostOver 10 = .ok (.iload_n 2, 1) := by decide +kernel
theorem dX5_mostOver_11 : decode cX5_mostOver 11 = .ok (.iload 4, 2) := by decide +kernel
theorem dX5_mostOver_13 : decode cX5_mostOver 13 = .ok (.invokevirtual 127, 3) := by decide +kernel
theorem dX5_mostOver_16 : decode cX5_mostOver 16 = .ok (.if_icmp .ge 38, 3) := by decide +kernel
theorem dX5_mostOver_19 : decode cX5_mostOver 19 = .ok (.aload_n 0, 1) := by decide +kernel
theorem dX5_mostOver_20 : decode cX5_mostOver 20 = .ok (.aload_n 1, 1) := by decide +kernel
theorem dX5_mostOver_21 : decode cX5_mostOver 21 = .ok (.iload_n 2, 1) := by decide +kernel
theorem dX5_mostOver_22 : decode cX5_mostOver 22 = .ok (.iload_n 3, 1) := by decide +kernel
theorem dX5_mostOver_23 : decode cX5_mostOver 23 = .ok (.iload 4, 2) := by decide +kernel
theorem dX5_mostOver_25 : decode cX5_mostOver 25 = .ok (.iload 6, 2) := by decide +kernel
theorem dX5_mostOver_27 : decode cX5_mostOver 27 = .ok (.invokevirtual 144, 3) := by decide +kernel
theorem dX5_mostOver_30 : decode cX5_mostOver 30 = .ok (.istore 7, 2) := by decide +kernel
theorem dX5_mostOver_32 : decode cX5_mostOver 32 = .ok (.iload 7, 2) := by decide +kernel
theorem dX5_mostOver_34 : decode cX5_mostOver 34 = .ok (.iload 5, 2) := by decide +kernel
theorem dX5_mostOver_36 : decode cX5_mostOver 36 = .ok (.if_icmp .le 8, 3) := by decide +kernel
theorem dX5_mostOver_39 : decode cX5_mostOver 39 = .ok (.iload 7, 2) := by decide +kernel
theorem dX5_mostOver_41 : decode cX5_mostOver 41 = .ok (.goto 5, 3) := by decide +kernel
theorem dX5_mostOver_44 : decode cX5_mostOver 44 = .ok (.iload 5, 2) := by decide +kernel
theorem dX5_mostOver_46 : decode cX5_mostOver 46 = .ok (.istore 5, 2) := by decide +kernel
theorem dX5_mostOver_48 : decode cX5_mostOver 48 = .ok (.iinc 6 1, 3) := by decide +kernel
theorem dX5_mostOver_51 : decode cX5_mostOver 51 = .ok (.goto (-44), 3) := by decide +kernel
theorem dX5_mostOver_54 : decode cX5_mostOver 54 = .ok (.iload 5, 2) := by decide +kernel
theorem dX5_mostOver_56 : decode cX5_mostOver 56 = .ok (.ireturn, 1) := by decide +kernel
theorem dX5_isSeen_0 : decode cX5_isSeen 0 = .ok (.iload_n 2, 1) := by decide +kernel
theorem dX5_isSeen_1 : decode cX5_isSeen 1 = .ok (.iload 4, 2) := by decide +kernel
theorem dX5_isSeen_3 : decode cX5_isSeen 3 = .ok (.if_icmp .eq 33, 3) := by decide +kernel
theorem dX5_isSeen_6 : decode cX5_isSeen 6 = .ok (.aload_n 0, 1) := by decide +kernel
theorem dX5_isSeen_7 : decode cX5_isSeen 7 = .ok (.iload_n 2, 1) := by decide +kernel
theorem dX5_isSeen_8 : decode cX5_isSeen 8 = .ok (.iload 4, 2) := by decide +kernel
theorem dX5_isSeen_10 : decode cX5_isSeen 10 = .ok (.invokevirtual 127, 3) := by decide +kernel
theorem dX5_isSeen_13 : decode cX5_isSeen 13 = .ok (.aload_n 1, 1) := by decide +kernel
theorem dX5_isSeen_14 : decode cX5_isSeen 14 = .ok (.bipush 50, 2) := by decide +kernel
theorem dX5_isSeen_16 : decode cX5_isSeen 16 = .ok (.iaload, 1) := by decide +kernel
theorem dX5_isSeen_17 : decode cX5_isSeen 17 = .ok (.if_icmp .gt 23, 3) := by decide +kernel
theorem dX5_isSeen_20 : decode cX5_isSeen 20 = .ok (.aload_n 0, 1) := by decide +kernel
theorem dX5_isSeen_21 : decode cX5_isSeen 21 = .ok (.aload_n 1, 1) := by decide +kernel
theorem dX5_isSeen_22 : decode cX5_isSeen 22 = .ok (.iload_n 2, 1) := by decide +kernel
theorem dX5_isSeen_23 : decode cX5_isSeen 23 = .ok (.aload_n 1, 1) := by decide +kernel
theorem dX5_isSeen_24 : decode cX5_isSeen 24 = .ok (.iload_n 2, 1) := by decide +kernel
theorem dX5_isSeen_25 : decode cX5_isSeen 25 = .ok (.iaload, 1) := by decide +kernel
theorem dX5_isSeen_26 : decode cX5_isSeen 26 = .ok (.iload_n 3, 1) := by decide +kernel
theorem dX5_isSeen_27 : decode cX5_isSeen 27 = .ok (.iadd, 1) := by decide +kernel
theorem dX5_isSeen_28 : decode cX5_isSeen 28 = .ok (.iload 4, 2) := by decide +kernel
theorem dX5_isSeen_30 : decode cX5_isSeen 30 = .ok (.invokevirtual 148, 3) := by decide +kernel
theorem dX5_isSeen_33 : decode cX5_isSeen 33 = .ok (.ifCond .gt 7, 3) := by decide +kernel
theorem dX5_isSeen_36 : decode cX5_isSeen 36 = .ok (.iconst 1, 1) := by decide +kernel
theorem dX5_isSeen_37 : decode cX5_isSeen 37 = .ok (.goto 4, 3) := by decide +kernel
theorem dX5_isSeen_40 : decode cX5_isSeen 40 = .ok (.iconst 0, 1) := by decide +kernel
theorem dX5_isSeen_41 : decode cX5_isSeen 41 = .ok (.ireturn, 1) := by decide +kernel
theorem dX5_viewOf_0 : decode cX5_viewOf 0 = .ok (.lconst 0, 1) := by decide +kernel
theorem dX5_viewOf_1 : decode cX5_viewOf 1 = .ok (.lstore 4, 2) := by decide +kernel
theorem dX5_viewOf_3 : decode cX5_viewOf 3 = .ok (.iconst 0, 1) := by decide +kernel
theorem dX5_viewOf_4 : decode cX5_viewOf 4 = .ok (.istore 6, 2) := by decide +kernel
theorem dX5_viewOf_6 : decode cX5_viewOf 6 = .ok (.iload 6, 2) := by decide +kernel
theorem dX5_viewOf_8 : decode cX5_viewOf 8 = .ok (.aload_n 0, 1) := by decide +kernel
theorem dX5_viewOf_9 : decode cX5_viewOf 9 = .ok (.invokevirtual 63, 3) := by decide +kernel
theorem dX5_viewOf_12 : decode cX5_viewOf 12 = .ok (.if_icmp .ge 34, 3) := by decide +kernel
theorem dX5_viewOf_15 : decode cX5_viewOf 15 = .ok (.lload 4, 2) := by decide +kernel
theorem dX5_viewOf_17 : decode cX5_viewOf 17 = .ok (.aload_n 0, 1) := by decide +kernel
theorem dX5_viewOf_18 : decode cX5_viewOf 18 = .ok (.aload_n 1, 1) := by decide +kernel
theorem dX5_viewOf_19 : decode cX5_viewOf 19 = .ok (.iload_n 2, 1) := by decide +kernel
theorem dX5_viewOf_20 : decode cX5_viewOf 20 = .ok (.iload_n 3, 1) := by decide +kernel
theorem dX5_viewOf_21 : decode cX5_viewOf 21 = .ok (.iload 6, 2) := by decide +kernel
theorem dX5_viewOf_23 : decode cX5_viewOf 23 = .ok (.invokevirtual 152, 3) := by decide +kernel
theorem dX5_viewOf_26 : decode cX5_viewOf 26 = .ok (.ifCond .eq 10, 3) := by decide +kernel
theorem dX5_viewOf_29 : decode cX5_viewOf 29 = .ok (.lconst 1, 1) := by decide +kernel
theorem dX5_viewOf_30 : decode cX5_viewOf 30 = .ok (.iload 6, 2) := by decide +kernel
theorem dX5_viewOf_32 : decode cX5_viewOf 32 = .ok (.lshl, 1) := by decide +kernel
theorem dX5_viewOf_33 : decode cX5_viewOf 33 = .ok (.goto 4, 3) := by decide +kernel
theorem dX5_viewOf_36 : decode cX5_viewOf 36 = .ok (.lconst 0, 1) := by decide +kernel
theorem dX5_viewOf_37 : decode cX5_viewOf 37 = .ok (.lor, 1) := by decide +kernel
theorem dX5_viewOf_38 : decode cX5_viewOf 38 = .ok (.lstore 4, 2) := by decide +kernel
theorem dX5_viewOf_40 : decode cX5_viewOf 40 = .ok (.iinc 6 1, 3) := by decide +kernel
theorem dX5_viewOf_43 : decode cX5_viewOf 43 = .ok (.goto (-37), 3) := by decide +kernel
theorem dX5_viewOf_46 : decode cX5_viewOf 46 = .ok (.lload 4, 2) := by decide +kernel
theorem dX5_viewOf_48 : decode cX5_viewOf 48 = .ok (.lreturn, 1) := by decide +kernel
theorem dX5_watchedBy_0 : decode cX5_watchedBy 0 = .ok (.aload_n 0, 1) := by decide +kernel
theorem dX5_watchedBy_1 : decode cX5_watchedBy 1 = .ok (.aload_n 1, 1) := by decide +kernel
theorem dX5_watchedBy_2 : decode cX5_watchedBy 2 = .ok (.aload_n 1, 1) := by decide +kernel
theorem dX5_watchedBy_3 : decode cX5_watchedBy 3 = .ok (.bipush 37, 2) := by decide +kernel
theorem dX5_watchedBy_5 : decode cX5_watchedBy 5 = .ok (.iload_n 2, 1) := by decide +kernel
theorem dX5_watchedBy_6 : decode cX5_watchedBy 6 = .ok (.iadd, 1) := by decide +kernel
theorem dX5_watchedBy_7 : decode cX5_watchedBy 7 = .ok (.iaload, 1) := by decide +kernel
theorem dX5_watchedBy_8 : decode cX5_watchedBy 8 = .ok (.aload_n 1, 1) := by decide +kernel
theorem dX5_watchedBy_9 : decode cX5_watchedBy 9 = .ok (.bipush 42, 2) := by decide +kernel
theorem dX5_watchedBy_11 : decode cX5_watchedBy 11 = .ok (.iload_n 2, 1) := by decide +kernel
theorem dX5_watchedBy_12 : decode cX5_watchedBy 12 = .ok (.iadd, 1) := by decide +kernel
theorem dX5_watchedBy_13 : decode cX5_watchedBy 13 = .ok (.iaload, 1) := by decide +kernel
theorem dX5_watchedBy_14 : decode cX5_watchedBy 14 = .ok (.invokevirtual 156, 3) := by decide +kernel
theorem dX5_watchedBy_17 : decode cX5_watchedBy 17 = .ok (.lreturn, 1) := by decide +kernel
theorem dX5_watchedByAny_0 : decode cX5_watchedByAny 0 = .ok (.lconst 0, 1) := by decide +kernel
theorem dX5_watchedByAny_1 : decode cX5_watchedByAny 1 = .ok (.lstore_n 2, 1) := by decide +kernel
theorem dX5_watchedByAny_2 : decode cX5_watchedByAny 2 = .ok (.iconst 0, 1) := by decide +kernel
theorem dX5_watchedByAny_3 : decode cX5_watchedByAny 3 = .ok (.istore 4, 2) := by decide +kernel
theorem dX5_watchedByAny_5 : decode cX5_watchedByAny 5 = .ok (.iload 4, 2) := by decide +kernel
theorem dX5_watchedByAny_7 : decode cX5_watchedByAny 7 = .ok (.aload_n 1, 1) := by decide +kernel
theorem dX5_watchedByAny_8 : decode cX5_watchedByAny 8 = .ok (.bipush 36, 2) := by decide +kernel
theorem dX5_watchedByAny_10 : decode cX5_watchedByAny 10 = .ok (.iaload, 1) := by decide +kernel
theorem dX5_watchedByAny_11 : decode cX5_watchedByAny 11 = .ok (.if_icmp .ge 19, 3) := by decide +kernel
theorem dX5_watchedByAny_14 : decode cX5_watchedByAny 14 = .ok (.lload_n 2, 1) := by decide +kernel
theorem dX5_watchedByAny_15 : decode cX5_watchedByAny 15 = .ok (.aload_n 0, 1) := by decide +kernel
theorem dX5_watchedByAny_16 : decode cX5_watchedByAny 16 = .ok (.aload_n 1, 1) := by decide +kernel
theorem dX5_watchedByAny_17 : decode cX5_watchedByAny 17 = .ok (.iload 4, 2) := by decide +kernel
theorem dX5_watchedByAny_19 : decode cX5_watchedByAny 19 = .ok (.invokevirtual 160, 3) := by decide +kernel
theorem dX5_watchedByAny_22 : decode cX5_watchedByAny 22 = .ok (.lor, 1) := by decide +kernel
theorem dX5_watchedByAny_23 : decode cX5_watchedByAny 23 = .ok (.lstore_n 2, 1) := by decide +kernel
theorem dX5_watchedByAny_24 : decode cX5_watchedByAny 24 = .ok (.iinc 4 1, 3) := by decide +kernel
theorem dX5_watchedByAny_27 : decode cX5_watchedByAny 27 = .ok (.goto (-22), 3) := by decide +kernel
theorem dX5_watchedByAny_30 : decode cX5_watchedByAny 30 = .ok (.lload_n 2, 1) := by decide +kernel
theorem dX5_watchedByAny_31 : decode cX5_watchedByAny 31 = .ok (.lreturn, 1) := by decide +kernel
theorem dX5_hidden_0 : decode cX5_hidden 0 = .ok (.aload_n 0, 1) := by decide +kernel
theorem dX5_hidden_1 : decode cX5_hidden 1 = .ok (.invokevirtual 63, 3) := by decide +kernel
theorem dX5_hidden_4 : decode cX5_hidden 4 = .ok (.aload_n 0, 1) := by decide +kernel
theorem dX5_hidden_5 : decode cX5_hidden 5 = .ok (.aload_n 1, 1) := by decide +kernel
theorem dX5_hidden_6 : decode cX5_hidden 6 = .ok (.invokevirtual 164, 3) := by decide +kernel
theorem dX5_hidden_9 : decode cX5_hidden 9 = .ok (.invokestatic 168, 3) := by decide +kernel
theorem dX5_hidden_12 : decode cX5_hidden 12 = .ok (.isub, 1) := by decide +kernel
theorem dX5_hidden_13 : decode cX5_hidden 13 = .ok (.ireturn, 1) := by decide +kernel
theorem dX5_layHollows_0 : decode cX5_layHollows 0 = .ok (.aload_n 0, 1) := by decide +kernel
theorem dX5_layHollows_1 : decode cX5_layHollows 1 = .ok (.aload_n 1, 1) := by decide +kernel
theorem dX5_layHollows_2 : decode cX5_layHollows 2 = .ok (.invokevirtual 164, 3) := by decide +kernel
theorem dX5_layHollows_5 : decode cX5_layHollows 5 = .ok (.lstore_n 2, 1) := by decide +kernel
theorem dX5_layHollows_6 : decode cX5_layHollows 6 = .ok (.iconst 0, 1) := by decide +kernel
theorem dX5_layHollows_7 : decode cX5_layHollows 7 = .ok (.istore 4, 2) := by decide +kernel
theorem dX5_layHollows_9 : decode cX5_layHollows 9 = .ok (.iload 4, 2) := by decide +kernel
theorem dX5_layHollows_11 : decode cX5_layHollows 11 = .ok (.aload_n 0, 1) := by decide +kernel
theorem dX5_layHollows_12 : decode cX5_layHollows 12 = .ok (.invokevirtual 63, 3) := by decide +kernel
theorem dX5_layHollows_15 : decode cX5_layHollows 15 = .ok (.if_icmp .ge 32, 3) := by decide +kernel
theorem dX5_layHollows_18 : decode cX5_layHollows 18 = .ok (.aload_n 0, 1) := by decide +kernel
theorem dX5_layHollows_19 : decode cX5_layHollows 19 = .ok (.getfield 52, 3) := by decide +kernel
theorem dX5_layHollows_22 : decode cX5_layHollows 22 = .ok (.iload 4, 2) := by decide +kernel
theorem dX5_layHollows_24 : decode cX5_layHollows 24 = .ok (.lload_n 2, 1) := by decide +kernel
theorem dX5_layHollows_25 : decode cX5_layHollows 25 = .ok (.iload 4, 2) := by decide +kernel
theorem dX5_layHollows_27 : decode cX5_layHollows 27 = .ok (.invokestatic 59, 3) := by decide +kernel
theorem dX5_layHollows_30 : decode cX5_layHollows 30 = .ok (.ifCond .eq 8, 3) := by decide +kernel
theorem dX5_layHollows_33 : decode cX5_layHollows 33 = .ok (.bipush (-9), 2) := by decide +kernel
theorem dX5_layHollows_35 : decode cX5_layHollows 35 = .ok (.goto 5, 3) := by decide +kernel
theorem dX5_layHollows_38 : decode cX5_layHollows 38 = .ok (.iload 4, 2) := by decide +kernel
theorem dX5_layHollows_40 : decode cX5_layHollows 40 = .ok (.iastore, 1) := by decide +kernel
theorem dX5_layHollows_41 : decode cX5_layHollows 41 = .ok (.iinc 4 1, 3) := by decide +kernel
theorem dX5_layHollows_44 : decode cX5_layHollows 44 = .ok (.goto (-35), 3) := by decide +kernel
theorem dX5_layHollows_47 : decode cX5_layHollows 47 = .ok (.iconst 1, 1) := by decide +kernel
theorem dX5_layHollows_48 : decode cX5_layHollows 48 = .ok (.istore 4, 2) := by decide +kernel
theorem dX5_layHollows_50 : decode cX5_layHollows 50 = .ok (.iload 4, 2) := by decide +kernel
theorem dX5_layHollows_52 : decode cX5_layHollows 52 = .ok (.ifCond .eq 120, 3) := by decide +kernel
theorem dX5_layHollows_55 : decode cX5_layHollows 55 = .ok (.iconst 0, 1) := by decide +kernel
theorem dX5_layHollows_56 : decode cX5_layHollows 56 = .ok (.istore 4, 2) := by decide +kernel
theorem dX5_layHollows_58 : decode cX5_layHollows 58 = .ok (.iconst 0, 1) := by decide +kernel
theorem dX5_layHollows_59 : decode cX5_layHollows 59 = .ok (.istore 5, 2) := by decide +kernel
theorem dX5_layHollows_61 : decode cX5_layHollows 61 = .ok (.iload 5, 2) := by decide +kernel
theorem dX5_layHollows_63 : decode cX5_layHollows 63 = .ok (.aload_n 0, 1) := by decide +kernel
theorem dX5_layHollows_64 : decode cX5_layHollows 64 = .ok (.invokevirtual 63, 3) := by decide +kernel
theorem dX5_layHollows_67 : decode cX5_layHollows 67 = .ok (.if_icmp .ge 102, 3) := by decide +kernel
theorem dX5_layHollows_70 : decode cX5_layHollows 70 = .ok (.aload_n 0, 1) := by decide +kernel
theorem dX5_layHollows_71 : decode cX5_layHollows 71 = .ok (.iload 5, 2) := by decide +kernel
theorem dX5_layHollows_73 : decode cX5_layHollows 73 = .ok (.iload 5, 2) := by decide +kernel
theorem dX5_layHollows_75 : decode cX5_layHollows 75 = .ok (.aload_n 0, 1) := by decide +kernel
theorem dX5_layHollows_76 : decode cX5_layHollows 76 = .ok (.getfield 13, 3) := by decide +kernel
theorem dX5_layHollows_79 : decode cX5_layHollows 79 = .ok (.irem, 1) := by decide +kernel
theorem dX5_layHollows_80 : decode cX5_layHollows 80 = .ok (.iconst 1, 1) := by decide +kernel
theorem dX5_layHollows_81 : decode cX5_layHollows 81 = .ok (.iadd, 1) := by decide +kernel
theorem dX5_layHollows_82 : decode cX5_layHollows 82 = .ok (.aload_n 0, 1) := by decide +kernel
theorem dX5_layHollows_83 : decode cX5_layHollows 83 = .ok (.getfield 13, 3) := by decide +kernel
theorem dX5_layHollows_86 : decode cX5_layHollows 86 = .ok (.if_icmp .ge 10, 3) := by decide +kernel
theorem dX5_layHollows_89 : decode cX5_layHollows 89 = .ok (.iload 5, 2) := by decide +kernel
theorem dX5_layHollows_91 : decode cX5_layHollows 91 = .ok (.iconst 1, 1) := by decide +kernel
theorem dX5_layHollows_92 : decode cX5_layHollows 92 = .ok (.iadd, 1) := by decide +kernel
theorem dX5_layHollows_93 : decode cX5_layHollows 93 = .ok (.goto 5, 3) := by decide +kernel
theorem dX5_layHollows_96 : decode cX5_layHollows 96 = .ok (.iload 5, 2) := by decide +kernel
theorem dX5_layHollows_98 : decode cX5_layHollows 98 = .ok (.invokevirtual 172, 3) := by decide +kernel
theorem dX5_layHollows_101 : decode cX5_layHollows 101 = .ok (.ifCond .ne 8, 3) := by decide +kernel
theorem dX5_layHollows_104 : decode cX5_layHollows 104 = .ok (.iload 4, 2) := by decide +kernel
theorem dX5_layHollows_106 : decode cX5_layHollows 106 = .ok (.ifCond .eq 7, 3) := by decide +kernel
theorem dX5_layHollows_109 : decode cX5_layHollows 109 = .ok (.iconst 1, 1) := by decide +kernel
theorem dX5_layHollows_110 : decode cX5_layHollows 110 = .ok (.goto 4, 3) := by decide +kernel
theorem dX5_layHollows_113 : decode cX5_layHollows 113 = .ok (.iconst 0, 1) := by decide +kernel
theorem dX5_layHollows_114 : decode cX5_layHollows 114 = .ok (.istore 4, 2) := by decide +kernel
theorem dX5_layHollows_116 : decode cX5_layHollows 116 = .ok (.aload_n 0, 1) := by decide +kernel
theorem dX5_layHollows_117 : decode cX5_layHollows 117 = .ok (.iload 5, 2) := by decide +kernel
theorem dX5_layHollows_119 : decode cX5_layHollows 119 = .ok (.iload 5, 2) := by decide +kernel
theorem dX5_layHollows_121 : decode cX5_layHollows 121 = .ok (.aload_n 0, 1) := by decide +kernel
theorem dX5_layHollows_122 : decode cX5_layHollows 122 = .ok (.getfield 13, 3) := by decide +kernel
theorem dX5_layHollows_125 : decode cX5_layHollows 125 = .ok (.iadd, 1) := by decide +kernel
theorem dX5_layHollows_126 : decode cX5_layHollows 126 = .ok (.aload_n 0, 1) := by decide +kernel
theorem dX5_layHollows_127 : decode cX5_layHollows 127 = .ok (.invokevirtual 63, 3) := by decide +kernel
theorem dX5_layHollows_130 : decode cX5_layHollows 130 = .ok (.if_icmp .ge 13, 3) := by decide +kernel
theorem dX5_layHollows_133 : decode cX5_layHollows 133 = .ok (.iload 5, 2) := by decide +kernel
theorem dX5_layHollows_135 : decode cX5_layHollows 135 = .ok (.aload_n 0, 1) := by decide +kernel
theorem dX5_layHollows_136 : decode cX5_layHollows 136 = .ok (.getfield 13, 3) := by decide +kernel
theorem dX5_layHollows_139 : decode cX5_layHollows 139 = .ok (.iadd, 1) := by decide +kernel
theorem dX5_layHollows_140 : decode cX5_layHollows 140 = .ok (.goto 5, 3) := by decide +kernel
theorem dX5_layHollows_143 : decode cX5_layHollows 143 = .ok (.iload 5, 2) := by decide +kernel
theorem dX5_layHollows_145 : decode cX5_layHollows 145 = .ok (.invokevirtual 172, 3) := by decide +kernel
theorem dX5_layHollows_148 : decode cX5_layHollows 148 = .ok (.ifCond .ne 8, 3) := by decide +kernel
theorem dX5_layHollows_151 : decode cX5_layHollows 151 = .ok (.iload 4, 2) := by decide +kernel
theorem dX5_layHollows_153 : decode cX5_layHollows 153 = .ok (.ifCond .eq 7, 3) := by decide +kernel
theorem dX5_layHollows_156 : decode cX5_layHollows 156 = .ok (.iconst 1, 1) := by decide +kernel
theorem dX5_layHollows_157 : decode cX5_layHollows 157 = .ok (.goto 4, 3) := by decide +kernel
theorem dX5_layHollows_160 : decode cX5_layHollows 160 = .ok (.iconst 0, 1) := by decide +kernel
theorem dX5_layHollows_161 : decode cX5_layHollows 161 = .ok (.istore 4, 2) := by decide +kernel
theorem dX5_layHollows_163 : decode cX5_layHollows 163 = .ok (.iinc 5 1, 3) := by decide +kernel
theorem dX5_layHollows_166 : decode cX5_layHollows 166 = .ok (.goto (-105), 3) := by decide +kernel
theorem dX5_layHollows_169 : decode cX5_layHollows 169 = .ok (.goto (-119), 3) := by decide +kernel
theorem dX5_layHollows_172 : decode cX5_layHollows 172 = .ok (.iconst 0, 1) := by decide +kernel
theorem dX5_layHollows_173 : decode cX5_layHollows 173 = .ok (.istore 5, 2) := by decide +kernel
theorem dX5_layHollows_175 : decode cX5_layHollows 175 = .ok (.iconst 0, 1) := by decide +kernel
theorem dX5_layHollows_176 : decode cX5_layHollows 176 = .ok (.istore 6, 2) := by decide +kernel
theorem dX5_layHollows_178 : decode cX5_layHollows 178 = .ok (.iload 6, 2) := by decide +kernel
theorem dX5_layHollows_180 : decode cX5_layHollows 180 = .ok (.aload_n 0, 1) := by decide +kernel
theorem dX5_layHollows_181 : decode cX5_layHollows 181 = .ok (.invokevirtual 63, 3) := by decide +kernel
theorem dX5_layHollows_184 : decode cX5_layHollows 184 = .ok (.if_icmp .ge 31, 3) := by decide +kernel
theorem dX5_layHollows_187 : decode cX5_layHollows 187 = .ok (.iload 5, 2) := by decide +kernel
theorem dX5_layHollows_189 : decode cX5_layHollows 189 = .ok (.aload_n 0, 1) := by decide +kernel
theorem dX5_layHollows_190 : decode cX5_layHollows 190 = .ok (.getfield 52, 3) := by decide +kernel
theorem dX5_layHollows_193 : decode cX5_layHollows 193 = .ok (.iload 6, 2) := by decide +kernel
theorem dX5_layHollows_195 : decode cX5_layHollows 195 = .ok (.iaload, 1) := by decide +kernel
theorem dX5_layHollows_196 : decode cX5_layHollows 196 = .ok (.iload 6, 2) := by decide +kernel
theorem dX5_layHollows_198 : decode cX5_layHollows 198 = .ok (.if_icmp .ne 7, 3) := by decide +kernel
theorem dX5_layHollows_201 : decode cX5_layHollows 201 = .ok (.iconst 1, 1) := by decide +kernel
theorem dX5_layHollows_202 : decode cX5_layHollows 202 = .ok (.goto 4, 3) := by decide +kernel
theorem dX5_layHollows_205 : decode cX5_layHollows 205 = .ok (.iconst 0, 1) := by decide +kernel
theorem dX5_layHollows_206 : decode cX5_layHollows 206 = .ok (.iadd, 1) := by decide +kernel
theorem dX5_layHollows_207 : decode cX5_layHollows 207 = .ok (.istore 5, 2) := by decide +kernel
theorem dX5_layHollows_209 : decode cX5_layHollows 209 = .ok (.iinc 6 1, 3) := by decide +kernel
theorem dX5_layHollows_212 : decode cX5_layHollows 212 = .ok (.goto (-34), 3) := by decide +kernel
theorem dX5_layHollows_215 : decode cX5_layHollows 215 = .ok (.iload 5, 2) := by decide +kernel
theorem dX5_layHollows_217 : decode cX5_layHollows 217 = .ok (.ireturn, 1) := by decide +kernel
theorem dX5_draw_0 : decode cX5_draw 0 = .ok (.aload_n 0, 1) := by decide +kernel
theorem dX5_draw_1 : decode cX5_draw 1 = .ok (.getfield 52, 3) := by decide +kernel
theorem dX5_draw_4 : decode cX5_draw 4 = .ok (.iload_n 1, 1) := by decide +kernel
theorem dX5_draw_5 : decode cX5_draw 5 = .ok (.iaload, 1) := by decide +kernel
theorem dX5_draw_6 : decode cX5_draw 6 = .ok (.bipush (-9), 2) := by decide +kernel
theorem dX5_draw_8 : decode cX5_draw 8 = .ok (.if_icmp .eq 29, 3) := by decide +kernel
theorem dX5_draw_11 : decode cX5_draw 11 = .ok (.aload_n 0, 1) := by decide +kernel
theorem dX5_draw_12 : decode cX5_draw 12 = .ok (.getfield 52, 3) := by decide +kernel
theorem dX5_draw_15 : decode cX5_draw 15 = .ok (.iload_n 2, 1) := by decide +kernel
theorem dX5_draw_16 : decode cX5_draw 16 = .ok (.iaload, 1) := by decide +kernel
theorem dX5_draw_17 : decode cX5_draw 17 = .ok (.bipush (-9), 2) := by decide +kernel
theorem dX5_draw_19 : decode cX5_draw 19 = .ok (.if_icmp .eq 18, 3) := by decide +kernel
theorem dX5_draw_22 : decode cX5_draw 22 = .ok (.aload_n 0, 1) := by decide +kernel
theorem dX5_draw_23 : decode cX5_draw 23 = .ok (.getfield 52, 3) := by decide +kernel
theorem dX5_draw_26 : decode cX5_draw 26 = .ok (.iload_n 1, 1) := by decide +kernel
theorem dX5_draw_27 : decode cX5_draw 27 = .ok (.iaload, 1) := by decide +kernel
theorem dX5_draw_28 : decode cX5_draw 28 = .ok (.aload_n 0, 1) := by decide +kernel
theorem dX5_draw_29 : decode cX5_draw 29 = .ok (.getfield 52, 3) := by decide +kernel
theorem dX5_draw_32 : decode cX5_draw 32 = .ok (.iload_n 2, 1) := by decide +kernel
theorem dX5_draw_33 : decode cX5_draw 33 = .ok (.iaload, 1) := by decide +kernel
theorem dX5_draw_34 : decode cX5_draw 34 = .ok (.if_icmp .ne 5, 3) := by decide +kernel
theorem dX5_draw_37 : decode cX5_draw 37 = .ok (.iconst 0, 1) := by decide +kernel
theorem dX5_draw_38 : decode cX5_draw 38 = .ok (.ireturn, 1) := by decide +kernel
theorem dX5_draw_39 : decode cX5_draw 39 = .ok (.aload_n 0, 1) := by decide +kernel
theorem dX5_draw_40 : decode cX5_draw 40 = .ok (.getfield 52, 3) := by decide +kernel
theorem dX5_draw_43 : decode cX5_draw 43 = .ok (.iload_n 1, 1) := by decide +kernel
theorem dX5_draw_44 : decode cX5_draw 44 = .ok (.iaload, 1) := by decide +kernel
theorem dX5_draw_45 : decode cX5_draw 45 = .ok (.aload_n 0, 1) := by decide +kernel
theorem dX5_draw_46 : decode cX5_draw 46 = .ok (.getfield 52, 3) := by decide +kernel
theorem dX5_draw_49 : decode cX5_draw 49 = .ok (.iload_n 2, 1) := by decide +kernel
theorem dX5_draw_50 : decode cX5_draw 50 = .ok (.iaload, 1) := by decide +kernel
theorem dX5_draw_51 : decode cX5_draw 51 = .ok (.if_icmp .ge 12, 3) := by decide +kernel
theorem dX5_draw_54 : decode cX5_draw 54 = .ok (.aload_n 0, 1) := by decide +kernel
theorem dX5_draw_55 : decode cX5_draw 55 = .ok (.getfield 52, 3) := by decide +kernel
theorem dX5_draw_58 : decode cX5_draw 58 = .ok (.iload_n 1, 1) := by decide +kernel
theorem dX5_draw_59 : decode cX5_draw 59 = .ok (.iaload, 1) := by decide +kernel
theorem dX5_draw_60 : decode cX5_draw 60 = .ok (.goto 9, 3) := by decide +kernel
theorem dX5_draw_63 : decode cX5_draw 63 = .ok (.aload_n 0, 1) := by decide +kernel
theorem dX5_draw_64 : decode cX5_draw 64 = .ok (.getfield 52, 3) := by decide +kernel
theorem dX5_draw_67 : decode cX5_draw 67 = .ok (.iload_n 2, 1) := by decide +kernel
theorem dX5_draw_68 : decode cX5_draw 68 = .ok (.iaload, 1) := by decide +kernel
theorem dX5_draw_69 : decode cX5_draw 69 = .ok (.istore_n 3, 1) := by decide +kernel
theorem dX5_draw_70 : decode cX5_draw 70 = .ok (.aload_n 0, 1) := by decide +kernel
theorem dX5_draw_71 : decode cX5_draw 71 = .ok (.getfield 52, 3) := by decide +kernel
theorem dX5_draw_74 : decode cX5_draw 74 = .ok (.iload_n 1, 1) := by decide +kernel
theorem dX5_draw_75 : decode cX5_draw 75 = .ok (.iload_n 3, 1) := by decide +kernel
theorem dX5_draw_76 : decode cX5_draw 76 = .ok (.iastore, 1) := by decide +kernel
theorem dX5_draw_77 : decode cX5_draw 77 = .ok (.aload_n 0, 1) := by decide +kernel
theorem dX5_draw_78 : decode cX5_draw 78 = .ok (.getfield 52, 3) := by decide +kernel
theorem dX5_draw_81 : decode cX5_draw 81 = .ok (.iload_n 2, 1) := by decide +kernel
theorem dX5_draw_82 : decode cX5_draw 82 = .ok (.iload_n 3, 1) := by decide +kernel
theorem dX5_draw_83 : decode cX5_draw 83 = .ok (.iastore, 1) := by decide +kernel
theorem dX5_draw_84 : decode cX5_draw 84 = .ok (.iconst 1, 1) := by decide +kernel
theorem dX5_draw_85 : decode cX5_draw 85 = .ok (.ireturn, 1) := by decide +kernel
theorem dX5_numberOf_0 : decode cX5_numberOf 0 = .ok (.iconst 0, 1) := by decide +kernel
theorem dX5_numberOf_1 : decode cX5_numberOf 1 = .ok (.istore_n 2, 1) := by decide +kernel
theorem dX5_numberOf_2 : decode cX5_numberOf 2 = .ok (.iconst 0, 1) := by decide +kernel
theorem dX5_numberOf_3 : decode cX5_numberOf 3 = .ok (.istore_n 3, 1) := by decide +kernel
theorem dX5_numberOf_4 : decode cX5_numberOf 4 = .ok (.iload_n 3, 1) := by decide +kernel
theorem dX5_numberOf_5 : decode cX5_numberOf 5 = .ok (.iload_n 1, 1) := by decide +kernel
theorem dX5_numberOf_6 : decode cX5_numberOf 6 = .ok (.if_icmp .ge 27, 3) := by decide +kernel
theorem dX5_numberOf_9 : decode cX5_numberOf 9 = .ok (.iload_n 2, 1) := by decide +kernel
theorem dX5_numberOf_10 : decode cX5_numberOf 10 = .ok (.aload_n 0, 1) := by decide +kernel
theorem dX5_numberOf_11 : decode cX5_numberOf 11 = .ok (.getfield 52, 3) := by decide +kernel
theorem dX5_numberOf_14 : decode cX5_numberOf 14 = .ok (.iload_n 3, 1) := by decide +kernel
theorem dX5_numberOf_15 : decode cX5_numberOf 15 = .ok (.iaload, 1) := by decide +kernel
theorem dX5_numberOf_16 : decode cX5_numberOf 16 = .ok (.iload_n 3, 1) := by decide +kernel
theorem dX5_numberOf_17 : decode cX5_numberOf 17 = .ok (.if_icmp .ne 7, 3) := by decide +kernel
theorem dX5_numberOf_20 : decode cX5_numberOf 20 = .ok (.iconst 1, 1) := by decide +kernel
theorem dX5_numberOf_21 : decode cX5_numberOf 21 = .ok (.goto 4, 3) := by decide +kernel
theorem dX5_numberOf_24 : decode cX5_numberOf 24 = .ok (.iconst 0, 1) := by decide +kernel
theorem dX5_numberOf_25 : decode cX5_numberOf 25 = .ok (.iadd, 1) := by decide +kernel
theorem dX5_numberOf_26 : decode cX5_numberOf 26 = .ok (.istore_n 2, 1) := by decide +kernel
theorem dX5_numberOf_27 : decode cX5_numberOf 27 = .ok (.iinc 3 1, 3) := by decide +kernel
theorem dX5_numberOf_30 : decode cX5_numberOf 30 = .ok (.goto (-26), 3) := by decide +kernel
theorem dX5_numberOf_33 : decode cX5_numberOf 33 = .ok (.iload_n 2, 1) := by decide +kernel
theorem dX5_numberOf_34 : decode cX5_numberOf 34 = .ok (.ireturn, 1) := by decide +kernel
theorem dX5_about_0 : decode cX5_about 0 = .ok (.iload_n 1, 1) := by decide +kernel
theorem dX5_about_1 : decode cX5_about 1 = .ok (.tableswitch 146 0 11 #[63, 68, 73, 81, 89, 97, 105, 113, 122, 131, 136, 141], 63) := by decide +kernel
theorem dX5_about_64 : decode cX5_about 64 = .ok (.aload_n 0, 1) := by decide +kernel
theorem dX5_about_65 : decode cX5_about 65 = .ok (.getfield 13, 3) := by decide +kernel
theorem dX5_about_68 : decode cX5_about 68 = .ok (.ireturn, 1) := by decide +kernel
theorem dX5_about_69 : decode cX5_about 69 = .ok (.aload_n 0, 1) := by decide +kernel
theorem dX5_about_70 : decode cX5_about 70 = .ok (.getfield 17, 3) := by decide +kernel
theorem dX5_about_73 : decode cX5_about 73 = .ok (.ireturn, 1) := by decide +kernel
theorem dX5_about_74 : decode cX5_about 74 = .ok (.aload_n 0, 1) := by decide +kernel
theorem dX5_about_75 : decode cX5_about 75 = .ok (.getfield 20, 3) := by decide +kernel
theorem dX5_about_78 : decode cX5_about 78 = .ok (.bipush 36, 2) := by decide +kernel
theorem dX5_about_80 : decode cX5_about 80 = .ok (.iaload, 1) := by decide +kernel
theorem dX5_about_81 : decode cX5_about 81 = .ok (.ireturn, 1) := by decide +kernel
theorem dX5_about_82 : decode cX5_about 82 = .ok (.aload_n 0, 1) := by decide +kernel
theorem dX5_about_83 : decode cX5_about 83 = .ok (.getfield 20, 3) := by decide +kernel
theorem dX5_about_86 : decode cX5_about 86 = .ok (.bipush 47, 2) := by decide +kernel
theorem dX5_about_88 : decode cX5_about 88 = .ok (.iaload, 1) := by decide +kernel
theorem dX5_about_89 : decode cX5_about 89 = .ok (.ireturn, 1) := by decide +kernel
theorem dX5_about_90 : decode cX5_about 90 = .ok (.aload_n 0, 1) := by decide +kernel
theorem dX5_about_91 : decode cX5_about 91 = .ok (.getfield 20, 3) := by decide +kernel
theorem dX5_about_94 : decode cX5_about 94 = .ok (.bipush 48, 2) := by decide +kernel
theorem dX5_about_96 : decode cX5_about 96 = .ok (.iaload, 1) := by decide +kernel
theorem dX5_about_97 : decode cX5_about 97 = .ok (.ireturn, 1) := by decide +kernel
theorem dX5_about_98 : decode cX5_about 98 = .ok (.aload_n 0, 1) := by decide +kernel
theorem dX5_about_99 : decode cX5_about 99 = .ok (.getfield 20, 3) := by decide +kernel
theorem dX5_about_102 : decode cX5_about 102 = .ok (.bipush 49, 2) := by decide +kernel
theorem dX5_about_104 : decode cX5_about 104 = .ok (.iaload, 1) := by decide +kernel
theorem dX5_about_105 : decode cX5_about 105 = .ok (.ireturn, 1) := by decide +kernel
theorem dX5_about_106 : decode cX5_about 106 = .ok (.aload_n 0, 1) := by decide +kernel
theorem dX5_about_107 : decode cX5_about 107 = .ok (.getfield 20, 3) := by decide +kernel
theorem dX5_about_110 : decode cX5_about 110 = .ok (.bipush 50, 2) := by decide +kernel
theorem dX5_about_112 : decode cX5_about 112 = .ok (.iaload, 1) := by decide +kernel
theorem dX5_about_113 : decode cX5_about 113 = .ok (.ireturn, 1) := by decide +kernel
theorem dX5_about_114 : decode cX5_about 114 = .ok (.aload_n 0, 1) := by decide +kernel
theorem dX5_about_115 : decode cX5_about 115 = .ok (.aload_n 0, 1) := by decide +kernel
theorem dX5_about_116 : decode cX5_about 116 = .ok (.getfield 20, 3) := by decide +kernel
theorem dX5_about_119 : decode cX5_about 119 = .ok (.invokevirtual 175, 3) := by decide +kernel
theorem dX5_about_122 : decode cX5_about 122 = .ok (.ireturn, 1) := by decide +kernel
theorem dX5_about_123 : decode cX5_about 123 = .ok (.aload_n 0, 1) := by decide +kernel
theorem dX5_about_124 : decode cX5_about 124 = .ok (.aload_n 0, 1) := by decide +kernel
theorem dX5_about_125 : decode cX5_about 125 = .ok (.getfield 20, 3) := by decide +kernel
theorem dX5_about_128 : decode cX5_about 128 = .ok (.invokevirtual 179, 3) := by decide +kernel
theorem dX5_about_131 : decode cX5_about 131 = .ok (.ireturn, 1) := by decide +kernel
theorem dX5_about_132 : decode cX5_about 132 = .ok (.aload_n 0, 1) := by decide +kernel
theorem dX5_about_133 : decode cX5_about 133 = .ok (.getfield 121, 3) := by decide +kernel
theorem dX5_about_136 : decode cX5_about 136 = .ok (.ireturn, 1) := by decide +kernel
theorem dX5_about_137 : decode cX5_about 137 = .ok (.aload_n 0, 1) := by decide +kernel
theorem dX5_about_138 : decode cX5_about 138 = .ok (.getfield 182, 3) := by decide +kernel
theorem dX5_about_141 : decode cX5_about 141 = .ok (.ireturn, 1) := by decide +kernel
theorem dX5_about_142 : decode cX5_about 142 = .ok (.aload_n 0, 1) := by decide +kernel
theorem dX5_about_143 : decode cX5_about 143 = .ok (.getfield 73, 3) := by decide +kernel
theorem dX5_about_146 : decode cX5_about 146 = .ok (.ireturn, 1) := by decide +kernel
theorem dX5_about_147 : decode cX5_about 147 = .ok (.bipush (-2), 2) := by decide +kernel
theorem dX5_about_149 : decode cX5_about 149 = .ok (.ireturn, 1) := by decide +kernel
theorem dX5_towersOn_0 : decode cX5_towersOn 0 = .ok (.iconst 0, 1) := by decide +kernel
theorem dX5_towersOn_1 : decode cX5_towersOn 1 = .ok (.istore_n 2, 1) := by decide +kernel
theorem dX5_towersOn_2 : decode cX5_towersOn 2 = .ok (.iconst 0, 1) := by decide +kernel
theorem dX5_towersOn_3 : decode cX5_towersOn 3 = .ok (.istore_n 3, 1) := by decide +kernel
theorem dX5_towersOn_4 : decode cX5_towersOn 4 = .ok (.iload_n 3, 1) := by decide +kernel
theorem dX5_towersOn_5 : decode cX5_towersOn 5 = .ok (.aload_n 0, 1) := by decide +kernel
theorem dX5_towersOn_6 : decode cX5_towersOn 6 = .ok (.getfield 20, 3) := by decide +kernel
theorem dX5_towersOn_9 : decode cX5_towersOn 9 = .ok (.bipush 36, 2) := by decide +kernel
theorem dX5_towersOn_11 : decode cX5_towersOn 11 = .ok (.iaload, 1) := by decide +kernel
theorem dX5_towersOn_12 : decode cX5_towersOn 12 = .ok (.if_icmp .ge 32, 3) := by decide +kernel
theorem dX5_towersOn_15 : decode cX5_towersOn 15 = .ok (.iload_n 2, 1) := by decide +kernel
theorem dX5_towersOn_16 : decode cX5_towersOn 16 = .ok (.aload_n 0, 1) := by decide +kernel
theorem dX5_towersOn_17 : decode cX5_towersOn 17 = .ok (.getfield 20, 3) := by decide +kernel
theorem dX5_towersOn_20 : decode cX5_towersOn 20 = .ok (.bipush 37, 2) := by decide +kernel
theorem dX5_towersOn_22 : decode cX5_towersOn 22 = .ok (.iload_n 3, 1) := by decide +kernel
theorem dX5_towersOn_23 : decode cX5_towersOn 23 = .ok (.iadd, 1) := by decide +kernel
theorem dX5_towersOn_24 : decode cX5_towersOn 24 = .ok (.iaload, 1) := by decide +kernel
theorem dX5_towersOn_25 : decode cX5_towersOn 25 = .ok (.iload_n 1, 1) := by decide +kernel
theorem dX5_towersOn_26 : decode cX5_towersOn 26 = .ok (.if_icmp .ne 9, 3) := by decide +kernel
theorem dX5_towersOn_29 : decode cX5_towersOn 29 = .ok (.iconst 1, 1) := by decide +kernel
theorem dX5_towersOn_30 : decode cX5_towersOn 30 = .ok (.iload_n 3, 1) := by decide +kernel
theorem dX5_towersOn_31 : decode cX5_towersOn 31 = .ok (.ishl, 1) := by decide +kernel
theorem dX5_towersOn_32 : decode cX5_towersOn 32 = .ok (.goto 4, 3) := by decide +kernel
theorem dX5_towersOn_35 : decode cX5_towersOn 35 = .ok (.iconst 0, 1) := by decide +kernel
theorem dX5_towersOn_36 : decode cX5_towersOn 36 = .ok (.ior, 1) := by decide +kernel
theorem dX5_towersOn_37 : decode cX5_towersOn 37 = .ok (.istore_n 2, 1) := by decide +kernel
theorem dX5_towersOn_38 : decode cX5_towersOn 38 = .ok (.iinc 3 1, 3) := by decide +kernel
theorem dX5_towersOn_41 : decode cX5_towersOn 41 = .ok (.goto (-37), 3) := by decide +kernel
theorem dX5_towersOn_44 : decode cX5_towersOn 44 = .ok (.iload_n 2, 1) := by decide +kernel
theorem dX5_towersOn_45 : decode cX5_towersOn 45 = .ok (.ireturn, 1) := by decide +kernel
theorem dX5_watchersOf_0 : decode cX5_watchersOf 0 = .ok (.iconst 0, 1) := by decide +kernel
theorem dX5_watchersOf_1 : decode cX5_watchersOf 1 = .ok (.istore_n 2, 1) := by decide +kernel
theorem dX5_watchersOf_2 : decode cX5_watchersOf 2 = .ok (.iconst 0, 1) := by decide +kernel
theorem dX5_watchersOf_3 : decode cX5_watchersOf 3 = .ok (.istore_n 3, 1) := by decide +kernel
theorem dX5_watchersOf_4 : decode cX5_watchersOf 4 = .ok (.iload_n 3, 1) := by decide +kernel
theorem dX5_watchersOf_5 : decode cX5_watchersOf 5 = .ok (.aload_n 0, 1) := by decide +kernel
theorem dX5_watchersOf_6 : decode cX5_watchersOf 6 = .ok (.getfield 20, 3) := by decide +kernel
theorem dX5_watchersOf_9 : decode cX5_watchersOf 9 = .ok (.bipush 36, 2) := by decide +kernel
theorem dX5_watchersOf_11 : decode cX5_watchersOf 11 = .ok (.iaload, 1) := by decide +kernel
theorem dX5_watchersOf_12 : decode cX5_watchersOf 12 = .ok (.if_icmp .ge 47, 3) := by decide +kernel
theorem dX5_watchersOf_15 : decode cX5_watchersOf 15 = .ok (.iload_n 2, 1) := by decide +kernel
theorem dX5_watchersOf_16 : decode cX5_watchersOf 16 = .ok (.aload_n 0, 1) := by decide +kernel
theorem dX5_watchersOf_17 : decode cX5_watchersOf 17 = .ok (.aload_n 0, 1) := by decide +kernel
theorem dX5_watchersOf_18 : decode cX5_watchersOf 18 = .ok (.getfield 20, 3) := by decide +kernel
theorem dX5_watchersOf_21 : decode cX5_watchersOf 21 = .ok (.aload_n 0, 1) := by decide +kernel
theorem dX5_watchersOf_22 : decode cX5_watchersOf 22 = .ok (.getfield 20, 3) := by decide +kernel
theorem dX5_watchersOf_25 : decode cX5_watchersOf 25 = .ok (.bipush 37, 2) := by decide +kernel
theorem dX5_watchersOf_27 : decode cX5_watchersOf 27 = .ok (.iload_n 3, 1) := by decide +kernel
theorem dX5_watchersOf_28 : decode cX5_watchersOf 28 = .ok (.iadd, 1) := by decide +kernel
theorem dX5_watchersOf_29 : decode cX5_watchersOf 29 = .ok (.iaload, 1) := by decide +kernel
theorem dX5_watchersOf_30 : decode cX5_watchersOf 30 = .ok (.aload_n 0, 1) := by decide +kernel
theorem dX5_watchersOf_31 : decode cX5_watchersOf 31 = .ok (.getfield 20, 3) := by decide +kernel
theorem dX5_watchersOf_34 : decode cX5_watchersOf 34 = .ok (.bipush 42, 2) := by decide +kernel
theorem dX5_watchersOf_36 : decode cX5_watchersOf 36 = .ok (.iload_n 3, 1) := by decide +kernel
theorem dX5_watchersOf_37 : decode cX5_watchersOf 37 = .ok (.iadd, 1) := by decide +kernel
theorem dX5_watchersOf_38 : decode cX5_watchersOf 38 = .ok (.iaload, 1) := by decide +kernel
theorem dX5_watchersOf_39 : decode cX5_watchersOf 39 = .ok (.iload_n 1, 1) := by decide +kernel
theorem dX5_watchersOf_40 : decode cX5_watchersOf 40 = .ok (.invokevirtual 152, 3) := by decide +kernel
theorem dX5_watchersOf_43 : decode cX5_watchersOf 43 = .ok (.ifCond .eq 7, 3) := by decide +kernel
theorem dX5_watchersOf_46 : decode cX5_watchersOf 46 = .ok (.iconst 1, 1) := by decide +kernel
theorem dX5_watchersOf_47 : decode cX5_watchersOf 47 = .ok (.goto 4, 3) := by decide +kernel
theorem dX5_watchersOf_50 : decode cX5_watchersOf 50 = .ok (.iconst 0, 1) := by decide +kernel
theorem dX5_watchersOf_51 : decode cX5_watchersOf 51 = .ok (.iadd, 1) := by decide +kernel
theorem dX5_watchersOf_52 : decode cX5_watchersOf 52 = .ok (.istore_n 2, 1) := by decide +kernel
theorem dX5_watchersOf_53 : decode cX5_watchersOf 53 = .ok (.iinc 3 1, 3) := by decide +kernel
theorem dX5_watchersOf_56 : decode cX5_watchersOf 56 = .ok (.goto (-52), 3) := by decide +kernel
theorem dX5_watchersOf_59 : decode cX5_watchersOf 59 = .ok (.iload_n 2, 1) := by decide +kernel
theorem dX5_watchersOf_60 : decode cX5_watchersOf 60 = .ok (.ireturn, 1) := by decide +kernel
theorem dX5_cell_0 : decode cX5_cell 0 = .ok (.aload_n 0, 1) := by decide +kernel
theorem dX5_cell_1 : decode cX5_cell 1 = .ok (.iload_n 1, 1) := by decide +kernel
theorem dX5_cell_2 : decode cX5_cell 2 = .ok (.invokevirtual 185, 3) := by decide +kernel
theorem dX5_cell_5 : decode cX5_cell 5 = .ok (.ifCond .ne 5, 3) := by decide +kernel
theorem dX5_cell_8 : decode cX5_cell 8 = .ok (.iconst (-1), 1) := by decide +kernel
theorem dX5_cell_9 : decode cX5_cell 9 = .ok (.ireturn, 1) := by decide +kernel
theorem dX5_cell_10 : decode cX5_cell 10 = .ok (.iload_n 2, 1) := by decide +kernel
theorem dX5_cell_11 : decode cX5_cell 11 = .ok (.tableswitch 108 0 4 #[33, 40, 46, 52, 72], 33) := by decide +kernel
theorem dX5_cell_44 : decode cX5_cell 44 = .ok (.aload_n 0, 1) := by decide +kernel
theorem dX5_cell_45 : decode cX5_cell 45 = .ok (.getfield 20, 3) := by decide +kernel
theorem dX5_cell_48 : decode cX5_cell 48 = .ok (.iload_n 1, 1) := by decide +kernel
theorem dX5_cell_49 : decode cX5_cell 49 = .ok (.iaload, 1) := by decide +kernel
theorem dX5_cell_50 : decode cX5_cell 50 = .ok (.ireturn, 1) := by decide +kernel
theorem dX5_cell_51 : decode cX5_cell 51 = .ok (.aload_n 0, 1) := by decide +kernel
theorem dX5_cell_52 : decode cX5_cell 52 = .ok (.iload_n 1, 1) := by decide +kernel
theorem dX5_cell_53 : decode cX5_cell 53 = .ok (.invokevirtual 188, 3) := by decide +kernel
theorem dX5_cell_56 : decode cX5_cell 56 = .ok (.ireturn, 1) := by decide +kernel
theorem dX5_cell_57 : decode cX5_cell 57 = .ok (.aload_n 0, 1) := by decide +kernel
theorem dX5_cell_58 : decode cX5_cell 58 = .ok (.iload_n 1, 1) := by decide +kernel
theorem dX5_cell_59 : decode cX5_cell 59 = .ok (.invokevirtual 191, 3) := by decide +kernel
theorem dX5_cell_62 : decode cX5_cell 62 = .ok (.ireturn, 1) := by decide +kernel
theorem dX5_cell_63 : decode cX5_cell 63 = .ok (.aload_n 0, 1) := by decide +kernel
theorem dX5_cell_64 : decode cX5_cell 64 = .ok (.aload_n 0, 1) := by decide +kernel
theorem dX5_cell_65 : decode cX5_cell 65 = .ok (.getfield 20, 3) := by decide +kernel
theorem dX5_cell_68 : decode cX5_cell 68 = .ok (.iload_n 1, 1) := by decide +kernel
theorem dX5_cell_69 : decode cX5_cell 69 = .ok (.aload_n 0, 1) := by decide +kernel
theorem dX5_cell_70 : decode cX5_cell 70 = .ok (.getfield 20, 3) := by decide +kernel
theorem dX5_cell_73 : decode cX5_cell 73 = .ok (.bipush 47, 2) := by decide +kernel
theorem dX5_cell_75 : decode cX5_cell 75 = .ok (.iaload, 1) := by decide +kernel
theorem dX5_cell_76 : decode cX5_cell 76 = .ok (.invokevirtual 156, 3) := by decide +kernel
theorem dX5_cell_79 : decode cX5_cell 79 = .ok (.invokestatic 168, 3) := by decide +kernel
theorem dX5_cell_82 : decode cX5_cell 82 = .ok (.ireturn, 1) := by decide +kernel
theorem dX5_cell_83 : decode cX5_cell 83 = .ok (.aload_n 0, 1) := by decide +kernel
theorem dX5_cell_84 : decode cX5_cell 84 = .ok (.aload_n 0, 1) := by decide +kernel
theorem dX5_cell_85 : decode cX5_cell 85 = .ok (.getfield 20, 3) := by decide +kernel
theorem dX5_cell_88 : decode cX5_cell 88 = .ok (.invokevirtual 179, 3) := by decide +kernel
theorem dX5_cell_91 : decode cX5_cell 91 = .ok (.pop, 1) := by decide +kernel
theorem dX5_cell_92 : decode cX5_cell 92 = .ok (.aload_n 0, 1) := by decide +kernel
theorem dX5_cell_93 : decode cX5_cell 93 = .ok (.getfield 52, 3) := by decide +kernel
theorem dX5_cell_96 : decode cX5_cell 96 = .ok (.iload_n 1, 1) := by decide +kernel
theorem dX5_cell_97 : decode cX5_cell 97 = .ok (.iaload, 1) := by decide +kernel
theorem dX5_cell_98 : decode cX5_cell 98 = .ok (.bipush (-9), 2) := by decide +kernel
theorem dX5_cell_100 : decode cX5_cell 100 = .ok (.if_icmp .ne 8, 3) := by decide +kernel
theorem dX5_cell_103 : decode cX5_cell 103 = .ok (.bipush (-9), 2) := by decide +kernel
theorem dX5_cell_105 : decode cX5_cell 105 = .ok (.goto 13, 3) := by decide +kernel
theorem dX5_cell_108 : decode cX5_cell 108 = .ok (.aload_n 0, 1) := by decide +kernel
theorem dX5_cell_109 : decode cX5_cell 109 = .ok (.aload_n 0, 1) := by decide +kernel
theorem dX5_cell_110 : decode cX5_cell 110 = .ok (.getfield 52, 3) := by decide +kernel
theorem dX5_cell_113 : decode cX5_cell 113 = .ok (.iload_n 1, 1) := by decide +kernel
theorem dX5_cell_114 : decode cX5_cell 114 = .ok (.iaload, 1) := by decide +kernel
theorem dX5_cell_115 : decode cX5_cell 115 = .ok (.invokevirtual 194, 3) := by decide +kernel
theorem dX5_cell_118 : decode cX5_cell 118 = .ok (.ireturn, 1) := by decide +kernel
theorem dX5_cell_119 : decode cX5_cell 119 = .ok (.bipush (-2), 2) := by decide +kernel
theorem dX5_cell_121 : decode cX5_cell 121 = .ok (.ireturn, 1) := by decide +kernel
theorem dX5_ownOf_0 : decode cX5_ownOf 0 = .ok (.lconst 0, 1) := by decide +kernel
theorem dX5_ownOf_1 : decode cX5_ownOf 1 = .ok (.lstore_n 2, 1) := by decide +kernel
theorem dX5_ownOf_2 : decode cX5_ownOf 2 = .ok (.iconst 0, 1) := by decide +kernel
theorem dX5_ownOf_3 : decode cX5_ownOf 3 = .ok (.istore 4, 2) := by decide +kernel
theorem dX5_ownOf_5 : decode cX5_ownOf 5 = .ok (.iload 4, 2) := by decide +kernel
theorem dX5_ownOf_7 : decode cX5_ownOf 7 = .ok (.aload_n 0, 1) := by decide +kernel
theorem dX5_ownOf_8 : decode cX5_ownOf 8 = .ok (.getfield 20, 3) := by decide +kernel
theorem dX5_ownOf_11 : decode cX5_ownOf 11 = .ok (.bipush 36, 2) := by decide +kernel
theorem dX5_ownOf_13 : decode cX5_ownOf 13 = .ok (.iaload, 1) := by decide +kernel
theorem dX5_ownOf_14 : decode cX5_ownOf 14 = .ok (.if_icmp .ge 32, 3) := by decide +kernel
theorem dX5_ownOf_17 : decode cX5_ownOf 17 = .ok (.lload_n 2, 1) := by decide +kernel
theorem dX5_ownOf_18 : decode cX5_ownOf 18 = .ok (.iload 4, 2) := by decide +kernel
theorem dX5_ownOf_20 : decode cX5_ownOf 20 = .ok (.iload_n 1, 1) := by decide +kernel
theorem dX5_ownOf_21 : decode cX5_ownOf 21 = .ok (.if_icmp .ne 7, 3) := by decide +kernel
theorem dX5_ownOf_24 : decode cX5_ownOf 24 = .ok (.lconst 0, 1) := by decide +kernel
theorem dX5_ownOf_25 : decode cX5_ownOf 25 = .ok (.goto 13, 3) := by decide +kernel
theorem dX5_ownOf_28 : decode cX5_ownOf 28 = .ok (.aload_n 0, 1) := by decide +kernel
theorem dX5_ownOf_29 : decode cX5_ownOf 29 = .ok (.aload_n 0, 1) := by decide +kernel
theorem dX5_ownOf_30 : decode cX5_ownOf 30 = .ok (.getfield 20, 3) := by decide +kernel
theorem dX5_ownOf_33 : decode cX5_ownOf 33 = .ok (.iload 4, 2) := by decide +kernel
theorem dX5_ownOf_35 : decode cX5_ownOf 35 = .ok (.invokevirtual 160, 3) := by decide +kernel
theorem dX5_ownOf_38 : decode cX5_ownOf 38 = .ok (.lor, 1) := by decide +kernel
theorem dX5_ownOf_39 : decode cX5_ownOf 39 = .ok (.lstore_n 2, 1) := by decide +kernel
theorem dX5_ownOf_40 : decode cX5_ownOf 40 = .ok (.iinc 4 1, 3) := by decide +kernel
theorem dX5_ownOf_43 : decode cX5_ownOf 43 = .ok (.goto (-38), 3) := by decide +kernel
theorem dX5_ownOf_46 : decode cX5_ownOf 46 = .ok (.aload_n 0, 1) := by decide +kernel
theorem dX5_ownOf_47 : decode cX5_ownOf 47 = .ok (.aload_n 0, 1) := by decide +kernel
theorem dX5_ownOf_48 : decode cX5_ownOf 48 = .ok (.getfield 20, 3) := by decide +kernel
theorem dX5_ownOf_51 : decode cX5_ownOf 51 = .ok (.iload_n 1, 1) := by decide +kernel
theorem dX5_ownOf_52 : decode cX5_ownOf 52 = .ok (.invokevirtual 160, 3) := by decide +kernel
theorem dX5_ownOf_55 : decode cX5_ownOf 55 = .ok (.lload_n 2, 1) := by decide +kernel
theorem dX5_ownOf_56 : decode cX5_ownOf 56 = .ok (.ldc2_w 197, 3) := by decide +kernel
theorem dX5_ownOf_59 : decode cX5_ownOf 59 = .ok (.lxor, 1) := by decide +kernel
theorem dX5_ownOf_60 : decode cX5_ownOf 60 = .ok (.land, 1) := by decide +kernel
theorem dX5_ownOf_61 : decode cX5_ownOf 61 = .ok (.invokestatic 168, 3) := by decide +kernel
theorem dX5_ownOf_64 : decode cX5_ownOf 64 = .ok (.ireturn, 1) := by decide +kernel
theorem dX5_tower_0 : decode cX5_tower 0 = .ok (.aload_n 0, 1) := by decide +kernel
theorem dX5_tower_1 : decode cX5_tower 1 = .ok (.iload_n 1, 1) := by decide +kernel
theorem dX5_tower_2 : decode cX5_tower 2 = .ok (.invokevirtual 199, 3) := by decide +kernel
theorem dX5_tower_5 : decode cX5_tower 5 = .ok (.ifCond .ne 5, 3) := by decide +kernel
theorem dX5_tower_8 : decode cX5_tower 8 = .ok (.iconst (-1), 1) := by decide +kernel
theorem dX5_tower_9 : decode cX5_tower 9 = .ok (.ireturn, 1) := by decide +kernel
theorem dX5_tower_10 : decode cX5_tower 10 = .ok (.iload_n 2, 1) := by decide +kernel
theorem dX5_tower_11 : decode cX5_tower 11 = .ok (.tableswitch 68 0 3 #[29, 39, 49, 62], 29) := by decide +kernel
theorem dX5_tower_40 : decode cX5_tower 40 = .ok (.aload_n 0, 1) := by decide +kernel
theorem dX5_tower_41 : decode cX5_tower 41 = .ok (.getfield 20, 3) := by decide +kernel
theorem dX5_tower_44 : decode cX5_tower 44 = .ok (.bipush 37, 2) := by decide +kernel
theorem dX5_tower_46 : decode cX5_tower 46 = .ok (.iload_n 1, 1) := by decide +kernel
theorem dX5_tower_47 : decode cX5_tower 47 = .ok (.iadd, 1) := by decide +kernel
theorem dX5_tower_48 : decode cX5_tower 48 = .ok (.iaload, 1) := by decide +kernel
theorem dX5_tower_49 : decode cX5_tower 49 = .ok (.ireturn, 1) := by decide +kernel
theorem dX5_tower_50 : decode cX5_tower 50 = .ok (.aload_n 0, 1) := by decide +kernel
theorem dX5_tower_51 : decode cX5_tower 51 = .ok (.getfield 20, 3) := by decide +kernel
theorem dX5_tower_54 : decode cX5_tower 54 = .ok (.bipush 42, 2) := by decide +kernel
theorem dX5_tower_56 : decode cX5_tower 56 = .ok (.iload_n 1, 1) := by decide +kernel
theorem dX5_tower_57 : decode cX5_tower 57 = .ok (.iadd, 1) := by decide +kernel
theorem dX5_tower_58 : decode cX5_tower 58 = .ok (.iaload, 1) := by decide +kernel
theorem dX5_tower_59 : decode cX5_tower 59 = .ok (.ireturn, 1) := by decide +kernel
theorem dX5_tower_60 : decode cX5_tower 60 = .ok (.aload_n 0, 1) := by decide +kernel
theorem dX5_tower_61 : decode cX5_tower 61 = .ok (.aload_n 0, 1) := by decide +kernel
theorem dX5_tower_62 : decode cX5_tower 62 = .ok (.getfield 20, 3) := by decide +kernel
theorem dX5_tower_65 : decode cX5_tower 65 = .ok (.iload_n 1, 1) := by decide +kernel
theorem dX5_tower_66 : decode cX5_tower 66 = .ok (.invokevirtual 160, 3) := by decide +kernel
theorem dX5_tower_69 : decode cX5_tower 69 = .ok (.invokestatic 168, 3) := by decide +kernel
theorem dX5_tower_72 : decode cX5_tower 72 = .ok (.ireturn, 1) := by decide +kernel
theorem dX5_tower_73 : decode cX5_tower 73 = .ok (.aload_n 0, 1) := by decide +kernel
theorem dX5_tower_74 : decode cX5_tower 74 = .ok (.iload_n 1, 1) := by decide +kernel
theorem dX5_tower_75 : decode cX5_tower 75 = .ok (.invokevirtual 202, 3) := by decide +kernel
theorem dX5_tower_78 : decode cX5_tower 78 = .ok (.ireturn, 1) := by decide +kernel
theorem dX5_tower_79 : decode cX5_tower 79 = .ok (.bipush (-2), 2) := by decide +kernel
theorem dX5_tower_81 : decode cX5_tower 81 = .ok (.ireturn, 1) := by decide +kernel
theorem dX5_note_0 : decode cX5_note 0 = .ok (.iconst 0, 1) := by decide +kernel
theorem dX5_note_1 : decode cX5_note 1 = .ok (.istore_n 1, 1) := by decide +kernel
theorem dX5_note_2 : decode cX5_note 2 = .ok (.iload_n 1, 1) := by decide +kernel
theorem dX5_note_3 : decode cX5_note 3 = .ok (.bipush 51, 2) := by decide +kernel
theorem dX5_note_5 : decode cX5_note 5 = .ok (.if_icmp .ge 29, 3) := by decide +kernel
theorem dX5_note_8 : decode cX5_note 8 = .ok (.aload_n 0, 1) := by decide +kernel
theorem dX5_note_9 : decode cX5_note 9 = .ok (.getfield 26, 3) := by decide +kernel
theorem dX5_note_12 : decode cX5_note 12 = .ok (.bipush 51, 2) := by decide +kernel
theorem dX5_note_14 : decode cX5_note 14 = .ok (.aload_n 0, 1) := by decide +kernel
theorem dX5_note_15 : decode cX5_note 15 = .ok (.getfield 205, 3) := by decide +kernel
theorem dX5_note_18 : decode cX5_note 18 = .ok (.imul, 1) := by decide +kernel
theorem dX5_note_19 : decode cX5_note 19 = .ok (.iload_n 1, 1) := by decide +kernel
theorem dX5_note_20 : decode cX5_note 20 = .ok (.iadd, 1) := by decide +kernel
theorem dX5_note_21 : decode cX5_note 21 = .ok (.aload_n 0, 1) := by decide +kernel
theorem dX5_note_22 : decode cX5_note 22 = .ok (.getfield 20, 3) := by decide +kernel
theorem dX5_note_25 : decode cX5_note 25 = .ok (.iload_n 1, 1) := by decide +kernel
theorem dX5_note_26 : decode cX5_note 26 = .ok (.iaload, 1) := by decide +kernel
theorem dX5_note_27 : decode cX5_note 27 = .ok (.iastore, 1) := by decide +kernel
theorem dX5_note_28 : decode cX5_note 28 = .ok (.iinc 1 1, 3) := by decide +kernel
theorem dX5_note_31 : decode cX5_note 31 = .ok (.goto (-29), 3) := by decide +kernel
theorem dX5_note_34 : decode cX5_note 34 = .ok (.aload_n 0, 1) := by decide +kernel
theorem dX5_note_35 : decode cX5_note 35 = .ok (.aload_n 0, 1) := by decide +kernel
theorem dX5_note_36 : decode cX5_note 36 = .ok (.getfield 205, 3) := by decide +kernel
theorem dX5_note_39 : decode cX5_note 39 = .ok (.iconst 1, 1) := by decide +kernel
theorem dX5_note_40 : decode cX5_note 40 = .ok (.iadd, 1) := by decide +kernel
theorem dX5_note_41 : decode cX5_note 41 = .ok (.bipush 14, 2) := by decide +kernel
theorem dX5_note_43 : decode cX5_note 43 = .ok (.irem, 1) := by decide +kernel
theorem dX5_note_44 : decode cX5_note 44 = .ok (.putfield 205, 3) := by decide +kernel
theorem dX5_note_47 : decode cX5_note 47 = .ok (.aload_n 0, 1) := by decide +kernel
theorem dX5_note_48 : decode cX5_note 48 = .ok (.aload_n 0, 1) := by decide +kernel
theorem dX5_note_49 : decode cX5_note 49 = .ok (.getfield 121, 3) := by decide +kernel
theorem dX5_note_52 : decode cX5_note 52 = .ok (.bipush 14, 2) := by decide +kernel
theorem dX5_note_54 : decode cX5_note 54 = .ok (.if_icmp .ge 12, 3) := by decide +kernel
theorem dX5_note_57 : decode cX5_note 57 = .ok (.aload_n 0, 1) := by decide +kernel
theorem dX5_note_58 : decode cX5_note 58 = .ok (.getfield 121, 3) := by decide +kernel
theorem dX5_note_61 : decode cX5_note 61 = .ok (.iconst 1, 1) := by decide +kernel
theorem dX5_note_62 : decode cX5_note 62 = .ok (.iadd, 1) := by decide +kernel
theorem dX5_note_63 : decode cX5_note 63 = .ok (.goto 5, 3) := by decide +kernel
theorem dX5_note_66 : decode cX5_note 66 = .ok (.bipush 14, 2) := by decide +kernel
theorem dX5_note_68 : decode cX5_note 68 = .ok (.putfield 121, 3) := by decide +kernel
theorem dX5_note_71 : decode cX5_note 71 = .ok (.return_, 1) := by decide +kernel
theorem dX5_raise_0 : decode cX5_raise 0 = .ok (.aload_n 0, 1) := by decide +kernel
theorem dX5_raise_1 : decode cX5_raise 1 = .ok (.iload_n 1, 1) := by decide +kernel
theorem dX5_raise_2 : decode cX5_raise 2 = .ok (.invokevirtual 185, 3) := by decide +kernel
theorem dX5_raise_5 : decode cX5_raise 5 = .ok (.ifCond .ne 5, 3) := by decide +kernel
theorem dX5_raise_8 : decode cX5_raise 8 = .ok (.iconst (-1), 1) := by decide +kernel
theorem dX5_raise_9 : decode cX5_raise 9 = .ok (.ireturn, 1) := by decide +kernel
theorem dX5_raise_10 : decode cX5_raise 10 = .ok (.iload_n 2, 1) := by decide +kernel
theorem dX5_raise_11 : decode cX5_raise 11 = .ok (.i2l, 1) := by decide +kernel
theorem dX5_raise_12 : decode cX5_raise 12 = .ok (.lconst 0, 1) := by decide +kernel
theorem dX5_raise_13 : decode cX5_raise 13 = .ok (.ldc2_w 208, 3) := by decide +kernel
theorem dX5_raise_16 : decode cX5_raise 16 = .ok (.invokestatic 67, 3) := by decide +kernel
theorem dX5_raise_19 : decode cX5_raise 19 = .ok (.ifCond .ne 6, 3) := by decide +kernel
theorem dX5_raise_22 : decode cX5_raise 22 = .ok (.bipush (-2), 2) := by decide +kernel
theorem dX5_raise_24 : decode cX5_raise 24 = .ok (.ireturn, 1) := by decide +kernel
theorem dX5_raise_25 : decode cX5_raise 25 = .ok (.aload_n 0, 1) := by decide +kernel
theorem dX5_raise_26 : decode cX5_raise 26 = .ok (.invokevirtual 210, 3) := by decide +kernel
theorem dX5_raise_29 : decode cX5_raise 29 = .ok (.aload_n 0, 1) := by decide +kernel
theorem dX5_raise_30 : decode cX5_raise 30 = .ok (.getfield 20, 3) := by decide +kernel
theorem dX5_raise_33 : decode cX5_raise 33 = .ok (.iload_n 1, 1) := by decide +kernel
theorem dX5_raise_34 : decode cX5_raise 34 = .ok (.iaload, 1) := by decide +kernel
theorem dX5_raise_35 : decode cX5_raise 35 = .ok (.istore_n 3, 1) := by decide +kernel
theorem dX5_raise_36 : decode cX5_raise 36 = .ok (.aload_n 0, 1) := by decide +kernel
theorem dX5_raise_37 : decode cX5_raise 37 = .ok (.getfield 20, 3) := by decide +kernel
theorem dX5_raise_40 : decode cX5_raise 40 = .ok (.iload_n 1, 1) := by decide +kernel
theorem dX5_raise_41 : decode cX5_raise 41 = .ok (.iload_n 2, 1) := by decide +kernel
theorem dX5_raise_42 : decode cX5_raise 42 = .ok (.iastore, 1) := by decide +kernel
theorem dX5_raise_43 : decode cX5_raise 43 = .ok (.iload_n 3, 1) := by decide +kernel
theorem dX5_raise_44 : decode cX5_raise 44 = .ok (.ireturn, 1) := by decide +kernel
theorem dX5_buildOn_0 : decode cX5_buildOn 0 = .ok (.aload_n 0, 1) := by decide +kernel
theorem dX5_buildOn_1 : decode cX5_buildOn 1 = .ok (.bipush 37, 2) := by decide +kernel
theorem dX5_buildOn_3 : decode cX5_buildOn 3 = .ok (.aload_n 0, 1) := by decide +kernel
theorem dX5_buildOn_4 : decode cX5_buildOn 4 = .ok (.bipush 36, 2) := by decide +kernel
theorem dX5_buildOn_6 : decode cX5_buildOn 6 = .ok (.iaload, 1) := by decide +kernel
theorem dX5_buildOn_7 : decode cX5_buildOn 7 = .ok (.iadd, 1) := by decide +kernel
theorem dX5_buildOn_8 : decode cX5_buildOn 8 = .ok (.iload_n 1, 1) := by decide +kernel
theorem dX5_buildOn_9 : decode cX5_buildOn 9 = .ok (.iastore, 1) := by decide +kernel
theorem dX5_buildOn_10 : decode cX5_buildOn 10 = .ok (.aload_n 0, 1) := by decide +kernel
theorem dX5_buildOn_11 : decode cX5_buildOn 11 = .ok (.bipush 42, 2) := by decide +kernel
theorem dX5_buildOn_13 : decode cX5_buildOn 13 = .ok (.aload_n 0, 1) := by decide +kernel
theorem dX5_buildOn_14 : decode cX5_buildOn 14 = .ok (.bipush 36, 2) := by decide +kernel
theorem dX5_buildOn_16 : decode cX5_buildOn 16 = .ok (.iaload, 1) := by decide +kernel
theorem dX5_buildOn_17 : decode cX5_buildOn 17 = .ok (.iadd, 1) := by decide +kernel
theorem dX5_buildOn_18 : decode cX5_buildOn 18 = .ok (.iload_n 2, 1) := by decide +kernel
theorem dX5_buildOn_19 : decode cX5_buildOn 19 = .ok (.iastore, 1) := by decide +kernel
theorem dX5_buildOn_20 : decode cX5_buildOn 20 = .ok (.aload_n 0, 1) := by decide +kernel
theorem dX5_buildOn_21 : decode cX5_buildOn 21 = .ok (.bipush 36, 2) := by decide +kernel
theorem dX5_buildOn_23 : decode cX5_buildOn 23 = .ok (.dup2, 1) := by decide +kernel
theorem dX5_buildOn_24 : decode cX5_buildOn 24 = .ok (.iaload, 1) := by decide +kernel
theorem dX5_buildOn_25 : decode cX5_buildOn 25 = .ok (.iconst 1, 1) := by decide +kernel
theorem dX5_buildOn_26 : decode cX5_buildOn 26 = .ok (.iadd, 1) := by decide +kernel
theorem dX5_buildOn_27 : decode cX5_buildOn 27 = .ok (.iastore, 1) := by decide +kernel
theorem dX5_buildOn_28 : decode cX5_buildOn 28 = .ok (.return_, 1) := by decide +kernel
theorem dX5_build_0 : decode cX5_build 0 = .ok (.aload_n 0, 1) := by decide +kernel
theorem dX5_build_1 : decode cX5_build 1 = .ok (.iload_n 1, 1) := by decide +kernel
theorem dX5_build_2 : decode cX5_build 2 = .ok (.invokevirtual 185, 3) := by decide +kernel
theorem dX5_build_5 : decode cX5_build 5 = .ok (.ifCond .ne 5, 3) := by decide +kernel
theorem dX5_build_8 : decode cX5_build 8 = .ok (.iconst (-1), 1) := by decide +kernel
theorem dX5_build_9 : decode cX5_build 9 = .ok (.ireturn, 1) := by decide +kernel
theorem dX5_build_10 : decode cX5_build 10 = .ok (.iload_n 2, 1) := by decide +kernel
theorem dX5_build_11 : decode cX5_build 11 = .ok (.i2l, 1) := by decide +kernel
theorem dX5_build_12 : decode cX5_build 12 = .ok (.lconst 0, 1) := by decide +kernel
theorem dX5_build_13 : decode cX5_build 13 = .ok (.ldc2_w 208, 3) := by decide +kernel
theorem dX5_build_16 : decode cX5_build 16 = .ok (.invokestatic 67, 3) := by decide +kernel
theorem dX5_build_19 : decode cX5_build 19 = .ok (.ifCond .ne 6, 3) := by decide +kernel
theorem dX5_build_22 : decode cX5_build 22 = .ok (.bipush (-2), 2) := by decide +kernel
theorem dX5_build_24 : decode cX5_build 24 = .ok (.ireturn, 1) := by decide +kernel
theorem dX5_build_25 : decode cX5_build 25 = .ok (.aload_n 0, 1) := by decide +kernel
theorem dX5_build_26 : decode cX5_build 26 = .ok (.getfield 20, 3) := by decide +kernel
theorem dX5_build_29 : decode cX5_build 29 = .ok (.bipush 36, 2) := by decide +kernel
theorem dX5_build_31 : decode cX5_build 31 = .ok (.iaload, 1) := by decide +kernel
theorem dX5_build_32 : decode cX5_build 32 = .ok (.iconst 5, 1) := by decide +kernel
theorem dX5_build_33 : decode cX5_build 33 = .ok (.if_icmp .ne 6, 3) := by decide +kernel
theorem dX5_build_36 : decode cX5_build 36 = .ok (.bipush (-4), 2) := by decide +kernel
theorem dX5_build_38 : decode cX5_build 38 = .ok (.ireturn, 1) := by decide +kernel
theorem dX5_build_39 : decode cX5_build 39 = .ok (.aload_n 0, 1) := by decide +kernel
theorem dX5_build_40 : decode cX5_build 40 = .ok (.invokevirtual 210, 3) := by decide +kernel
theorem dX5_build_43 : decode cX5_build 43 = .ok (.aload_n 0, 1) := by decide +kernel
theorem dX5_build_44 : decode cX5_build 44 = .ok (.getfield 20, 3) := by decide +kernel
theorem dX5_build_47 : decode cX5_build 47 = .ok (.iload_n 1, 1) := by decide +kernel
theorem dX5_build_48 : decode cX5_build 48 = .ok (.iload_n 2, 1) := by decide +kernel
theorem dX5_build_49 : decode cX5_build 49 = .ok (.invokestatic 213, 3) := by decide +kernel
theorem dX5_build_52 : decode cX5_build 52 = .ok (.aload_n 0, 1) := by decide +kernel
theorem dX5_build_53 : decode cX5_build 53 = .ok (.getfield 20, 3) := by decide +kernel
theorem dX5_build_56 : decode cX5_build 56 = .ok (.bipush 36, 2) := by decide +kernel
theorem dX5_build_58 : decode cX5_build 58 = .ok (.iaload, 1) := by decide +kernel
theorem dX5_build_59 : decode cX5_build 59 = .ok (.ireturn, 1) := by decide +kernel
theorem dX5_razeOf_0 : decode cX5_razeOf 0 = .ok (.aload_n 0, 1) := by decide +kernel
theorem dX5_razeOf_1 : decode cX5_razeOf 1 = .ok (.bipush 36, 2) := by decide +kernel
theorem dX5_razeOf_3 : decode cX5_razeOf 3 = .ok (.dup2, 1) := by decide +kernel
theorem dX5_razeOf_4 : decode cX5_razeOf 4 = .ok (.iaload, 1) := by decide +kernel
theorem dX5_razeOf_5 : decode cX5_razeOf 5 = .ok (.iconst 1, 1) := by decide +kernel
theorem dX5_razeOf_6 : decode cX5_razeOf 6 = .ok (.isub, 1) := by decide +kernel
theorem dX5_razeOf_7 : decode cX5_razeOf 7 = .ok (.iastore, 1) := by decide +kernel
theorem dX5_razeOf_8 : decode cX5_razeOf 8 = .ok (.iload_n 1, 1) := by decide +kernel
theorem dX5_razeOf_9 : decode cX5_razeOf 9 = .ok (.istore_n 2, 1) := by decide +kernel
theorem dX5_razeOf_10 : decode cX5_razeOf 10 = .ok (.iload_n 2, 1) := by decide +kernel
theorem dX5_razeOf_11 : decode cX5_razeOf 11 = .ok (.aload_n 0, 1) := by decide +kernel
theorem dX5_razeOf_12 : decode cX5_razeOf 12 = .ok (.bipush 36, 2) := by decide +kernel
theorem dX5_razeOf_14 : decode cX5_razeOf 14 = .ok (.iaload, 1) := by decide +kernel
theorem dX5_razeOf_15 : decode cX5_razeOf 15 = .ok (.if_icmp .ge 37, 3) := by decide +kernel
theorem dX5_razeOf_18 : decode cX5_razeOf 18 = .ok (.aload_n 0, 1) := by decide +kernel
theorem dX5_razeOf_19 : decode cX5_razeOf 19 = .ok (.bipush 37, 2) := by decide +kernel
theorem dX5_razeOf_21 : decode cX5_razeOf 21 = .ok (.iload_n 2, 1) := by decide +kernel
theorem dX5_razeOf_22 : decode cX5_razeOf 22 = .ok (.iadd, 1) := by decide +kernel
theorem dX5_razeOf_23 : decode cX5_razeOf 23 = .ok (.aload_n 0, 1) := by decide +kernel
theorem dX5_razeOf_24 : decode cX5_razeOf 24 = .ok (.bipush 37, 2) := by decide +kernel
theorem dX5_razeOf_26 : decode cX5_razeOf 26 = .ok (.iload_n 2, 1) := by decide +kernel
theorem dX5_razeOf_27 : decode cX5_razeOf 27 = .ok (.iadd, 1) := by decide +kernel
theorem dX5_razeOf_28 : decode cX5_razeOf 28 = .ok (.iconst 1, 1) := by decide +kernel
theorem dX5_razeOf_29 : decode cX5_razeOf 29 = .ok (.iadd, 1) := by decide +kernel
theorem dX5_razeOf_30 : decode cX5_razeOf 30 = .ok (.iaload, 1) := by decide +kernel
theorem dX5_razeOf_31 : decode cX5_razeOf 31 = .ok (.iastore, 1) := by decide +kernel
theorem dX5_razeOf_32 : decode cX5_razeOf 32 = .ok (.aload_n 0, 1) := by decide +kernel
theorem dX5_razeOf_33 : decode cX5_razeOf 33 = .ok (.bipush 42, 2) := by decide +kernel
theorem dX5_razeOf_35 : decode cX5_razeOf 35 = .ok (.iload_n 2, 1) := by decide +kernel
theorem dX5_razeOf_36 : decode cX5_razeOf 36 = .ok (.iadd, 1) := by decide +kernel
theorem dX5_razeOf_37 : decode cX5_razeOf 37 = .ok (.aload_n 0, 1) := by decide +kernel
theorem dX5_razeOf_38 : decode cX5_razeOf 38 = .ok (.bipush 42, 2) := by decide +kernel
theorem dX5_razeOf_40 : decode cX5_razeOf 40 = .ok (.iload_n 2, 1) := by decide +kernel
theorem dX5_razeOf_41 : decode cX5_razeOf 41 = .ok (.iadd, 1) := by decide +kernel
theorem dX5_razeOf_42 : decode cX5_razeOf 42 = .ok (.iconst 1, 1) := by decide +kernel
theorem dX5_razeOf_43 : decode cX5_razeOf 43 = .ok (.iadd, 1) := by decide +kernel
theorem dX5_razeOf_44 : decode cX5_razeOf 44 = .ok (.iaload, 1) := by decide +kernel
theorem dX5_razeOf_45 : decode cX5_razeOf 45 = .ok (.iastore, 1) := by decide +kernel
theorem dX5_razeOf_46 : decode cX5_razeOf 46 = .ok (.iinc 2 1, 3) := by decide +kernel
theorem dX5_razeOf_49 : decode cX5_razeOf 49 = .ok (.goto (-39), 3) := by decide +kernel
theorem dX5_razeOf_52 : decode cX5_razeOf 52 = .ok (.return_, 1) := by decide +kernel
theorem dX5_raze_0 : decode cX5_raze 0 = .ok (.aload_n 0, 1) := by decide +kernel
theorem dX5_raze_1 : decode cX5_raze 1 = .ok (.iload_n 1, 1) := by decide +kernel
theorem dX5_raze_2 : decode cX5_raze 2 = .ok (.invokevirtual 199, 3) := by decide +kernel
theorem dX5_raze_5 : decode cX5_raze 5 = .ok (.ifCond .ne 5, 3) := by decide +kernel
theorem dX5_raze_8 : decode cX5_raze 8 = .ok (.iconst (-1), 1) := by decide +kernel
theorem dX5_raze_9 : decode cX5_raze 9 = .ok (.ireturn, 1) := by decide +kernel
theorem dX5_raze_10 : decode cX5_raze 10 = .ok (.aload_n 0, 1) := by decide +kernel
theorem dX5_raze_11 : decode cX5_raze 11 = .ok (.invokevirtual 210, 3) := by decide +kernel
theorem dX5_raze_14 : decode cX5_raze 14 = .ok (.aload_n 0, 1) := by decide +kernel
theorem dX5_raze_15 : decode cX5_raze 15 = .ok (.getfield 20, 3) := by decide +kernel
theorem dX5_raze_18 : decode cX5_raze 18 = .ok (.iload_n 1, 1) := by decide +kernel
theorem dX5_raze_19 : decode cX5_raze 19 = .ok (.invokestatic 217, 3) := by decide +kernel
theorem dX5_raze_22 : decode cX5_raze 22 = .ok (.aload_n 0, 1) := by decide +kernel
theorem dX5_raze_23 : decode cX5_raze 23 = .ok (.getfield 20, 3) := by decide +kernel
theorem dX5_raze_26 : decode cX5_raze 26 = .ok (.bipush 36, 2) := by decide +kernel
theorem dX5_raze_28 : decode cX5_raze 28 = .ok (.iaload, 1) := by decide +kernel
theorem dX5_raze_29 : decode cX5_raze 29 = .ok (.ireturn, 1) := by decide +kernel
theorem dX5_maySet_0 : decode cX5_maySet 0 = .ok (.iload_n 0, 1) := by decide +kernel
theorem dX5_maySet_1 : decode cX5_maySet 1 = .ok (.i2l, 1) := by decide +kernel
theorem dX5_maySet_2 : decode cX5_maySet 2 = .ok (.lconst 0, 1) := by decide +kernel
theorem dX5_maySet_3 : decode cX5_maySet 3 = .ok (.ldc2_w 221, 3) := by decide +kernel
theorem dX5_maySet_6 : decode cX5_maySet 6 = .ok (.invokestatic 67, 3) := by decide +kernel
theorem dX5_maySet_9 : decode cX5_maySet 9 = .ok (.ifCond .eq 28, 3) := by decide +kernel
theorem dX5_maySet_12 : decode cX5_maySet 12 = .ok (.iload_n 1, 1) := by decide +kernel
theorem dX5_maySet_13 : decode cX5_maySet 13 = .ok (.i2l, 1) := by decide +kernel
theorem dX5_maySet_14 : decode cX5_maySet 14 = .ok (.iload_n 0, 1) := by decide +kernel
theorem dX5_maySet_15 : decode cX5_maySet 15 = .ok (.iconst 3, 1) := by decide +kernel
theorem dX5_maySet_16 : decode cX5_maySet 16 = .ok (.if_icmp .ne 7, 3) := by decide +kernel
theorem dX5_maySet_19 : decode cX5_maySet 19 = .ok (.lconst 1, 1) := by decide +kernel
theorem dX5_maySet_20 : decode cX5_maySet 20 = .ok (.goto 4, 3) := by decide +kernel
theorem dX5_maySet_23 : decode cX5_maySet 23 = .ok (.lconst 0, 1) := by decide +kernel
theorem dX5_maySet_24 : decode cX5_maySet 24 = .ok (.ldc2_w 208, 3) := by decide +kernel
theorem dX5_maySet_27 : decode cX5_maySet 27 = .ok (.invokestatic 67, 3) := by decide +kernel
theorem dX5_maySet_30 : decode cX5_maySet 30 = .ok (.ifCond .eq 7, 3) := by decide +kernel
theorem dX5_maySet_33 : decode cX5_maySet 33 = .ok (.iconst 1, 1) := by decide +kernel
theorem dX5_maySet_34 : decode cX5_maySet 34 = .ok (.goto 4, 3) := by decide +kernel
theorem dX5_maySet_37 : decode cX5_maySet 37 = .ok (.iconst 0, 1) := by decide +kernel
theorem dX5_maySet_38 : decode cX5_maySet 38 = .ok (.ireturn, 1) := by decide +kernel
theorem dX5_set_0 : decode cX5_set 0 = .ok (.iload_n 1, 1) := by decide +kernel
theorem dX5_set_1 : decode cX5_set 1 = .ok (.iload_n 2, 1) := by decide +kernel
theorem dX5_set_2 : decode cX5_set 2 = .ok (.invokestatic 223, 3) := by decide +kernel
theorem dX5_set_5 : decode cX5_set 5 = .ok (.ifCond .ne 6, 3) := by decide +kernel
theorem dX5_set_8 : decode cX5_set 8 = .ok (.bipush (-2), 2) := by decide +kernel
theorem dX5_set_10 : decode cX5_set 10 = .ok (.ireturn, 1) := by decide +kernel
theorem dX5_set_11 : decode cX5_set 11 = .ok (.aload_n 0, 1) := by decide +kernel
theorem dX5_set_12 : decode cX5_set 12 = .ok (.invokevirtual 210, 3) := by decide +kernel
theorem dX5_set_15 : decode cX5_set 15 = .ok (.aload_n 0, 1) := by decide +kernel
theorem dX5_set_16 : decode cX5_set 16 = .ok (.getfield 20, 3) := by decide +kernel
theorem dX5_set_19 : decode cX5_set 19 = .ok (.bipush 47, 2) := by decide +kernel
theorem dX5_set_21 : decode cX5_set 21 = .ok (.iload_n 1, 1) := by decide +kernel
theorem dX5_set_22 : decode cX5_set 22 = .ok (.iadd, 1) := by decide +kernel
theorem dX5_set_23 : decode cX5_set 23 = .ok (.iaload, 1) := by decide +kernel
theorem dX5_set_24 : decode cX5_set 24 = .ok (.istore_n 3, 1) := by decide +kernel
theorem dX5_set_25 : decode cX5_set 25 = .ok (.aload_n 0, 1) := by decide +kernel
theorem dX5_set_26 : decode cX5_set 26 = .ok (.getfield 20, 3) := by decide +kernel
theorem dX5_set_29 : decode cX5_set 29 = .ok (.bipush 47, 2) := by decide +kernel
theorem dX5_set_31 : decode cX5_set 31 = .ok (.iload_n 1, 1) := by decide +kernel
theorem dX5_set_32 : decode cX5_set 32 = .ok (.iadd, 1) := by decide +kernel
theorem dX5_set_33 : decode cX5_set 33 = .ok (.iload_n 2, 1) := by decide +kernel
theorem dX5_set_34 : decode cX5_set 34 = .ok (.iastore, 1) := by decide +kernel
theorem dX5_set_35 : decode cX5_set 35 = .ok (.iload_n 3, 1) := by decide +kernel
theorem dX5_set_36 : decode cX5_set 36 = .ok (.ireturn, 1) := by decide +kernel
theorem dX5_undo_0 : decode cX5_undo 0 = .ok (.aload_n 0, 1) := by decide +kernel
theorem dX5_undo_1 : decode cX5_undo 1 = .ok (.getfield 121, 3) := by decide +kernel
theorem dX5_undo_4 : decode cX5_undo 4 = .ok (.ifCond .ne 6, 3) := by decide +kernel
theorem dX5_undo_7 : decode cX5_undo 7 = .ok (.bipush (-3), 2) := by decide +kernel
theorem dX5_undo_9 : decode cX5_undo 9 = .ok (.ireturn, 1) := by decide +kernel
theorem dX5_undo_10 : decode cX5_undo 10 = .ok (.aload_n 0, 1) := by decide +kernel
theorem dX5_undo_11 : decode cX5_undo 11 = .ok (.dup, 1) := by decide +kernel
theorem dX5_undo_12 : decode cX5_undo 12 = .ok (.getfield 121, 3) := by decide +kernel
theorem dX5_undo_15 : decode cX5_undo 15 = .ok (.iconst 1, 1) := by decide +kernel
theorem dX5_undo_16 : decode cX5_undo 16 = .ok (.isub, 1) := by decide +kernel
theorem dX5_undo_17 : decode cX5_undo 17 = .ok (.putfield 121, 3) := by decide +kernel
theorem dX5_undo_20 : decode cX5_undo 20 = .ok (.aload_n 0, 1) := by decide +kernel
theorem dX5_undo_21 : decode cX5_undo 21 = .ok (.aload_n 0, 1) := by decide +kernel
theorem dX5_undo_22 : decode cX5_undo 22 = .ok (.getfield 205, 3) := by decide +kernel
theorem dX5_undo_25 : decode cX5_undo 25 = .ok (.bipush 14, 2) := by decide +kernel
theorem dX5_undo_27 : decode cX5_undo 27 = .ok (.iadd, 1) := by decide +kernel
theorem dX5_undo_28 : decode cX5_undo 28 = .ok (.iconst 1, 1) := by decide +kernel
theorem dX5_undo_29 : decode cX5_undo 29 = .ok (.isub, 1) := by decide +kernel
theorem dX5_undo_30 : decode cX5_undo 30 = .ok (.bipush 14, 2) := by decide +kernel
theorem dX5_undo_32 : decode cX5_undo 32 = .ok (.irem, 1) := by decide +kernel
theorem dX5_undo_33 : decode cX5_undo 33 = .ok (.putfield 205, 3) := by decide +kernel
theorem dX5_undo_36 : decode cX5_undo 36 = .ok (.iconst 0, 1) := by decide +kernel
theorem dX5_undo_37 : decode cX5_undo 37 = .ok (.istore_n 1, 1) := by decide +kernel
theorem dX5_undo_38 : decode cX5_undo 38 = .ok (.iload_n 1, 1) := by decide +kernel
theorem dX5_undo_39 : decode cX5_undo 39 = .ok (.bipush 51, 2) := by decide +kernel
theorem dX5_undo_41 : decode cX5_undo 41 = .ok (.if_icmp .ge 29, 3) := by decide +kernel
theorem dX5_undo_44 : decode cX5_undo 44 = .ok (.aload_n 0, 1) := by decide +kernel
theorem dX5_undo_45 : decode cX5_undo 45 = .ok (.getfield 20, 3) := by decide +kernel
theorem dX5_undo_48 : decode cX5_undo 48 = .ok (.iload_n 1, 1) := by decide +kernel
theorem dX5_undo_49 : decode cX5_undo 49 = .ok (.aload_n 0, 1) := by decide +kernel
theorem dX5_undo_50 : decode cX5_undo 50 = .ok (.getfield 26, 3) := by decide +kernel
theorem dX5_undo_53 : decode cX5_undo 53 = .ok (.bipush 51, 2) := by decide +kernel
theorem dX5_undo_55 : decode cX5_undo 55 = .ok (.aload_n 0, 1) := by decide +kernel
theorem dX5_undo_56 : decode cX5_undo 56 = .ok (.getfield 205, 3) := by decide +kernel
theorem dX5_undo_59 : decode cX5_undo 59 = .ok (.imul, 1) := by decide +kernel
theorem dX5_undo_60 : decode cX5_undo 60 = .ok (.iload_n 1, 1) := by decide +kernel
theorem dX5_undo_61 : decode cX5_undo 61 = .ok (.iadd, 1) := by decide +kernel
theorem dX5_undo_62 : decode cX5_undo 62 = .ok (.iaload, 1) := by decide +kernel
theorem dX5_undo_63 : decode cX5_undo 63 = .ok (.iastore, 1) := by decide +kernel
theorem dX5_undo_64 : decode cX5_undo 64 = .ok (.iinc 1 1, 3) := by decide +kernel
theorem dX5_undo_67 : decode cX5_undo 67 = .ok (.goto (-29), 3) := by decide +kernel
theorem dX5_undo_70 : decode cX5_undo 70 = .ok (.aload_n 0, 1) := by decide +kernel
theorem dX5_undo_71 : decode cX5_undo 71 = .ok (.getfield 121, 3) := by decide +kernel
theorem dX5_undo_74 : decode cX5_undo 74 = .ok (.ireturn, 1) := by decide +kernel
theorem dX5_firstInWay_0 : decode cX5_firstInWay 0 = .ok (.iconst 1, 1) := by decide +kernel
theorem dX5_firstInWay_1 : decode cX5_firstInWay 1 = .ok (.istore_n 3, 1) := by decide +kernel
theorem dX5_firstInWay_2 : decode cX5_firstInWay 2 = .ok (.iload_n 3, 1) := by decide +kernel
theorem dX5_firstInWay_3 : decode cX5_firstInWay 3 = .ok (.aload_n 0, 1) := by decide +kernel
theorem dX5_firstInWay_4 : decode cX5_firstInWay 4 = .ok (.iload_n 1, 1) := by decide +kernel
theorem dX5_firstInWay_5 : decode cX5_firstInWay 5 = .ok (.iload_n 2, 1) := by decide +kernel
theorem dX5_firstInWay_6 : decode cX5_firstInWay 6 = .ok (.invokevirtual 127, 3) := by decide +kernel
theorem dX5_firstInWay_9 : decode cX5_firstInWay 9 = .ok (.if_icmp .ge 39, 3) := by decide +kernel
theorem dX5_firstInWay_12 : decode cX5_firstInWay 12 = .ok (.aload_n 0, 1) := by decide +kernel
theorem dX5_firstInWay_13 : decode cX5_firstInWay 13 = .ok (.aload_n 0, 1) := by decide +kernel
theorem dX5_firstInWay_14 : decode cX5_firstInWay 14 = .ok (.getfield 20, 3) := by decide +kernel
theorem dX5_firstInWay_17 : decode cX5_firstInWay 17 = .ok (.iload_n 1, 1) := by decide +kernel
theorem dX5_firstInWay_18 : decode cX5_firstInWay 18 = .ok (.aload_n 0, 1) := by decide +kernel
theorem dX5_firstInWay_19 : decode cX5_firstInWay 19 = .ok (.getfield 20, 3) := by decide +kernel
theorem dX5_firstInWay_22 : decode cX5_firstInWay 22 = .ok (.iload_n 1, 1) := by decide +kernel
theorem dX5_firstInWay_23 : decode cX5_firstInWay 23 = .ok (.iaload, 1) := by decide +kernel
theorem dX5_firstInWay_24 : decode cX5_firstInWay 24 = .ok (.aload_n 0, 1) := by decide +kernel
theorem dX5_firstInWay_25 : decode cX5_firstInWay 25 = .ok (.getfield 20, 3) := by decide +kernel
theorem dX5_firstInWay_28 : decode cX5_firstInWay 28 = .ok (.bipush 47, 2) := by decide +kernel
theorem dX5_firstInWay_30 : decode cX5_firstInWay 30 = .ok (.iaload, 1) := by decide +kernel
theorem dX5_firstInWay_31 : decode cX5_firstInWay 31 = .ok (.iadd, 1) := by decide +kernel
theorem dX5_firstInWay_32 : decode cX5_firstInWay 32 = .ok (.iload_n 2, 1) := by decide +kernel
theorem dX5_firstInWay_33 : decode cX5_firstInWay 33 = .ok (.iload_n 3, 1) := by decide +kernel
theorem dX5_firstInWay_34 : decode cX5_firstInWay 34 = .ok (.invokevirtual 144, 3) := by decide +kernel
theorem dX5_firstInWay_37 : decode cX5_firstInWay 37 = .ok (.ifCond .le 5, 3) := by decide +kernel
theorem dX5_firstInWay_40 : decode cX5_firstInWay 40 = .ok (.iload_n 3, 1) := by decide +kernel
theorem dX5_firstInWay_41 : decode cX5_firstInWay 41 = .ok (.ireturn, 1) := by decide +kernel
theorem dX5_firstInWay_42 : decode cX5_firstInWay 42 = .ok (.iinc 3 1, 3) := by decide +kernel
theorem dX5_firstInWay_45 : decode cX5_firstInWay 45 = .ok (.goto (-43), 3) := by decide +kernel
theorem dX5_firstInWay_48 : decode cX5_firstInWay 48 = .ok (.bipush (-9), 2) := by decide +kernel
theorem dX5_firstInWay_50 : decode cX5_firstInWay 50 = .ok (.ireturn, 1) := by decide +kernel
theorem dX5_needed_0 : decode cX5_needed 0 = .ok (.iconst 0, 1) := by decide +kernel
theorem dX5_needed_1 : decode cX5_needed 1 = .ok (.istore_n 3, 1) := by decide +kernel
theorem dX5_needed_2 : decode cX5_needed 2 = .ok (.iload_n 3, 1) := by decide +kernel
theorem dX5_needed_3 : decode cX5_needed 3 = .ok (.bipush 100, 2) := by decide +kernel
theorem dX5_needed_5 : decode cX5_needed 5 = .ok (.if_icmp .ge 23, 3) := by decide +kernel
theorem dX5_needed_8 : decode cX5_needed 8 = .ok (.aload_n 0, 1) := by decide +kernel
theorem dX5_needed_9 : decode cX5_needed 9 = .ok (.aload_n 0, 1) := by decide +kernel
theorem dX5_needed_10 : decode cX5_needed 10 = .ok (.getfield 20, 3) := by decide +kernel
theorem dX5_needed_13 : decode cX5_needed 13 = .ok (.iload_n 1, 1) := by decide +kernel
theorem dX5_needed_14 : decode cX5_needed 14 = .ok (.iload_n 3, 1) := by decide +kernel
theorem dX5_needed_15 : decode cX5_needed 15 = .ok (.iload_n 2, 1) := by decide +kernel
theorem dX5_needed_16 : decode cX5_needed 16 = .ok (.invokevirtual 152, 3) := by decide +kernel
theorem dX5_needed_19 : decode cX5_needed 19 = .ok (.ifCond .ne 9, 3) := by decide +kernel
theorem dX5_needed_22 : decode cX5_needed 22 = .ok (.iinc 3 1, 3) := by decide +kernel
theorem dX5_needed_25 : decode cX5_needed 25 = .ok (.goto (-23), 3) := by decide +kernel
theorem dX5_needed_28 : decode cX5_needed 28 = .ok (.iload_n 3, 1) := by decide +kernel
theorem dX5_needed_29 : decode cX5_needed 29 = .ok (.bipush 100, 2) := by decide +kernel
theorem dX5_needed_31 : decode cX5_needed 31 = .ok (.if_icmp .ne 8, 3) := by decide +kernel
theorem dX5_needed_34 : decode cX5_needed 34 = .ok (.bipush (-9), 2) := by decide +kernel
theorem dX5_needed_36 : decode cX5_needed 36 = .ok (.goto 4, 3) := by decide +kernel
theorem dX5_needed_39 : decode cX5_needed 39 = .ok (.iload_n 3, 1) := by decide +kernel
theorem dX5_needed_40 : decode cX5_needed 40 = .ok (.ireturn, 1) := by decide +kernel
theorem dX5_sees_0 : decode cX5_sees 0 = .ok (.aload_n 0, 1) := by decide +kernel
theorem dX5_sees_1 : decode cX5_sees 1 = .ok (.iload_n 1, 1) := by decide +kernel
theorem dX5_sees_2 : decode cX5_sees 2 = .ok (.invokevirtual 185, 3) := by decide +kernel
theorem dX5_sees_5 : decode cX5_sees 5 = .ok (.ifCond .eq 11, 3) := by decide +kernel
theorem dX5_sees_8 : decode cX5_sees 8 = .ok (.aload_n 0, 1) := by decide +kernel
theorem dX5_sees_9 : decode cX5_sees 9 = .ok (.iload_n 2, 1) := by decide +kernel
theorem dX5_sees_10 : decode cX5_sees 10 = .ok (.invokevirtual 185, 3) := by decide +kernel
theorem dX5_sees_13 : decode cX5_sees 13 = .ok (.ifCond .ne 5, 3) := by decide +kernel
theorem dX5_sees_16 : decode cX5_sees 16 = .ok (.iconst (-1), 1) := by decide +kernel
theorem dX5_sees_17 : decode cX5_sees 17 = .ok (.ireturn, 1) := by decide +kernel
theorem dX5_sees_18 : decode cX5_sees 18 = .ok (.iload_n 3, 1) := by decide +kernel
theorem dX5_sees_19 : decode cX5_sees 19 = .ok (.tableswitch 124 0 4 #[33, 59, 66, 73, 117], 33) := by decide +kernel
theorem dX5_sees_52 : decode cX5_sees 52 = .ok (.aload_n 0, 1) := by decide +kernel
theorem dX5_sees_53 : decode cX5_sees 53 = .ok (.aload_n 0, 1) := by decide +kernel
theorem dX5_sees_54 : decode cX5_sees 54 = .ok (.getfield 20, 3) := by decide +kernel
theorem dX5_sees_57 : decode cX5_sees 57 = .ok (.iload_n 1, 1) := by decide +kernel
theorem dX5_sees_58 : decode cX5_sees 58 = .ok (.aload_n 0, 1) := by decide +kernel
theorem dX5_sees_59 : decode cX5_sees 59 = .ok (.getfield 20, 3) := by decide +kernel
theorem dX5_sees_62 : decode cX5_sees 62 = .ok (.bipush 47, 2) := by decide +kernel
theorem dX5_sees_64 : decode cX5_sees 64 = .ok (.iaload, 1) := by decide +kernel
theorem dX5_sees_65 : decode cX5_sees 65 = .ok (.iload_n 2, 1) := by decide +kernel
theorem dX5_sees_66 : decode cX5_sees 66 = .ok (.invokevirtual 152, 3) := by decide +kernel
theorem dX5_sees_69 : decode cX5_sees 69 = .ok (.ifCond .eq 7, 3) := by decide +kernel
theorem dX5_sees_72 : decode cX5_sees 72 = .ok (.iconst 1, 1) := by decide +kernel
theorem dX5_sees_73 : decode cX5_sees 73 = .ok (.goto 4, 3) := by decide +kernel
theorem dX5_sees_76 : decode cX5_sees 76 = .ok (.iconst 0, 1) := by decide +kernel
theorem dX5_sees_77 : decode cX5_sees 77 = .ok (.ireturn, 1) := by decide +kernel
theorem dX5_sees_78 : decode cX5_sees 78 = .ok (.aload_n 0, 1) := by decide +kernel
theorem dX5_sees_79 : decode cX5_sees 79 = .ok (.iload_n 1, 1) := by decide +kernel
theorem dX5_sees_80 : decode cX5_sees 80 = .ok (.iload_n 2, 1) := by decide +kernel
theorem dX5_sees_81 : decode cX5_sees 81 = .ok (.invokevirtual 127, 3) := by decide +kernel
theorem dX5_sees_84 : decode cX5_sees 84 = .ok (.ireturn, 1) := by decide +kernel
theorem dX5_sees_85 : decode cX5_sees 85 = .ok (.aload_n 0, 1) := by decide +kernel
theorem dX5_sees_86 : decode cX5_sees 86 = .ok (.iload_n 1, 1) := by decide +kernel
theorem dX5_sees_87 : decode cX5_sees 87 = .ok (.iload_n 2, 1) := by decide +kernel
theorem dX5_sees_88 : decode cX5_sees 88 = .ok (.invokevirtual 226, 3) := by decide +kernel
theorem dX5_sees_91 : decode cX5_sees 91 = .ok (.ireturn, 1) := by decide +kernel
theorem dX5_sees_92 : decode cX5_sees 92 = .ok (.aload_n 0, 1) := by decide +kernel
theorem dX5_sees_93 : decode cX5_sees 93 = .ok (.iload_n 1, 1) := by decide +kernel
theorem dX5_sees_94 : decode cX5_sees 94 = .ok (.iload_n 2, 1) := by decide +kernel
theorem dX5_sees_95 : decode cX5_sees 95 = .ok (.invokevirtual 127, 3) := by decide +kernel
theorem dX5_sees_98 : decode cX5_sees 98 = .ok (.iconst 2, 1) := by decide +kernel
theorem dX5_sees_99 : decode cX5_sees 99 = .ok (.if_icmp .ge 8, 3) := by decide +kernel
theorem dX5_sees_102 : decode cX5_sees 102 = .ok (.bipush (-9), 2) := by decide +kernel
theorem dX5_sees_104 : decode cX5_sees 104 = .ok (.goto 31, 3) := by decide +kernel
theorem dX5_sees_107 : decode cX5_sees 107 = .ok (.sipush 1000, 3) := by decide +kernel
theorem dX5_sees_110 : decode cX5_sees 110 = .ok (.aload_n 0, 1) := by decide +kernel
theorem dX5_sees_111 : decode cX5_sees 111 = .ok (.aload_n 0, 1) := by decide +kernel
theorem dX5_sees_112 : decode cX5_sees 112 = .ok (.getfield 20, 3) := by decide +kernel
theorem dX5_sees_115 : decode cX5_sees 115 = .ok (.iload_n 1, 1) := by decide +kernel
theorem dX5_sees_116 : decode cX5_sees 116 = .ok (.aload_n 0, 1) := by decide +kernel
theorem dX5_sees_117 : decode cX5_sees 117 = .ok (.getfield 20, 3) := by decide +kernel
theorem dX5_sees_120 : decode cX5_sees 120 = .ok (.iload_n 1, 1) := by decide +kernel
theorem dX5_sees_121 : decode cX5_sees 121 = .ok (.iaload, 1) := by decide +kernel
theorem dX5_sees_122 : decode cX5_sees 122 = .ok (.aload_n 0, 1) := by decide +kernel
theorem dX5_sees_123 : decode cX5_sees 123 = .ok (.getfield 20, 3) := by decide +kernel
theorem dX5_sees_126 : decode cX5_sees 126 = .ok (.bipush 47, 2) := by decide +kernel
theorem dX5_sees_128 : decode cX5_sees 128 = .ok (.iaload, 1) := by decide +kernel
theorem dX5_sees_129 : decode cX5_sees 129 = .ok (.iadd, 1) := by decide +kernel
theorem dX5_sees_130 : decode cX5_sees 130 = .ok (.iload_n 2, 1) := by decide +kernel
theorem dX5_sees_131 : decode cX5_sees 131 = .ok (.invokevirtual 148, 3) := by decide +kernel
theorem dX5_sees_134 : decode cX5_sees 134 = .ok (.iadd, 1) := by decide +kernel
theorem dX5_sees_135 : decode cX5_sees 135 = .ok (.ireturn, 1) := by decide +kernel
theorem dX5_sees_136 : decode cX5_sees 136 = .ok (.aload_n 0, 1) := by decide +kernel
theorem dX5_sees_137 : decode cX5_sees 137 = .ok (.iload_n 1, 1) := by decide +kernel
theorem dX5_sees_138 : decode cX5_sees 138 = .ok (.iload_n 2, 1) := by decide +kernel
theorem dX5_sees_139 : decode cX5_sees 139 = .ok (.invokevirtual 229, 3) := by decide +kernel
theorem dX5_sees_142 : decode cX5_sees 142 = .ok (.ireturn, 1) := by decide +kernel
theorem dX5_sees_143 : decode cX5_sees 143 = .ok (.bipush (-2), 2) := by decide +kernel
theorem dX5_sees_145 : decode cX5_sees 145 = .ok (.ireturn, 1) := by decide +kernel
theorem dX5_view_0 : decode cX5_view 0 = .ok (.aload_n 0, 1) := by decide +kernel
theorem dX5_view_1 : decode cX5_view 1 = .ok (.iload_n 1, 1) := by decide +kernel
theorem dX5_view_2 : decode cX5_view 2 = .ok (.invokevirtual 185, 3) := by decide +kernel
theorem dX5_view_5 : decode cX5_view 5 = .ok (.ifCond .eq 22, 3) := by decide +kernel
theorem dX5_view_8 : decode cX5_view 8 = .ok (.aload_n 0, 1) := by decide +kernel
theorem dX5_view_9 : decode cX5_view 9 = .ok (.aload_n 0, 1) := by decide +kernel
theorem dX5_view_10 : decode cX5_view 10 = .ok (.getfield 20, 3) := by decide +kernel
theorem dX5_view_13 : decode cX5_view 13 = .ok (.iload_n 1, 1) := by decide +kernel
theorem dX5_view_14 : decode cX5_view 14 = .ok (.aload_n 0, 1) := by decide +kernel
theorem dX5_view_15 : decode cX5_view 15 = .ok (.getfield 20, 3) := by decide +kernel
theorem dX5_view_18 : decode cX5_view 18 = .ok (.bipush 47, 2) := by decide +kernel
theorem dX5_view_20 : decode cX5_view 20 = .ok (.iaload, 1) := by decide +kernel
theorem dX5_view_21 : decode cX5_view 21 = .ok (.invokevirtual 156, 3) := by decide +kernel
theorem dX5_view_24 : decode cX5_view 24 = .ok (.goto 6, 3) := by decide +kernel
theorem dX5_view_27 : decode cX5_view 27 = .ok (.ldc2_w 197, 3) := by decide +kernel
theorem dX5_view_30 : decode cX5_view 30 = .ok (.lreturn, 1) := by decide +kernel
theorem dX5_watched_0 : decode cX5_watched 0 = .ok (.aload_n 0, 1) := by decide +kernel
theorem dX5_watched_1 : decode cX5_watched 1 = .ok (.iload_n 1, 1) := by decide +kernel
theorem dX5_watched_2 : decode cX5_watched 2 = .ok (.invokevirtual 199, 3) := by decide +kernel
theorem dX5_watched_5 : decode cX5_watched 5 = .ok (.ifCond .eq 15, 3) := by decide +kernel
theorem dX5_watched_8 : decode cX5_watched 8 = .ok (.aload_n 0, 1) := by decide +kernel
theorem dX5_watched_9 : decode cX5_watched 9 = .ok (.aload_n 0, 1) := by decide +kernel
theorem dX5_watched_10 : decode cX5_watched 10 = .ok (.getfield 20, 3) := by decide +kernel
theorem dX5_watched_13 : decode cX5_watched 13 = .ok (.iload_n 1, 1) := by decide +kernel
theorem dX5_watched_14 : decode cX5_watched 14 = .ok (.invokevirtual 160, 3) := by decide +kernel
theorem dX5_watched_17 : decode cX5_watched 17 = .ok (.goto 6, 3) := by decide +kernel
theorem dX5_watched_20 : decode cX5_watched 20 = .ok (.ldc2_w 197, 3) := by decide +kernel
theorem dX5_watched_23 : decode cX5_watched 23 = .ok (.lreturn, 1) := by decide +kernel
theorem dX5_joined_0 : decode cX5_joined 0 = .ok (.iload_n 1, 1) := by decide +kernel
theorem dX5_joined_1 : decode cX5_joined 1 = .ok (.i2l, 1) := by decide +kernel
theorem dX5_joined_2 : decode cX5_joined 2 = .ok (.lconst 0, 1) := by decide +kernel
theorem dX5_joined_3 : decode cX5_joined 3 = .ok (.ldc2_w 221, 3) := by decide +kernel
theorem dX5_joined_6 : decode cX5_joined 6 = .ok (.invokestatic 67, 3) := by decide +kernel
theorem dX5_joined_9 : decode cX5_joined 9 = .ok (.ifCond .ne 7, 3) := by decide +kernel
theorem dX5_joined_12 : decode cX5_joined 12 = .ok (.ldc2_w 232, 3) := by decide +kernel
theorem dX5_joined_15 : decode cX5_joined 15 = .ok (.lreturn, 1) := by decide +kernel
theorem dX5_joined_16 : decode cX5_joined 16 = .ok (.lconst 0, 1) := by decide +kernel
theorem dX5_joined_17 : decode cX5_joined 17 = .ok (.lstore_n 2, 1) := by decide +kernel
theorem dX5_joined_18 : decode cX5_joined 18 = .ok (.iconst 0, 1) := by decide +kernel
theorem dX5_joined_19 : decode cX5_joined 19 = .ok (.istore 4, 2) := by decide +kernel
theorem dX5_joined_21 : decode cX5_joined 21 = .ok (.iload 4, 2) := by decide +kernel
theorem dX5_joined_23 : decode cX5_joined 23 = .ok (.aload_n 0, 1) := by decide +kernel
theorem dX5_joined_24 : decode cX5_joined 24 = .ok (.getfield 20, 3) := by decide +kernel
theorem dX5_joined_27 : decode cX5_joined 27 = .ok (.bipush 36, 2) := by decide +kernel
theorem dX5_joined_29 : decode cX5_joined 29 = .ok (.iaload, 1) := by decide +kernel
theorem dX5_joined_30 : decode cX5_joined 30 = .ok (.if_icmp .ge 75, 3) := by decide +kernel
theorem dX5_joined_33 : decode cX5_joined 33 = .ok (.aload_n 0, 1) := by decide +kernel
theorem dX5_joined_34 : decode cX5_joined 34 = .ok (.aload_n 0, 1) := by decide +kernel
theorem dX5_joined_35 : decode cX5_joined 35 = .ok (.getfield 20, 3) := by decide +kernel
theorem dX5_joined_38 : decode cX5_joined 38 = .ok (.iload 4, 2) := by decide +kernel
theorem dX5_joined_40 : decode cX5_joined 40 = .ok (.invokevirtual 160, 3) := by decide +kernel
theorem dX5_joined_43 : decode cX5_joined 43 = .ok (.lstore 5, 2) := by decide +kernel
theorem dX5_joined_45 : decode cX5_joined 45 = .ok (.iload 4, 2) := by decide +kernel
theorem dX5_joined_47 : decode cX5_joined 47 = .ok (.ifCond .ne 8, 3) := by decide +kernel
theorem dX5_joined_50 : decode cX5_joined 50 = .ok (.lload 5, 2) := by decide +kernel
theorem dX5_joined_52 : decode cX5_joined 52 = .ok (.goto 46, 3) := by decide +kernel
theorem dX5_joined_55 : decode cX5_joined 55 = .ok (.iload_n 1, 1) := by decide +kernel
theorem dX5_joined_56 : decode cX5_joined 56 = .ok (.ifCond .ne 10, 3) := by decide +kernel
theorem dX5_joined_59 : decode cX5_joined 59 = .ok (.lload_n 2, 1) := by decide +kernel
theorem dX5_joined_60 : decode cX5_joined 60 = .ok (.lload 5, 2) := by decide +kernel
theorem dX5_joined_62 : decode cX5_joined 62 = .ok (.lor, 1) := by decide +kernel
theorem dX5_joined_63 : decode cX5_joined 63 = .ok (.goto 35, 3) := by decide +kernel
theorem dX5_joined_66 : decode cX5_joined 66 = .ok (.iload_n 1, 1) := by decide +kernel
theorem dX5_joined_67 : decode cX5_joined 67 = .ok (.iconst 1, 1) := by decide +kernel
theorem dX5_joined_68 : decode cX5_joined 68 = .ok (.if_icmp .ne 10, 3) := by decide +kernel
theorem dX5_joined_71 : decode cX5_joined 71 = .ok (.lload_n 2, 1) := by decide +kernel
theorem dX5_joined_72 : decode cX5_joined 72 = .ok (.lload 5, 2) := by decide +kernel
theorem dX5_joined_74 : decode cX5_joined 74 = .ok (.land, 1) := by decide +kernel
theorem dX5_joined_75 : decode cX5_joined 75 = .ok (.goto 23, 3) := by decide +kernel
theorem dX5_joined_78 : decode cX5_joined 78 = .ok (.iload_n 1, 1) := by decide +kernel
theorem dX5_joined_79 : decode cX5_joined 79 = .ok (.iconst 2, 1) := by decide +kernel
theorem dX5_joined_80 : decode cX5_joined 80 = .ok (.if_icmp .ne 10, 3) := by decide +kernel
theorem dX5_joined_83 : decode cX5_joined 83 = .ok (.lload_n 2, 1) := by decide +kernel
theorem dX5_joined_84 : decode cX5_joined 84 = .ok (.lload 5, 2) := by decide +kernel
theorem dX5_joined_86 : decode cX5_joined 86 = .ok (.lxor, 1) := by decide +kernel
theorem dX5_joined_87 : decode cX5_joined 87 = .ok (.goto 11, 3) := by decide +kernel
theorem dX5_joined_90 : decode cX5_joined 90 = .ok (.lload_n 2, 1) := by decide +kernel
theorem dX5_joined_91 : decode cX5_joined 91 = .ok (.lload 5, 2) := by decide +kernel
theorem dX5_joined_93 : decode cX5_joined 93 = .ok (.ldc2_w 197, 3) := by decide +kernel
theorem dX5_joined_96 : decode cX5_joined 96 = .ok (.lxor, 1) := by decide +kernel
theorem dX5_joined_97 : decode cX5_joined 97 = .ok (.land, 1) := by decide +kernel
theorem dX5_joined_98 : decode cX5_joined 98 = .ok (.lstore_n 2, 1) := by decide +kernel
theorem dX5_joined_99 : decode cX5_joined 99 = .ok (.iinc 4 1, 3) := by decide +kernel
theorem dX5_joined_102 : decode cX5_joined 102 = .ok (.goto (-81), 3) := by decide +kernel
theorem dX5_joined_105 : decode cX5_joined 105 = .ok (.lload_n 2, 1) := by decide +kernel
theorem dX5_joined_106 : decode cX5_joined 106 = .ok (.lreturn, 1) := by decide +kernel
theorem dX5_hollow_0 : decode cX5_hollow 0 = .ok (.iload_n 1, 1) := by decide +kernel
theorem dX5_hollow_1 : decode cX5_hollow 1 = .ok (.i2l, 1) := by decide +kernel
theorem dX5_hollow_2 : decode cX5_hollow 2 = .ok (.lconst 0, 1) := by decide +kernel
theorem dX5_hollow_3 : decode cX5_hollow 3 = .ok (.aload_n 0, 1) := by decide +kernel
theorem dX5_hollow_4 : decode cX5_hollow 4 = .ok (.aload_n 0, 1) := by decide +kernel
theorem dX5_hollow_5 : decode cX5_hollow 5 = .ok (.getfield 20, 3) := by decide +kernel
theorem dX5_hollow_8 : decode cX5_hollow 8 = .ok (.invokevirtual 179, 3) := by decide +kernel
theorem dX5_hollow_11 : decode cX5_hollow 11 = .ok (.iconst 1, 1) := by decide +kernel
theorem dX5_hollow_12 : decode cX5_hollow 12 = .ok (.isub, 1) := by decide +kernel
theorem dX5_hollow_13 : decode cX5_hollow 13 = .ok (.i2l, 1) := by decide +kernel
theorem dX5_hollow_14 : decode cX5_hollow 14 = .ok (.invokestatic 67, 3) := by decide +kernel
theorem dX5_hollow_17 : decode cX5_hollow 17 = .ok (.ifCond .ne 7, 3) := by decide +kernel
theorem dX5_hollow_20 : decode cX5_hollow 20 = .ok (.ldc2_w 197, 3) := by decide +kernel
theorem dX5_hollow_23 : decode cX5_hollow 23 = .ok (.lreturn, 1) := by decide +kernel
theorem dX5_hollow_24 : decode cX5_hollow 24 = .ok (.lconst 0, 1) := by decide +kernel
theorem dX5_hollow_25 : decode cX5_hollow 25 = .ok (.lstore_n 2, 1) := by decide +kernel
theorem dX5_hollow_26 : decode cX5_hollow 26 = .ok (.iconst 0, 1) := by decide +kernel
theorem dX5_hollow_27 : decode cX5_hollow 27 = .ok (.istore 4, 2) := by decide +kernel
theorem dX5_hollow_29 : decode cX5_hollow 29 = .ok (.iload 4, 2) := by decide +kernel
theorem dX5_hollow_31 : decode cX5_hollow 31 = .ok (.aload_n 0, 1) := by decide +kernel
theorem dX5_hollow_32 : decode cX5_hollow 32 = .ok (.invokevirtual 63, 3) := by decide +kernel
theorem dX5_hollow_35 : decode cX5_hollow 35 = .ok (.if_icmp .ge 47, 3) := by decide +kernel
theorem dX5_hollow_38 : decode cX5_hollow 38 = .ok (.lload_n 2, 1) := by decide +kernel
theorem dX5_hollow_39 : decode cX5_hollow 39 = .ok (.aload_n 0, 1) := by decide +kernel
theorem dX5_hollow_40 : decode cX5_hollow 40 = .ok (.getfield 52, 3) := by decide +kernel
theorem dX5_hollow_43 : decode cX5_hollow 43 = .ok (.iload 4, 2) := by decide +kernel
theorem dX5_hollow_45 : decode cX5_hollow 45 = .ok (.iaload, 1) := by decide +kernel
theorem dX5_hollow_46 : decode cX5_hollow 46 = .ok (.bipush (-9), 2) := by decide +kernel
theorem dX5_hollow_48 : decode cX5_hollow 48 = .ok (.if_icmp .eq 25, 3) := by decide +kernel
theorem dX5_hollow_51 : decode cX5_hollow 51 = .ok (.aload_n 0, 1) := by decide +kernel
theorem dX5_hollow_52 : decode cX5_hollow 52 = .ok (.aload_n 0, 1) := by decide +kernel
theorem dX5_hollow_53 : decode cX5_hollow 53 = .ok (.getfield 52, 3) := by decide +kernel
theorem dX5_hollow_56 : decode cX5_hollow 56 = .ok (.iload 4, 2) := by decide +kernel
theorem dX5_hollow_58 : decode cX5_hollow 58 = .ok (.iaload, 1) := by decide +kernel
theorem dX5_hollow_59 : decode cX5_hollow 59 = .ok (.invokevirtual 194, 3) := by decide +kernel
theorem dX5_hollow_62 : decode cX5_hollow 62 = .ok (.iload_n 1, 1) := by decide +kernel
theorem dX5_hollow_63 : decode cX5_hollow 63 = .ok (.if_icmp .ne 10, 3) := by decide +kernel
theorem dX5_hollow_66 : decode cX5_hollow 66 = .ok (.lconst 1, 1) := by decide +kernel
theorem dX5_hollow_67 : decode cX5_hollow 67 = .ok (.iload 4, 2) := by decide +kernel
theorem dX5_hollow_69 : decode cX5_hollow 69 = .ok (.lshl, 1) := by decide +kernel
theorem dX5_hollow_70 : decode cX5_hollow 70 = .ok (.goto 4, 3) := by decide +kernel
theorem dX5_hollow_73 : decode cX5_hollow 73 = .ok (.lconst 0, 1) := by decide +kernel
theorem dX5_hollow_74 : decode cX5_hollow 74 = .ok (.lor, 1) := by decide +kernel
theorem dX5_hollow_75 : decode cX5_hollow 75 = .ok (.lstore_n 2, 1) := by decide +kernel
theorem dX5_hollow_76 : decode cX5_hollow 76 = .ok (.iinc 4 1, 3) := by decide +kernel
theorem dX5_hollow_79 : decode cX5_hollow 79 = .ok (.goto (-50), 3) := by decide +kernel
theorem dX5_hollow_82 : decode cX5_hollow 82 = .ok (.lload_n 2, 1) := by decide +kernel
theorem dX5_hollow_83 : decode cX5_hollow 83 = .ok (.lreturn, 1) := by decide +kernel
theorem dX5_last_0 : decode cX5_last 0 = .ok (.aload_n 0, 1) := by decide +kernel
theorem dX5_last_1 : decode cX5_last 1 = .ok (.iload_n 1, 1) := by decide +kernel
theorem dX5_last_2 : decode cX5_last 2 = .ok (.invokevirtual 185, 3) := by decide +kernel
theorem dX5_last_5 : decode cX5_last 5 = .ok (.ifCond .ne 5, 3) := by decide +kernel
theorem dX5_last_8 : decode cX5_last 8 = .ok (.iconst (-1), 1) := by decide +kernel
theorem dX5_last_9 : decode cX5_last 9 = .ok (.ireturn, 1) := by decide +kernel
theorem dX5_last_10 : decode cX5_last 10 = .ok (.iload_n 2, 1) := by decide +kernel
theorem dX5_last_11 : decode cX5_last 11 = .ok (.i2l, 1) := by decide +kernel
theorem dX5_last_12 : decode cX5_last 12 = .ok (.lconst 0, 1) := by decide +kernel
theorem dX5_last_13 : decode cX5_last 13 = .ok (.ldc2_w 234, 3) := by decide +kernel
theorem dX5_last_16 : decode cX5_last 16 = .ok (.invokestatic 67, 3) := by decide +kernel
theorem dX5_last_19 : decode cX5_last 19 = .ok (.ifCond .ne 6, 3) := by decide +kernel
theorem dX5_last_22 : decode cX5_last 22 = .ok (.bipush (-2), 2) := by decide +kernel
theorem dX5_last_24 : decode cX5_last 24 = .ok (.ireturn, 1) := by decide +kernel
theorem dX5_last_25 : decode cX5_last 25 = .ok (.iload_n 2, 1) := by decide +kernel
theorem dX5_last_26 : decode cX5_last 26 = .ok (.iconst 2, 1) := by decide +kernel
theorem dX5_last_27 : decode cX5_last 27 = .ok (.if_icmp .lt 9, 3) := by decide +kernel
theorem dX5_last_30 : decode cX5_last 30 = .ok (.iload_n 2, 1) := by decide +kernel
theorem dX5_last_31 : decode cX5_last 31 = .ok (.bipush 7, 2) := by decide +kernel
theorem dX5_last_33 : decode cX5_last 33 = .ok (.if_icmp .ne 7, 3) := by decide +kernel
theorem dX5_last_36 : decode cX5_last 36 = .ok (.iconst 1, 1) := by decide +kernel
theorem dX5_last_37 : decode cX5_last 37 = .ok (.goto 19, 3) := by decide +kernel
theorem dX5_last_40 : decode cX5_last 40 = .ok (.iload_n 2, 1) := by decide +kernel
theorem dX5_last_41 : decode cX5_last 41 = .ok (.iconst 2, 1) := by decide +kernel
theorem dX5_last_42 : decode cX5_last 42 = .ok (.if_icmp .le 13, 3) := by decide +kernel
theorem dX5_last_45 : decode cX5_last 45 = .ok (.iload_n 2, 1) := by decide +kernel
theorem dX5_last_46 : decode cX5_last 46 = .ok (.bipush 6, 2) := by decide +kernel
theorem dX5_last_48 : decode cX5_last 48 = .ok (.if_icmp .ge 7, 3) := by decide +kernel
theorem dX5_last_51 : decode cX5_last 51 = .ok (.iconst (-1), 1) := by decide +kernel
theorem dX5_last_52 : decode cX5_last 52 = .ok (.goto 4, 3) := by decide +kernel
theorem dX5_last_55 : decode cX5_last 55 = .ok (.iconst 0, 1) := by decide +kernel
theorem dX5_last_56 : decode cX5_last 56 = .ok (.istore_n 3, 1) := by decide +kernel
theorem dX5_last_57 : decode cX5_last 57 = .ok (.iload_n 2, 1) := by decide +kernel
theorem dX5_last_58 : decode cX5_last 58 = .ok (.i2l, 1) := by decide +kernel
theorem dX5_last_59 : decode cX5_last 59 = .ok (.lconst 1, 1) := by decide +kernel
theorem dX5_last_60 : decode cX5_last 60 = .ok (.ldc2_w 221, 3) := by decide +kernel
theorem dX5_last_63 : decode cX5_last 63 = .ok (.invokestatic 67, 3) := by decide +kernel
theorem dX5_last_66 : decode cX5_last 66 = .ok (.ifCond .eq 7, 3) := by decide +kernel
theorem dX5_last_69 : decode cX5_last 69 = .ok (.iconst 1, 1) := by decide +kernel
theorem dX5_last_70 : decode cX5_last 70 = .ok (.goto 13, 3) := by decide +kernel
theorem dX5_last_73 : decode cX5_last 73 = .ok (.iload_n 2, 1) := by decide +kernel
theorem dX5_last_74 : decode cX5_last 74 = .ok (.iconst 4, 1) := by decide +kernel
theorem dX5_last_75 : decode cX5_last 75 = .ok (.if_icmp .le 7, 3) := by decide +kernel
theorem dX5_last_78 : decode cX5_last 78 = .ok (.iconst (-1), 1) := by decide +kernel
theorem dX5_last_79 : decode cX5_last 79 = .ok (.goto 4, 3) := by decide +kernel
theorem dX5_last_82 : decode cX5_last 82 = .ok (.iconst 0, 1) := by decide +kernel
theorem dX5_last_83 : decode cX5_last 83 = .ok (.istore 4, 2) := by decide +kernel
theorem dX5_last_85 : decode cX5_last 85 = .ok (.iload_n 1, 1) := by decide +kernel
theorem dX5_last_86 : decode cX5_last 86 = .ok (.aload_n 0, 1) := by decide +kernel
theorem dX5_last_87 : decode cX5_last 87 = .ok (.getfield 13, 3) := by decide +kernel
theorem dX5_last_90 : decode cX5_last 90 = .ok (.irem, 1) := by decide +kernel
theorem dX5_last_91 : decode cX5_last 91 = .ok (.istore 5, 2) := by decide +kernel
theorem dX5_last_93 : decode cX5_last 93 = .ok (.iload_n 1, 1) := by decide +kernel
theorem dX5_last_94 : decode cX5_last 94 = .ok (.aload_n 0, 1) := by decide +kernel
theorem dX5_last_95 : decode cX5_last 95 = .ok (.getfield 13, 3) := by decide +kernel
theorem dX5_last_98 : decode cX5_last 98 = .ok (.idiv, 1) := by decide +kernel
theorem dX5_last_99 : decode cX5_last 99 = .ok (.istore 6, 2) := by decide +kernel
theorem dX5_last_101 : decode cX5_last 101 = .ok (.iload_n 1, 1) := by decide +kernel
theorem dX5_last_102 : decode cX5_last 102 = .ok (.istore 7, 2) := by decide +kernel
theorem dX5_last_104 : decode cX5_last 104 = .ok (.iload 5, 2) := by decide +kernel
theorem dX5_last_106 : decode cX5_last 106 = .ok (.i2l, 1) := by decide +kernel
theorem dX5_last_107 : decode cX5_last 107 = .ok (.lconst 0, 1) := by decide +kernel
theorem dX5_last_108 : decode cX5_last 108 = .ok (.aload_n 0, 1) := by decide +kernel
theorem dX5_last_109 : decode cX5_last 109 = .ok (.getfield 13, 3) := by decide +kernel
theorem dX5_last_112 : decode cX5_last 112 = .ok (.iconst 1, 1) := by decide +kernel
theorem dX5_last_113 : decode cX5_last 113 = .ok (.isub, 1) := by decide +kernel
theorem dX5_last_114 : decode cX5_last 114 = .ok (.i2l, 1) := by decide +kernel
theorem dX5_last_115 : decode cX5_last 115 = .ok (.invokestatic 67, 3) := by decide +kernel
theorem dX5_last_118 : decode cX5_last 118 = .ok (.ifCond .eq 78, 3) := by decide +kernel
theorem dX5_last_121 : decode cX5_last 121 = .ok (.iload 6, 2) := by decide +kernel
theorem dX5_last_123 : decode cX5_last 123 = .ok (.i2l, 1) := by decide +kernel
theorem dX5_last_124 : decode cX5_last 124 = .ok (.lconst 0, 1) := by decide +kernel
theorem dX5_last_125 : decode cX5_last 125 = .ok (.aload_n 0, 1) := by decide +kernel
theorem dX5_last_126 : decode cX5_last 126 = .ok (.getfield 17, 3) := by decide +kernel
theorem dX5_last_129 : decode cX5_last 129 = .ok (.iconst 1, 1) := by decide +kernel
theorem dX5_last_130 : decode cX5_last 130 = .ok (.isub, 1) := by decide +kernel
theorem dX5_last_131 : decode cX5_last 131 = .ok (.i2l, 1) := by decide +kernel
theorem dX5_last_132 : decode cX5_last 132 = .ok (.invokestatic 67, 3) := by decide +kernel
theorem dX5_last_135 : decode cX5_last 135 = .ok (.ifCond .eq 61, 3) := by decide +kernel
theorem dX5_last_138 : decode cX5_last 138 = .ok (.aload_n 0, 1) := by decide +kernel
theorem dX5_last_139 : decode cX5_last 139 = .ok (.getfield 13, 3) := by decide +kernel
theorem dX5_last_142 : decode cX5_last 142 = .ok (.iload 6, 2) := by decide +kernel
theorem dX5_last_144 : decode cX5_last 144 = .ok (.imul, 1) := by decide +kernel
theorem dX5_last_145 : decode cX5_last 145 = .ok (.iload 5, 2) := by decide +kernel
theorem dX5_last_147 : decode cX5_last 147 = .ok (.iadd, 1) := by decide +kernel
theorem dX5_last_148 : decode cX5_last 148 = .ok (.istore 8, 2) := by decide +kernel
theorem dX5_last_150 : decode cX5_last 150 = .ok (.aload_n 0, 1) := by decide +kernel
theorem dX5_last_151 : decode cX5_last 151 = .ok (.aload_n 0, 1) := by decide +kernel
theorem dX5_last_152 : decode cX5_last 152 = .ok (.getfield 20, 3) := by decide +kernel
theorem dX5_last_155 : decode cX5_last 155 = .ok (.iload_n 1, 1) := by decide +kernel
theorem dX5_last_156 : decode cX5_last 156 = .ok (.aload_n 0, 1) := by decide +kernel
theorem dX5_last_157 : decode cX5_last 157 = .ok (.getfield 20, 3) := by decide +kernel
theorem dX5_last_160 : decode cX5_last 160 = .ok (.bipush 47, 2) := by decide +kernel
theorem dX5_last_162 : decode cX5_last 162 = .ok (.iaload, 1) := by decide +kernel
theorem dX5_last_163 : decode cX5_last 163 = .ok (.iload 8, 2) := by decide +kernel
theorem dX5_last_165 : decode cX5_last 165 = .ok (.invokevirtual 152, 3) := by decide +kernel
theorem dX5_last_168 : decode cX5_last 168 = .ok (.ifCond .eq 8, 3) := by decide +kernel
theorem dX5_last_171 : decode cX5_last 171 = .ok (.iload 8, 2) := by decide +kernel
theorem dX5_last_173 : decode cX5_last 173 = .ok (.goto 5, 3) := by decide +kernel
theorem dX5_last_176 : decode cX5_last 176 = .ok (.iload 7, 2) := by decide +kernel
theorem dX5_last_178 : decode cX5_last 178 = .ok (.istore 7, 2) := by decide +kernel
theorem dX5_last_180 : decode cX5_last 180 = .ok (.iload 5, 2) := by decide +kernel
theorem dX5_last_182 : decode cX5_last 182 = .ok (.iload_n 3, 1) := by decide +kernel
theorem dX5_last_183 : decode cX5_last 183 = .ok (.iadd, 1) := by decide +kernel
theorem dX5_last_184 : decode cX5_last 184 = .ok (.istore 5, 2) := by decide +kernel
theorem dX5_last_186 : decode cX5_last 186 = .ok (.iload 6, 2) := by decide +kernel
theorem dX5_last_188 : decode cX5_last 188 = .ok (.iload 4, 2) := by decide +kernel
theorem dX5_last_190 : decode cX5_last 190 = .ok (.iadd, 1) := by decide +kernel
theorem dX5_last_191 : decode cX5_last 191 = .ok (.istore 6, 2) := by decide +kernel
theorem dX5_last_193 : decode cX5_last 193 = .ok (.goto (-89), 3) := by decide +kernel
theorem dX5_last_196 : decode cX5_last 196 = .ok (.iload 7, 2) := by decide +kernel
theorem dX5_last_198 : decode cX5_last 198 = .ok (.ireturn, 1) := by decide +kernel
theorem dX5_layViews_0 : decode cX5_layViews 0 = .ok (.iconst 0, 1) := by decide +kernel
theorem dX5_layViews_1 : decode cX5_layViews 1 = .ok (.istore_n 2, 1) := by decide +kernel
theorem dX5_layViews_2 : decode cX5_layViews 2 = .ok (.iload_n 2, 1) := by decide +kernel
theorem dX5_layViews_3 : decode cX5_layViews 3 = .ok (.aload_n 0, 1) := by decide +kernel
theorem dX5_layViews_4 : decode cX5_layViews 4 = .ok (.invokevirtual 63, 3) := by decide +kernel
theorem dX5_layViews_7 : decode cX5_layViews 7 = .ok (.if_icmp .ge 25, 3) := by decide +kernel
theorem dX5_layViews_10 : decode cX5_layViews 10 = .ok (.aload_n 0, 1) := by decide +kernel
theorem dX5_layViews_11 : decode cX5_layViews 11 = .ok (.getfield 48, 3) := by decide +kernel
theorem dX5_layViews_14 : decode cX5_layViews 14 = .ok (.iload_n 2, 1) := by decide +kernel
theorem dX5_layViews_15 : decode cX5_layViews 15 = .ok (.aload_n 0, 1) := by decide +kernel
theorem dX5_layViews_16 : decode cX5_layViews 16 = .ok (.aload_n 0, 1) := by decide +kernel
theorem dX5_layViews_17 : decode cX5_layViews 17 = .ok (.getfield 20, 3) := by decide +kernel
theorem dX5_layViews_20 : decode cX5_layViews 20 = .ok (.iload_n 2, 1) := by decide +kernel
theorem dX5_layViews_21 : decode cX5_layViews 21 = .ok (.iload_n 1, 1) := by decide +kernel
theorem dX5_layViews_22 : decode cX5_layViews 22 = .ok (.invokevirtual 156, 3) := by decide +kernel
theorem dX5_layViews_25 : decode cX5_layViews 25 = .ok (.lastore, 1) := by decide +kernel
theorem dX5_layViews_26 : decode cX5_layViews 26 = .ok (.iinc 2 1, 3) := by decide +kernel
theorem dX5_layViews_29 : decode cX5_layViews 29 = .ok (.goto (-27), 3) := by decide +kernel
theorem dX5_layViews_32 : decode cX5_layViews 32 = .ok (.return_, 1) := by decide +kernel
theorem dX5_best_0 : decode cX5_best 0 = .ok (.iload_n 1, 1) := by decide +kernel
theorem dX5_best_1 : decode cX5_best 1 = .ok (.i2l, 1) := by decide +kernel
theorem dX5_best_2 : decode cX5_best 2 = .ok (.lconst 0, 1) := by decide +kernel
theorem dX5_best_3 : decode cX5_best 3 = .ok (.ldc2_w 208, 3) := by decide +kernel
theorem dX5_best_6 : decode cX5_best 6 = .ok (.invokestatic 67, 3) := by decide +kernel
theorem dX5_best_9 : decode cX5_best 9 = .ok (.ifCond .eq 13, 3) := by decide +kernel
theorem dX5_best_12 : decode cX5_best 12 = .ok (.iload_n 2, 1) := by decide +kernel
theorem dX5_best_13 : decode cX5_best 13 = .ok (.i2l, 1) := by decide +kernel
theorem dX5_best_14 : decode cX5_best 14 = .ok (.lconst 0, 1) := by decide +kernel
theorem dX5_best_15 : decode cX5_best 15 = .ok (.lconst 1, 1) := by decide +kernel
theorem dX5_best_16 : decode cX5_best 16 = .ok (.invokestatic 67, 3) := by decide +kernel
theorem dX5_best_19 : decode cX5_best 19 = .ok (.ifCond .ne 6, 3) := by decide +kernel
theorem dX5_best_22 : decode cX5_best 22 = .ok (.bipush (-2), 2) := by decide +kernel
theorem dX5_best_24 : decode cX5_best 24 = .ok (.ireturn, 1) := by decide +kernel
theorem dX5_best_25 : decode cX5_best 25 = .ok (.aload_n 0, 1) := by decide +kernel
theorem dX5_best_26 : decode cX5_best 26 = .ok (.iload_n 1, 1) := by decide +kernel
theorem dX5_best_27 : decode cX5_best 27 = .ok (.invokevirtual 236, 3) := by decide +kernel
theorem dX5_best_30 : decode cX5_best 30 = .ok (.aload_n 0, 1) := by decide +kernel
theorem dX5_best_31 : decode cX5_best 31 = .ok (.aload_n 0, 1) := by decide +kernel
theorem dX5_best_32 : decode cX5_best 32 = .ok (.getfield 20, 3) := by decide +kernel
theorem dX5_best_35 : decode cX5_best 35 = .ok (.invokevirtual 164, 3) := by decide +kernel
theorem dX5_best_38 : decode cX5_best 38 = .ok (.lstore_n 3, 1) := by decide +kernel
theorem dX5_best_39 : decode cX5_best 39 = .ok (.bipush 37, 2) := by decide +kernel
theorem dX5_best_41 : decode cX5_best 41 = .ok (.istore 5, 2) := by decide +kernel
theorem dX5_best_43 : decode cX5_best 43 = .ok (.iconst 0, 1) := by decide +kernel
theorem dX5_best_44 : decode cX5_best 44 = .ok (.istore 6, 2) := by decide +kernel
theorem dX5_best_46 : decode cX5_best 46 = .ok (.iconst 0, 1) := by decide +kernel
