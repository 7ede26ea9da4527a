-- decode rows, from the printed names
theorem dX0_init_0 : decode cX0_init 0 = .ok (.aload_n 0, 1) := by decide +kernel
theorem dX0_init_1 : decode cX0_init 1 = .ok (.invokespecial 3, 3) := by decide +kernel
theorem dX0_init_4 : decode cX0_init 4 = .ok (.aload_n 0, 1) := by decide +kernel
theorem dX0_init_5 : decode cX0_init 5 = .ok (.new 9, 3) := by decide +kernel
theorem dX0_init_8 : decode cX0_init 8 = .ok (.dup, 1) := by decide +kernel
theorem dX0_init_9 : decode cX0_init 9 = .ok (.invokespecial 11, 3) := by decide +kernel
theorem dX0_init_12 : decode cX0_init 12 = .ok (.putfield 12, 3) := by decide +kernel
theorem dX0_init_15 : decode cX0_init 15 = .ok (.aload_n 0, 1) := by decide +kernel
theorem dX0_init_16 : decode cX0_init 16 = .ok (.bipush 15, 2) := by decide +kernel
theorem dX0_init_18 : decode cX0_init 18 = .ok (.newarray .int, 2) := by decide +kernel
theorem dX0_init_20 : decode cX0_init 20 = .ok (.putfield 18, 3) := by decide +kernel
theorem dX0_init_23 : decode cX0_init 23 = .ok (.aload_n 0, 1) := by decide +kernel
theorem dX0_init_24 : decode cX0_init 24 = .ok (.iconst 0, 1) := by decide +kernel
theorem dX0_init_25 : decode cX0_init 25 = .ok (.putfield 22, 3) := by decide +kernel
theorem dX0_init_28 : decode cX0_init 28 = .ok (.return_, 1) := by decide +kernel
theorem dX0_passHours_0 : decode cX0_passHours 0 = .ok (.iconst 0, 1) := by decide +kernel
theorem dX0_passHours_1 : decode cX0_passHours 1 = .ok (.istore_n 3, 1) := by decide +kernel
theorem dX0_passHours_2 : decode cX0_passHours 2 = .ok (.iconst 0, 1) := by decide +kernel
theorem dX0_passHours_3 : decode cX0_passHours 3 = .ok (.istore 4, 2) := by decide +kernel
theorem dX0_passHours_5 : decode cX0_passHours 5 = .ok (.iload 4, 2) := by decide +kernel
theorem dX0_passHours_7 : decode cX0_passHours 7 = .ok (.iload_n 2, 1) := by decide +kernel
theorem dX0_passHours_8 : decode cX0_passHours 8 = .ok (.if_icmp .ge 21, 3) := by decide +kernel
theorem dX0_passHours_11 : decode cX0_passHours 11 = .ok (.iload_n 3, 1) := by decide +kernel
theorem dX0_passHours_12 : decode cX0_passHours 12 = .ok (.aload_n 0, 1) := by decide +kernel
theorem dX0_passHours_13 : decode cX0_passHours 13 = .ok (.aload_n 1, 1) := by decide +kernel
theorem dX0_passHours_14 : decode cX0_passHours 14 = .ok (.aload_n 1, 1) := by decide +kernel
theorem dX0_passHours_15 : decode cX0_passHours 15 = .ok (.invokevirtual 26, 3) := by decide +kernel
theorem dX0_passHours_18 : decode cX0_passHours 18 = .ok (.invokevirtual 32, 3) := by decide +kernel
theorem dX0_passHours_21 : decode cX0_passHours 21 = .ok (.iadd, 1) := by decide +kernel
theorem dX0_passHours_22 : decode cX0_passHours 22 = .ok (.istore_n 3, 1) := by decide +kernel
theorem dX0_passHours_23 : decode cX0_passHours 23 = .ok (.iinc 4 1, 3) := by decide +kernel
theorem dX0_passHours_26 : decode cX0_passHours 26 = .ok (.goto (-21), 3) := by decide +kernel
theorem dX0_passHours_29 : decode cX0_passHours 29 = .ok (.iload_n 3, 1) := by decide +kernel
theorem dX0_passHours_30 : decode cX0_passHours 30 = .ok (.ireturn, 1) := by decide +kernel
theorem dX0_passHour_0 : decode cX0_passHour 0 = .ok (.iconst 0, 1) := by decide +kernel
theorem dX0_passHour_1 : decode cX0_passHour 1 = .ok (.istore_n 3, 1) := by decide +kernel
theorem dX0_passHour_2 : decode cX0_passHour 2 = .ok (.iconst 0, 1) := by decide +kernel
theorem dX0_passHour_3 : decode cX0_passHour 3 = .ok (.istore 4, 2) := by decide +kernel
theorem dX0_passHour_5 : decode cX0_passHour 5 = .ok (.iload 4, 2) := by decide +kernel
theorem dX0_passHour_7 : decode cX0_passHour 7 = .ok (.bipush 6, 2) := by decide +kernel
theorem dX0_passHour_9 : decode cX0_passHour 9 = .ok (.if_icmp .ge 32, 3) := by decide +kernel
theorem dX0_passHour_12 : decode cX0_passHour 12 = .ok (.aload_n 1, 1) := by decide +kernel
theorem dX0_passHour_13 : decode cX0_passHour 13 = .ok (.getfield 36, 3) := by decide +kernel
theorem dX0_passHour_16 : decode cX0_passHour 16 = .ok (.iload 4, 2) := by decide +kernel
theorem dX0_passHour_18 : decode cX0_passHour 18 = .ok (.invokevirtual 40, 3) := by decide +kernel
theorem dX0_passHour_21 : decode cX0_passHour 21 = .ok (.ifCond .eq 14, 3) := by decide +kernel
theorem dX0_passHour_24 : decode cX0_passHour 24 = .ok (.iload_n 3, 1) := by decide +kernel
theorem dX0_passHour_25 : decode cX0_passHour 25 = .ok (.aload_n 0, 1) := by decide +kernel
theorem dX0_passHour_26 : decode cX0_passHour 26 = .ok (.aload_n 1, 1) := by decide +kernel
theorem dX0_passHour_27 : decode cX0_passHour 27 = .ok (.iload 4, 2) := by decide +kernel
theorem dX0_passHour_29 : decode cX0_passHour 29 = .ok (.iload_n 2, 1) := by decide +kernel
theorem dX0_passHour_30 : decode cX0_passHour 30 = .ok (.invokevirtual 46, 3) := by decide +kernel
theorem dX0_passHour_33 : decode cX0_passHour 33 = .ok (.iadd, 1) := by decide +kernel
theorem dX0_passHour_34 : decode cX0_passHour 34 = .ok (.istore_n 3, 1) := by decide +kernel
theorem dX0_passHour_35 : decode cX0_passHour 35 = .ok (.iinc 4 1, 3) := by decide +kernel
theorem dX0_passHour_38 : decode cX0_passHour 38 = .ok (.goto (-33), 3) := by decide +kernel
theorem dX0_passHour_41 : decode cX0_passHour 41 = .ok (.aload_n 1, 1) := by decide +kernel
theorem dX0_passHour_42 : decode cX0_passHour 42 = .ok (.invokevirtual 50, 3) := by decide +kernel
theorem dX0_passHour_45 : decode cX0_passHour 45 = .ok (.iload_n 3, 1) := by decide +kernel
theorem dX0_passHour_46 : decode cX0_passHour 46 = .ok (.ireturn, 1) := by decide +kernel
theorem dX0_moveHerd_0 : decode cX0_moveHerd 0 = .ok (.aload_n 1, 1) := by decide +kernel
theorem dX0_moveHerd_1 : decode cX0_moveHerd 1 = .ok (.getfield 36, 3) := by decide +kernel
theorem dX0_moveHerd_4 : decode cX0_moveHerd 4 = .ok (.astore 4, 2) := by decide +kernel
theorem dX0_moveHerd_6 : decode cX0_moveHerd 6 = .ok (.aload_n 0, 1) := by decide +kernel
theorem dX0_moveHerd_7 : decode cX0_moveHerd 7 = .ok (.aload_n 1, 1) := by decide +kernel
theorem dX0_moveHerd_8 : decode cX0_moveHerd 8 = .ok (.iload_n 2, 1) := by decide +kernel
theorem dX0_moveHerd_9 : decode cX0_moveHerd 9 = .ok (.invokevirtual 53, 3) := by decide +kernel
theorem dX0_moveHerd_12 : decode cX0_moveHerd 12 = .ok (.istore 5, 2) := by decide +kernel
theorem dX0_moveHerd_14 : decode cX0_moveHerd 14 = .ok (.aload 4, 2) := by decide +kernel
theorem dX0_moveHerd_16 : decode cX0_moveHerd 16 = .ok (.getfield 56, 3) := by decide +kernel
theorem dX0_moveHerd_19 : decode cX0_moveHerd 19 = .ok (.iload_n 2, 1) := by decide +kernel
theorem dX0_moveHerd_20 : decode cX0_moveHerd 20 = .ok (.iaload, 1) := by decide +kernel
theorem dX0_moveHerd_21 : decode cX0_moveHerd 21 = .ok (.bipush 50, 2) := by decide +kernel
theorem dX0_moveHerd_23 : decode cX0_moveHerd 23 = .ok (.if_icmp .lt 28, 3) := by decide +kernel
theorem dX0_moveHerd_26 : decode cX0_moveHerd 26 = .ok (.iload_n 3, 1) := by decide +kernel
theorem dX0_moveHerd_27 : decode cX0_moveHerd 27 = .ok (.aload_n 0, 1) := by decide +kernel
theorem dX0_moveHerd_28 : decode cX0_moveHerd 28 = .ok (.aload_n 1, 1) := by decide +kernel
theorem dX0_moveHerd_29 : decode cX0_moveHerd 29 = .ok (.iload_n 2, 1) := by decide +kernel
theorem dX0_moveHerd_30 : decode cX0_moveHerd 30 = .ok (.iconst 1, 1) := by decide +kernel
theorem dX0_moveHerd_31 : decode cX0_moveHerd 31 = .ok (.iload_n 3, 1) := by decide +kernel
theorem dX0_moveHerd_32 : decode cX0_moveHerd 32 = .ok (.invokevirtual 59, 3) := by decide +kernel
theorem dX0_moveHerd_35 : decode cX0_moveHerd 35 = .ok (.if_icmp .ge 16, 3) := by decide +kernel
theorem dX0_moveHerd_38 : decode cX0_moveHerd 38 = .ok (.iconst (-1), 1) := by decide +kernel
theorem dX0_moveHerd_39 : decode cX0_moveHerd 39 = .ok (.istore 5, 2) := by decide +kernel
theorem dX0_moveHerd_41 : decode cX0_moveHerd 41 = .ok (.aload_n 0, 1) := by decide +kernel
theorem dX0_moveHerd_42 : decode cX0_moveHerd 42 = .ok (.aload_n 1, 1) := by decide +kernel
theorem dX0_moveHerd_43 : decode cX0_moveHerd 43 = .ok (.iload_n 2, 1) := by decide +kernel
theorem dX0_moveHerd_44 : decode cX0_moveHerd 44 = .ok (.iload_n 3, 1) := by decide +kernel
theorem dX0_moveHerd_45 : decode cX0_moveHerd 45 = .ok (.invokevirtual 63, 3) := by decide +kernel
theorem dX0_moveHerd_48 : decode cX0_moveHerd 48 = .ok (.goto 30, 3) := by decide +kernel
theorem dX0_moveHerd_51 : decode cX0_moveHerd 51 = .ok (.iload 5, 2) := by decide +kernel
theorem dX0_moveHerd_53 : decode cX0_moveHerd 53 = .ok (.iconst (-1), 1) := by decide +kernel
theorem dX0_moveHerd_54 : decode cX0_moveHerd 54 = .ok (.if_icmp .eq 18, 3) := by decide +kernel
theorem dX0_moveHerd_57 : decode cX0_moveHerd 57 = .ok (.aload_n 0, 1) := by decide +kernel
theorem dX0_moveHerd_58 : decode cX0_moveHerd 58 = .ok (.aload_n 1, 1) := by decide +kernel
theorem dX0_moveHerd_59 : decode cX0_moveHerd 59 = .ok (.iload_n 2, 1) := by decide +kernel
theorem dX0_moveHerd_60 : decode cX0_moveHerd 60 = .ok (.aload_n 1, 1) := by decide +kernel
theorem dX0_moveHerd_61 : decode cX0_moveHerd 61 = .ok (.iload 5, 2) := by decide +kernel
theorem dX0_moveHerd_63 : decode cX0_moveHerd 63 = .ok (.invokevirtual 67, 3) := by decide +kernel
theorem dX0_moveHerd_66 : decode cX0_moveHerd 66 = .ok (.invokevirtual 71, 3) := by decide +kernel
theorem dX0_moveHerd_69 : decode cX0_moveHerd 69 = .ok (.goto 9, 3) := by decide +kernel
theorem dX0_moveHerd_72 : decode cX0_moveHerd 72 = .ok (.aload_n 0, 1) := by decide +kernel
theorem dX0_moveHerd_73 : decode cX0_moveHerd 73 = .ok (.aload_n 1, 1) := by decide +kernel
theorem dX0_moveHerd_74 : decode cX0_moveHerd 74 = .ok (.iload_n 2, 1) := by decide +kernel
theorem dX0_moveHerd_75 : decode cX0_moveHerd 75 = .ok (.invokevirtual 74, 3) := by decide +kernel
theorem dX0_moveHerd_78 : decode cX0_moveHerd 78 = .ok (.aload 4, 2) := by decide +kernel
theorem dX0_moveHerd_80 : decode cX0_moveHerd 80 = .ok (.iload_n 2, 1) := by decide +kernel
theorem dX0_moveHerd_81 : decode cX0_moveHerd 81 = .ok (.invokevirtual 40, 3) := by decide +kernel
theorem dX0_moveHerd_84 : decode cX0_moveHerd 84 = .ok (.ifCond .ne 5, 3) := by decide +kernel
theorem dX0_moveHerd_87 : decode cX0_moveHerd 87 = .ok (.iconst 0, 1) := by decide +kernel
theorem dX0_moveHerd_88 : decode cX0_moveHerd 88 = .ok (.ireturn, 1) := by decide +kernel
theorem dX0_moveHerd_89 : decode cX0_moveHerd 89 = .ok (.iconst 0, 1) := by decide +kernel
theorem dX0_moveHerd_90 : decode cX0_moveHerd 90 = .ok (.istore 6, 2) := by decide +kernel
theorem dX0_moveHerd_92 : decode cX0_moveHerd 92 = .ok (.aload_n 1, 1) := by decide +kernel
theorem dX0_moveHerd_93 : decode cX0_moveHerd 93 = .ok (.aload 4, 2) := by decide +kernel
theorem dX0_moveHerd_95 : decode cX0_moveHerd 95 = .ok (.getfield 78, 3) := by decide +kernel
theorem dX0_moveHerd_98 : decode cX0_moveHerd 98 = .ok (.iload_n 2, 1) := by decide +kernel
theorem dX0_moveHerd_99 : decode cX0_moveHerd 99 = .ok (.iaload, 1) := by decide +kernel
theorem dX0_moveHerd_100 : decode cX0_moveHerd 100 = .ok (.invokevirtual 81, 3) := by decide +kernel
theorem dX0_moveHerd_103 : decode cX0_moveHerd 103 = .ok (.istore 7, 2) := by decide +kernel
theorem dX0_moveHerd_105 : decode cX0_moveHerd 105 = .ok (.iload 7, 2) := by decide +kernel
theorem dX0_moveHerd_107 : decode cX0_moveHerd 107 = .ok (.iconst 1, 1) := by decide +kernel
theorem dX0_moveHerd_108 : decode cX0_moveHerd 108 = .ok (.if_icmp .ne 23, 3) := by decide +kernel
theorem dX0_moveHerd_111 : decode cX0_moveHerd 111 = .ok (.iload 6, 2) := by decide +kernel
theorem dX0_moveHerd_113 : decode cX0_moveHerd 113 = .ok (.aload_n 0, 1) := by decide +kernel
theorem dX0_moveHerd_114 : decode cX0_moveHerd 114 = .ok (.aload 4, 2) := by decide +kernel
theorem dX0_moveHerd_116 : decode cX0_moveHerd 116 = .ok (.iload_n 2, 1) := by decide +kernel
theorem dX0_moveHerd_117 : decode cX0_moveHerd 117 = .ok (.aload_n 0, 1) := by decide +kernel
theorem dX0_moveHerd_118 : decode cX0_moveHerd 118 = .ok (.aload_n 1, 1) := by decide +kernel
theorem dX0_moveHerd_119 : decode cX0_moveHerd 119 = .ok (.iload_n 2, 1) := by decide +kernel
theorem dX0_moveHerd_120 : decode cX0_moveHerd 120 = .ok (.iconst 2, 1) := by decide +kernel
theorem dX0_moveHerd_121 : decode cX0_moveHerd 121 = .ok (.iload_n 3, 1) := by decide +kernel
theorem dX0_moveHerd_122 : decode cX0_moveHerd 122 = .ok (.invokevirtual 59, 3) := by decide +kernel
theorem dX0_moveHerd_125 : decode cX0_moveHerd 125 = .ok (.invokevirtual 84, 3) := by decide +kernel
theorem dX0_moveHerd_128 : decode cX0_moveHerd 128 = .ok (.iadd, 1) := by decide +kernel
theorem dX0_moveHerd_129 : decode cX0_moveHerd 129 = .ok (.istore 6, 2) := by decide +kernel
theorem dX0_moveHerd_131 : decode cX0_moveHerd 131 = .ok (.iload 7, 2) := by decide +kernel
theorem dX0_moveHerd_133 : decode cX0_moveHerd 133 = .ok (.iconst 2, 1) := by decide +kernel
theorem dX0_moveHerd_134 : decode cX0_moveHerd 134 = .ok (.if_icmp .ne 7, 3) := by decide +kernel
theorem dX0_moveHerd_137 : decode cX0_moveHerd 137 = .ok (.iconst 0, 1) := by decide +kernel
theorem dX0_moveHerd_138 : decode cX0_moveHerd 138 = .ok (.goto 19, 3) := by decide +kernel
theorem dX0_moveHerd_141 : decode cX0_moveHerd 141 = .ok (.aload 4, 2) := by decide +kernel
theorem dX0_moveHerd_143 : decode cX0_moveHerd 143 = .ok (.getfield 88, 3) := by decide +kernel
theorem dX0_moveHerd_146 : decode cX0_moveHerd 146 = .ok (.iload_n 2, 1) := by decide +kernel
theorem dX0_moveHerd_147 : decode cX0_moveHerd 147 = .ok (.iaload, 1) := by decide +kernel
theorem dX0_moveHerd_148 : decode cX0_moveHerd 148 = .ok (.aload_n 0, 1) := by decide +kernel
theorem dX0_moveHerd_149 : decode cX0_moveHerd 149 = .ok (.aload_n 1, 1) := by decide +kernel
theorem dX0_moveHerd_150 : decode cX0_moveHerd 150 = .ok (.iload_n 2, 1) := by decide +kernel
theorem dX0_moveHerd_151 : decode cX0_moveHerd 151 = .ok (.iconst 3, 1) := by decide +kernel
theorem dX0_moveHerd_152 : decode cX0_moveHerd 152 = .ok (.iload_n 3, 1) := by decide +kernel
theorem dX0_moveHerd_153 : decode cX0_moveHerd 153 = .ok (.invokevirtual 59, 3) := by decide +kernel
theorem dX0_moveHerd_156 : decode cX0_moveHerd 156 = .ok (.iadd, 1) := by decide +kernel
theorem dX0_moveHerd_157 : decode cX0_moveHerd 157 = .ok (.istore 8, 2) := by decide +kernel
theorem dX0_moveHerd_159 : decode cX0_moveHerd 159 = .ok (.aload 4, 2) := by decide +kernel
theorem dX0_moveHerd_161 : decode cX0_moveHerd 161 = .ok (.getfield 88, 3) := by decide +kernel
theorem dX0_moveHerd_164 : decode cX0_moveHerd 164 = .ok (.iload_n 2, 1) := by decide +kernel
theorem dX0_moveHerd_165 : decode cX0_moveHerd 165 = .ok (.iload 8, 2) := by decide +kernel
theorem dX0_moveHerd_167 : decode cX0_moveHerd 167 = .ok (.bipush 99, 2) := by decide +kernel
theorem dX0_moveHerd_169 : decode cX0_moveHerd 169 = .ok (.invokestatic 91, 3) := by decide +kernel
theorem dX0_moveHerd_172 : decode cX0_moveHerd 172 = .ok (.iastore, 1) := by decide +kernel
theorem dX0_moveHerd_173 : decode cX0_moveHerd 173 = .ok (.aload 4, 2) := by decide +kernel
theorem dX0_moveHerd_175 : decode cX0_moveHerd 175 = .ok (.getfield 88, 3) := by decide +kernel
theorem dX0_moveHerd_178 : decode cX0_moveHerd 178 = .ok (.iload_n 2, 1) := by decide +kernel
theorem dX0_moveHerd_179 : decode cX0_moveHerd 179 = .ok (.iaload, 1) := by decide +kernel
theorem dX0_moveHerd_180 : decode cX0_moveHerd 180 = .ok (.bipush 99, 2) := by decide +kernel
theorem dX0_moveHerd_182 : decode cX0_moveHerd 182 = .ok (.if_icmp .ne 23, 3) := by decide +kernel
theorem dX0_moveHerd_185 : decode cX0_moveHerd 185 = .ok (.iload 6, 2) := by decide +kernel
theorem dX0_moveHerd_187 : decode cX0_moveHerd 187 = .ok (.aload_n 0, 1) := by decide +kernel
theorem dX0_moveHerd_188 : decode cX0_moveHerd 188 = .ok (.aload 4, 2) := by decide +kernel
theorem dX0_moveHerd_190 : decode cX0_moveHerd 190 = .ok (.iload_n 2, 1) := by decide +kernel
theorem dX0_moveHerd_191 : decode cX0_moveHerd 191 = .ok (.aload_n 0, 1) := by decide +kernel
theorem dX0_moveHerd_192 : decode cX0_moveHerd 192 = .ok (.aload_n 1, 1) := by decide +kernel
theorem dX0_moveHerd_193 : decode cX0_moveHerd 193 = .ok (.iload_n 2, 1) := by decide +kernel
theorem dX0_moveHerd_194 : decode cX0_moveHerd 194 = .ok (.iconst 4, 1) := by decide +kernel
theorem dX0_moveHerd_195 : decode cX0_moveHerd 195 = .ok (.iload_n 3, 1) := by decide +kernel
theorem dX0_moveHerd_196 : decode cX0_moveHerd 196 = .ok (.invokevirtual 59, 3) := by decide +kernel
theorem dX0_moveHerd_199 : decode cX0_moveHerd 199 = .ok (.invokevirtual 84, 3) := by decide +kernel
theorem dX0_moveHerd_202 : decode cX0_moveHerd 202 = .ok (.iadd, 1) := by decide +kernel
theorem dX0_moveHerd_203 : decode cX0_moveHerd 203 = .ok (.istore 6, 2) := by decide +kernel
theorem dX0_moveHerd_205 : decode cX0_moveHerd 205 = .ok (.aload 4, 2) := by decide +kernel
theorem dX0_moveHerd_207 : decode cX0_moveHerd 207 = .ok (.getfield 56, 3) := by decide +kernel
theorem dX0_moveHerd_210 : decode cX0_moveHerd 210 = .ok (.iload_n 2, 1) := by decide +kernel
theorem dX0_moveHerd_211 : decode cX0_moveHerd 211 = .ok (.iaload, 1) := by decide +kernel
theorem dX0_moveHerd_212 : decode cX0_moveHerd 212 = .ok (.aload_n 0, 1) := by decide +kernel
theorem dX0_moveHerd_213 : decode cX0_moveHerd 213 = .ok (.aload_n 1, 1) := by decide +kernel
theorem dX0_moveHerd_214 : decode cX0_moveHerd 214 = .ok (.iload_n 2, 1) := by decide +kernel
theorem dX0_moveHerd_215 : decode cX0_moveHerd 215 = .ok (.iconst 5, 1) := by decide +kernel
theorem dX0_moveHerd_216 : decode cX0_moveHerd 216 = .ok (.iload_n 3, 1) := by decide +kernel
theorem dX0_moveHerd_217 : decode cX0_moveHerd 217 = .ok (.invokevirtual 59, 3) := by decide +kernel
theorem dX0_moveHerd_220 : decode cX0_moveHerd 220 = .ok (.iadd, 1) := by decide +kernel
theorem dX0_moveHerd_221 : decode cX0_moveHerd 221 = .ok (.istore 9, 2) := by decide +kernel
theorem dX0_moveHerd_223 : decode cX0_moveHerd 223 = .ok (.aload 4, 2) := by decide +kernel
theorem dX0_moveHerd_225 : decode cX0_moveHerd 225 = .ok (.getfield 56, 3) := by decide +kernel
theorem dX0_moveHerd_228 : decode cX0_moveHerd 228 = .ok (.iload_n 2, 1) := by decide +kernel
theorem dX0_moveHerd_229 : decode cX0_moveHerd 229 = .ok (.iconst 0, 1) := by decide +kernel
theorem dX0_moveHerd_230 : decode cX0_moveHerd 230 = .ok (.bipush 99, 2) := by decide +kernel
theorem dX0_moveHerd_232 : decode cX0_moveHerd 232 = .ok (.iload 9, 2) := by decide +kernel
theorem dX0_moveHerd_234 : decode cX0_moveHerd 234 = .ok (.invokestatic 91, 3) := by decide +kernel
theorem dX0_moveHerd_237 : decode cX0_moveHerd 237 = .ok (.invokestatic 97, 3) := by decide +kernel
theorem dX0_moveHerd_240 : decode cX0_moveHerd 240 = .ok (.iastore, 1) := by decide +kernel
theorem dX0_moveHerd_241 : decode cX0_moveHerd 241 = .ok (.aload_n 1, 1) := by decide +kernel
theorem dX0_moveHerd_242 : decode cX0_moveHerd 242 = .ok (.getfield 100, 3) := by decide +kernel
theorem dX0_moveHerd_245 : decode cX0_moveHerd 245 = .ok (.iload 5, 2) := by decide +kernel
theorem dX0_moveHerd_247 : decode cX0_moveHerd 247 = .ok (.ifCond .lt 15, 3) := by decide +kernel
theorem dX0_moveHerd_250 : decode cX0_moveHerd 250 = .ok (.iload 5, 2) := by decide +kernel
theorem dX0_moveHerd_252 : decode cX0_moveHerd 252 = .ok (.bipush 18, 2) := by decide +kernel
theorem dX0_moveHerd_254 : decode cX0_moveHerd 254 = .ok (.if_icmp .ge 8, 3) := by decide +kernel
theorem dX0_moveHerd_257 : decode cX0_moveHerd 257 = .ok (.iload 5, 2) := by decide +kernel
theorem dX0_moveHerd_259 : decode cX0_moveHerd 259 = .ok (.goto 5, 3) := by decide +kernel
theorem dX0_moveHerd_262 : decode cX0_moveHerd 262 = .ok (.bipush 18, 2) := by decide +kernel
theorem dX0_moveHerd_264 : decode cX0_moveHerd 264 = .ok (.dup2, 1) := by decide +kernel
theorem dX0_moveHerd_265 : decode cX0_moveHerd 265 = .ok (.iaload, 1) := by decide +kernel
theorem dX0_moveHerd_266 : decode cX0_moveHerd 266 = .ok (.iload 6, 2) := by decide +kernel
theorem dX0_moveHerd_268 : decode cX0_moveHerd 268 = .ok (.iadd, 1) := by decide +kernel
theorem dX0_moveHerd_269 : decode cX0_moveHerd 269 = .ok (.iastore, 1) := by decide +kernel
theorem dX0_moveHerd_270 : decode cX0_moveHerd 270 = .ok (.iload 6, 2) := by decide +kernel
theorem dX0_moveHerd_272 : decode cX0_moveHerd 272 = .ok (.ireturn, 1) := by decide +kernel
theorem dX0_lose_0 : decode cX0_lose 0 = .ok (.iload_n 3, 1) := by decide +kernel
theorem dX0_lose_1 : decode cX0_lose 1 = .ok (.aload_n 1, 1) := by decide +kernel
theorem dX0_lose_2 : decode cX0_lose 2 = .ok (.getfield 103, 3) := by decide +kernel
theorem dX0_lose_5 : decode cX0_lose 5 = .ok (.iload_n 2, 1) := by decide +kernel
theorem dX0_lose_6 : decode cX0_lose 6 = .ok (.iaload, 1) := by decide +kernel
theorem dX0_lose_7 : decode cX0_lose 7 = .ok (.invokestatic 91, 3) := by decide +kernel
theorem dX0_lose_10 : decode cX0_lose 10 = .ok (.istore 4, 2) := by decide +kernel
theorem dX0_lose_12 : decode cX0_lose 12 = .ok (.aload_n 1, 1) := by decide +kernel
theorem dX0_lose_13 : decode cX0_lose 13 = .ok (.getfield 103, 3) := by decide +kernel
theorem dX0_lose_16 : decode cX0_lose 16 = .ok (.iload_n 2, 1) := by decide +kernel
theorem dX0_lose_17 : decode cX0_lose 17 = .ok (.dup2, 1) := by decide +kernel
theorem dX0_lose_18 : decode cX0_lose 18 = .ok (.iaload, 1) := by decide +kernel
theorem dX0_lose_19 : decode cX0_lose 19 = .ok (.iload 4, 2) := by decide +kernel
theorem dX0_lose_21 : decode cX0_lose 21 = .ok (.isub, 1) := by decide +kernel
theorem dX0_lose_22 : decode cX0_lose 22 = .ok (.iastore, 1) := by decide +kernel
theorem dX0_lose_23 : decode cX0_lose 23 = .ok (.iload 4, 2) := by decide +kernel
theorem dX0_lose_25 : decode cX0_lose 25 = .ok (.ireturn, 1) := by decide +kernel
theorem dX0_stampede_0 : decode cX0_stampede 0 = .ok (.iload_n 3, 1) := by decide +kernel
theorem dX0_stampede_1 : decode cX0_stampede 1 = .ok (.iconst 3, 1) := by decide +kernel
theorem dX0_stampede_2 : decode cX0_stampede 2 = .ok (.iand, 1) := by decide +kernel
theorem dX0_stampede_3 : decode cX0_stampede 3 = .ok (.istore 4, 2) := by decide +kernel
theorem dX0_stampede_5 : decode cX0_stampede 5 = .ok (.iconst 0, 1) := by decide +kernel
theorem dX0_stampede_6 : decode cX0_stampede 6 = .ok (.istore 5, 2) := by decide +kernel
theorem dX0_stampede_8 : decode cX0_stampede 8 = .ok (.iload 5, 2) := by decide +kernel
theorem dX0_stampede_10 : decode cX0_stampede 10 = .ok (.iconst 2, 1) := by decide +kernel
theorem dX0_stampede_11 : decode cX0_stampede 11 = .ok (.if_icmp .ge 28, 3) := by decide +kernel
theorem dX0_stampede_14 : decode cX0_stampede 14 = .ok (.aload_n 0, 1) := by decide +kernel
theorem dX0_stampede_15 : decode cX0_stampede 15 = .ok (.aload_n 1, 1) := by decide +kernel
theorem dX0_stampede_16 : decode cX0_stampede 16 = .ok (.iload_n 2, 1) := by decide +kernel
theorem dX0_stampede_17 : decode cX0_stampede 17 = .ok (.getstatic 106, 3) := by decide +kernel
theorem dX0_stampede_20 : decode cX0_stampede 20 = .ok (.iload 4, 2) := by decide +kernel
theorem dX0_stampede_22 : decode cX0_stampede 22 = .ok (.iaload, 1) := by decide +kernel
theorem dX0_stampede_23 : decode cX0_stampede 23 = .ok (.getstatic 109, 3) := by decide +kernel
theorem dX0_stampede_26 : decode cX0_stampede 26 = .ok (.iload 4, 2) := by decide +kernel
theorem dX0_stampede_28 : decode cX0_stampede 28 = .ok (.iaload, 1) := by decide +kernel
theorem dX0_stampede_29 : decode cX0_stampede 29 = .ok (.invokevirtual 112, 3) := by decide +kernel
theorem dX0_stampede_32 : decode cX0_stampede 32 = .ok (.pop, 1) := by decide +kernel
theorem dX0_stampede_33 : decode cX0_stampede 33 = .ok (.iinc 5 1, 3) := by decide +kernel
theorem dX0_stampede_36 : decode cX0_stampede 36 = .ok (.goto (-28), 3) := by decide +kernel
theorem dX0_stampede_39 : decode cX0_stampede 39 = .ok (.return_, 1) := by decide +kernel
theorem dX0_follow_0 : decode cX0_follow 0 = .ok (.aload_n 1, 1) := by decide +kernel
theorem dX0_follow_1 : decode cX0_follow 1 = .ok (.getfield 36, 3) := by decide +kernel
theorem dX0_follow_4 : decode cX0_follow 4 = .ok (.getfield 78, 3) := by decide +kernel
theorem dX0_follow_7 : decode cX0_follow 7 = .ok (.iload_n 2, 1) := by decide +kernel
theorem dX0_follow_8 : decode cX0_follow 8 = .ok (.iaload, 1) := by decide +kernel
theorem dX0_follow_9 : decode cX0_follow 9 = .ok (.istore 4, 2) := by decide +kernel
theorem dX0_follow_11 : decode cX0_follow 11 = .ok (.iload_n 3, 1) := by decide +kernel
theorem dX0_follow_12 : decode cX0_follow 12 = .ok (.bipush 14, 2) := by decide +kernel
theorem dX0_follow_14 : decode cX0_follow 14 = .ok (.irem, 1) := by decide +kernel
theorem dX0_follow_15 : decode cX0_follow 15 = .ok (.iload 4, 2) := by decide +kernel
theorem dX0_follow_17 : decode cX0_follow 17 = .ok (.bipush 14, 2) := by decide +kernel
theorem dX0_follow_19 : decode cX0_follow 19 = .ok (.irem, 1) := by decide +kernel
theorem dX0_follow_20 : decode cX0_follow 20 = .ok (.isub, 1) := by decide +kernel
theorem dX0_follow_21 : decode cX0_follow 21 = .ok (.istore 5, 2) := by decide +kernel
theorem dX0_follow_23 : decode cX0_follow 23 = .ok (.iload_n 3, 1) := by decide +kernel
theorem dX0_follow_24 : decode cX0_follow 24 = .ok (.bipush 14, 2) := by decide +kernel
theorem dX0_follow_26 : decode cX0_follow 26 = .ok (.idiv, 1) := by decide +kernel
theorem dX0_follow_27 : decode cX0_follow 27 = .ok (.iload 4, 2) := by decide +kernel
theorem dX0_follow_29 : decode cX0_follow 29 = .ok (.bipush 14, 2) := by decide +kernel
theorem dX0_follow_31 : decode cX0_follow 31 = .ok (.idiv, 1) := by decide +kernel
theorem dX0_follow_32 : decode cX0_follow 32 = .ok (.isub, 1) := by decide +kernel
theorem dX0_follow_33 : decode cX0_follow 33 = .ok (.istore 6, 2) := by decide +kernel
theorem dX0_follow_35 : decode cX0_follow 35 = .ok (.iload 5, 2) := by decide +kernel
theorem dX0_follow_37 : decode cX0_follow 37 = .ok (.iconst 0, 1) := by decide +kernel
theorem dX0_follow_38 : decode cX0_follow 38 = .ok (.invokestatic 116, 3) := by decide +kernel
theorem dX0_follow_41 : decode cX0_follow 41 = .ok (.istore 7, 2) := by decide +kernel
theorem dX0_follow_43 : decode cX0_follow 43 = .ok (.iload 6, 2) := by decide +kernel
theorem dX0_follow_45 : decode cX0_follow 45 = .ok (.iconst 0, 1) := by decide +kernel
theorem dX0_follow_46 : decode cX0_follow 46 = .ok (.invokestatic 116, 3) := by decide +kernel
theorem dX0_follow_49 : decode cX0_follow 49 = .ok (.istore 8, 2) := by decide +kernel
theorem dX0_follow_51 : decode cX0_follow 51 = .ok (.iload 5, 2) := by decide +kernel
theorem dX0_follow_53 : decode cX0_follow 53 = .ok (.ifCond .ne 9, 3) := by decide +kernel
theorem dX0_follow_56 : decode cX0_follow 56 = .ok (.iload 6, 2) := by decide +kernel
theorem dX0_follow_58 : decode cX0_follow 58 = .ok (.ifCond .ne 4, 3) := by decide +kernel
theorem dX0_follow_61 : decode cX0_follow 61 = .ok (.return_, 1) := by decide +kernel
theorem dX0_follow_62 : decode cX0_follow 62 = .ok (.iload 5, 2) := by decide +kernel
theorem dX0_follow_64 : decode cX0_follow 64 = .ok (.invokestatic 121, 3) := by decide +kernel
theorem dX0_follow_67 : decode cX0_follow 67 = .ok (.iload 6, 2) := by decide +kernel
theorem dX0_follow_69 : decode cX0_follow 69 = .ok (.invokestatic 121, 3) := by decide +kernel
theorem dX0_follow_72 : decode cX0_follow 72 = .ok (.if_icmp .lt 33, 3) := by decide +kernel
theorem dX0_follow_75 : decode cX0_follow 75 = .ok (.aload_n 0, 1) := by decide +kernel
theorem dX0_follow_76 : decode cX0_follow 76 = .ok (.aload_n 1, 1) := by decide +kernel
theorem dX0_follow_77 : decode cX0_follow 77 = .ok (.iload_n 2, 1) := by decide +kernel
theorem dX0_follow_78 : decode cX0_follow 78 = .ok (.iload 7, 2) := by decide +kernel
theorem dX0_follow_80 : decode cX0_follow 80 = .ok (.iconst 0, 1) := by decide +kernel
theorem dX0_follow_81 : decode cX0_follow 81 = .ok (.invokevirtual 112, 3) := by decide +kernel
theorem dX0_follow_84 : decode cX0_follow 84 = .ok (.ifCond .ne 48, 3) := by decide +kernel
theorem dX0_follow_87 : decode cX0_follow 87 = .ok (.iload 6, 2) := by decide +kernel
theorem dX0_follow_89 : decode cX0_follow 89 = .ok (.ifCond .eq 43, 3) := by decide +kernel
theorem dX0_follow_92 : decode cX0_follow 92 = .ok (.aload_n 0, 1) := by decide +kernel
theorem dX0_follow_93 : decode cX0_follow 93 = .ok (.aload_n 1, 1) := by decide +kernel
theorem dX0_follow_94 : decode cX0_follow 94 = .ok (.iload_n 2, 1) := by decide +kernel
theorem dX0_follow_95 : decode cX0_follow 95 = .ok (.iconst 0, 1) := by decide +kernel
theorem dX0_follow_96 : decode cX0_follow 96 = .ok (.iload 8, 2) := by decide +kernel
theorem dX0_follow_98 : decode cX0_follow 98 = .ok (.invokevirtual 112, 3) := by decide +kernel
theorem dX0_follow_101 : decode cX0_follow 101 = .ok (.pop, 1) := by decide +kernel
theorem dX0_follow_102 : decode cX0_follow 102 = .ok (.goto 30, 3) := by decide +kernel
theorem dX0_follow_105 : decode cX0_follow 105 = .ok (.aload_n 0, 1) := by decide +kernel
theorem dX0_follow_106 : decode cX0_follow 106 = .ok (.aload_n 1, 1) := by decide +kernel
theorem dX0_follow_107 : decode cX0_follow 107 = .ok (.iload_n 2, 1) := by decide +kernel
theorem dX0_follow_108 : decode cX0_follow 108 = .ok (.iconst 0, 1) := by decide +kernel
theorem dX0_follow_109 : decode cX0_follow 109 = .ok (.iload 8, 2) := by decide +kernel
theorem dX0_follow_111 : decode cX0_follow 111 = .ok (.invokevirtual 112, 3) := by decide +kernel
theorem dX0_follow_114 : decode cX0_follow 114 = .ok (.ifCond .ne 18, 3) := by decide +kernel
theorem dX0_follow_117 : decode cX0_follow 117 = .ok (.iload 5, 2) := by decide +kernel
theorem dX0_follow_119 : decode cX0_follow 119 = .ok (.ifCond .eq 13, 3) := by decide +kernel
theorem dX0_follow_122 : decode cX0_follow 122 = .ok (.aload_n 0, 1) := by decide +kernel
theorem dX0_follow_123 : decode cX0_follow 123 = .ok (.aload_n 1, 1) := by decide +kernel
theorem dX0_follow_124 : decode cX0_follow 124 = .ok (.iload_n 2, 1) := by decide +kernel
theorem dX0_follow_125 : decode cX0_follow 125 = .ok (.iload 7, 2) := by decide +kernel
theorem dX0_follow_127 : decode cX0_follow 127 = .ok (.iconst 0, 1) := by decide +kernel
theorem dX0_follow_128 : decode cX0_follow 128 = .ok (.invokevirtual 112, 3) := by decide +kernel
theorem dX0_follow_131 : decode cX0_follow 131 = .ok (.pop, 1) := by decide +kernel
theorem dX0_follow_132 : decode cX0_follow 132 = .ok (.return_, 1) := by decide +kernel
theorem dX0_goOn_0 : decode cX0_goOn 0 = .ok (.aload_n 1, 1) := by decide +kernel
theorem dX0_goOn_1 : decode cX0_goOn 1 = .ok (.getfield 36, 3) := by decide +kernel
theorem dX0_goOn_4 : decode cX0_goOn 4 = .ok (.getfield 78, 3) := by decide +kernel
theorem dX0_goOn_7 : decode cX0_goOn 7 = .ok (.iload_n 2, 1) := by decide +kernel
theorem dX0_goOn_8 : decode cX0_goOn 8 = .ok (.iaload, 1) := by decide +kernel
theorem dX0_goOn_9 : decode cX0_goOn 9 = .ok (.bipush 14, 2) := by decide +kernel
theorem dX0_goOn_11 : decode cX0_goOn 11 = .ok (.idiv, 1) := by decide +kernel
theorem dX0_goOn_12 : decode cX0_goOn 12 = .ok (.bipush 13, 2) := by decide +kernel
theorem dX0_goOn_14 : decode cX0_goOn 14 = .ok (.if_icmp .ne 18, 3) := by decide +kernel
theorem dX0_goOn_17 : decode cX0_goOn 17 = .ok (.aload_n 1, 1) := by decide +kernel
theorem dX0_goOn_18 : decode cX0_goOn 18 = .ok (.getfield 36, 3) := by decide +kernel
theorem dX0_goOn_21 : decode cX0_goOn 21 = .ok (.getfield 78, 3) := by decide +kernel
theorem dX0_goOn_24 : decode cX0_goOn 24 = .ok (.iload_n 2, 1) := by decide +kernel
theorem dX0_goOn_25 : decode cX0_goOn 25 = .ok (.sipush 196, 3) := by decide +kernel
theorem dX0_goOn_28 : decode cX0_goOn 28 = .ok (.iastore, 1) := by decide +kernel
theorem dX0_goOn_29 : decode cX0_goOn 29 = .ok (.goto 12, 3) := by decide +kernel
theorem dX0_goOn_32 : decode cX0_goOn 32 = .ok (.aload_n 0, 1) := by decide +kernel
theorem dX0_goOn_33 : decode cX0_goOn 33 = .ok (.aload_n 1, 1) := by decide +kernel
theorem dX0_goOn_34 : decode cX0_goOn 34 = .ok (.iload_n 2, 1) := by decide +kernel
theorem dX0_goOn_35 : decode cX0_goOn 35 = .ok (.iconst 0, 1) := by decide +kernel
theorem dX0_goOn_36 : decode cX0_goOn 36 = .ok (.iconst 1, 1) := by decide +kernel
theorem dX0_goOn_37 : decode cX0_goOn 37 = .ok (.invokevirtual 112, 3) := by decide +kernel
theorem dX0_goOn_40 : decode cX0_goOn 40 = .ok (.pop, 1) := by decide +kernel
theorem dX0_goOn_41 : decode cX0_goOn 41 = .ok (.return_, 1) := by decide +kernel
theorem dX0_step_0 : decode cX0_step 0 = .ok (.aload_n 1, 1) := by decide +kernel
theorem dX0_step_1 : decode cX0_step 1 = .ok (.getfield 36, 3) := by decide +kernel
theorem dX0_step_4 : decode cX0_step 4 = .ok (.getfield 78, 3) := by decide +kernel
theorem dX0_step_7 : decode cX0_step 7 = .ok (.iload_n 2, 1) := by decide +kernel
theorem dX0_step_8 : decode cX0_step 8 = .ok (.iaload, 1) := by decide +kernel
theorem dX0_step_9 : decode cX0_step 9 = .ok (.bipush 14, 2) := by decide +kernel
theorem dX0_step_11 : decode cX0_step 11 = .ok (.irem, 1) := by decide +kernel
theorem dX0_step_12 : decode cX0_step 12 = .ok (.iload_n 3, 1) := by decide +kernel
theorem dX0_step_13 : decode cX0_step 13 = .ok (.iadd, 1) := by decide +kernel
theorem dX0_step_14 : decode cX0_step 14 = .ok (.istore 5, 2) := by decide +kernel
theorem dX0_step_16 : decode cX0_step 16 = .ok (.aload_n 1, 1) := by decide +kernel
theorem dX0_step_17 : decode cX0_step 17 = .ok (.getfield 36, 3) := by decide +kernel
theorem dX0_step_20 : decode cX0_step 20 = .ok (.getfield 78, 3) := by decide +kernel
theorem dX0_step_23 : decode cX0_step 23 = .ok (.iload_n 2, 1) := by decide +kernel
theorem dX0_step_24 : decode cX0_step 24 = .ok (.iaload, 1) := by decide +kernel
theorem dX0_step_25 : decode cX0_step 25 = .ok (.bipush 14, 2) := by decide +kernel
theorem dX0_step_27 : decode cX0_step 27 = .ok (.idiv, 1) := by decide +kernel
theorem dX0_step_28 : decode cX0_step 28 = .ok (.iload 4, 2) := by decide +kernel
theorem dX0_step_30 : decode cX0_step 30 = .ok (.iadd, 1) := by decide +kernel
theorem dX0_step_31 : decode cX0_step 31 = .ok (.istore 6, 2) := by decide +kernel
theorem dX0_step_33 : decode cX0_step 33 = .ok (.iload 5, 2) := by decide +kernel
theorem dX0_step_35 : decode cX0_step 35 = .ok (.iload 6, 2) := by decide +kernel
theorem dX0_step_37 : decode cX0_step 37 = .ok (.invokestatic 124, 3) := by decide +kernel
theorem dX0_step_40 : decode cX0_step 40 = .ok (.ifCond .eq 19, 3) := by decide +kernel
theorem dX0_step_43 : decode cX0_step 43 = .ok (.aload_n 1, 1) := by decide +kernel
theorem dX0_step_44 : decode cX0_step 44 = .ok (.bipush 14, 2) := by decide +kernel
theorem dX0_step_46 : decode cX0_step 46 = .ok (.iload 6, 2) := by decide +kernel
theorem dX0_step_48 : decode cX0_step 48 = .ok (.imul, 1) := by decide +kernel
theorem dX0_step_49 : decode cX0_step 49 = .ok (.iload 5, 2) := by decide +kernel
theorem dX0_step_51 : decode cX0_step 51 = .ok (.iadd, 1) := by decide +kernel
theorem dX0_step_52 : decode cX0_step 52 = .ok (.invokevirtual 81, 3) := by decide +kernel
theorem dX0_step_55 : decode cX0_step 55 = .ok (.iconst 3, 1) := by decide +kernel
theorem dX0_step_56 : decode cX0_step 56 = .ok (.if_icmp .ne 5, 3) := by decide +kernel
theorem dX0_step_59 : decode cX0_step 59 = .ok (.iconst 0, 1) := by decide +kernel
theorem dX0_step_60 : decode cX0_step 60 = .ok (.ireturn, 1) := by decide +kernel
theorem dX0_step_61 : decode cX0_step 61 = .ok (.aload_n 1, 1) := by decide +kernel
theorem dX0_step_62 : decode cX0_step 62 = .ok (.getfield 36, 3) := by decide +kernel
theorem dX0_step_65 : decode cX0_step 65 = .ok (.getfield 78, 3) := by decide +kernel
theorem dX0_step_68 : decode cX0_step 68 = .ok (.iload_n 2, 1) := by decide +kernel
theorem dX0_step_69 : decode cX0_step 69 = .ok (.bipush 14, 2) := by decide +kernel
theorem dX0_step_71 : decode cX0_step 71 = .ok (.iload 6, 2) := by decide +kernel
theorem dX0_step_73 : decode cX0_step 73 = .ok (.imul, 1) := by decide +kernel
theorem dX0_step_74 : decode cX0_step 74 = .ok (.iload 5, 2) := by decide +kernel
theorem dX0_step_76 : decode cX0_step 76 = .ok (.iadd, 1) := by decide +kernel
theorem dX0_step_77 : decode cX0_step 77 = .ok (.iastore, 1) := by decide +kernel
theorem dX0_step_78 : decode cX0_step 78 = .ok (.iconst 1, 1) := by decide +kernel
theorem dX0_step_79 : decode cX0_step 79 = .ok (.ireturn, 1) := by decide +kernel
theorem dX0_goalOf_0 : decode cX0_goalOf 0 = .ok (.aload_n 1, 1) := by decide +kernel
theorem dX0_goalOf_1 : decode cX0_goalOf 1 = .ok (.invokevirtual 128, 3) := by decide +kernel
theorem dX0_goalOf_4 : decode cX0_goalOf 4 = .ok (.ifCond .eq 7, 3) := by decide +kernel
theorem dX0_goalOf_7 : decode cX0_goalOf 7 = .ok (.iconst 3, 1) := by decide +kernel
theorem dX0_goalOf_8 : decode cX0_goalOf 8 = .ok (.goto 5, 3) := by decide +kernel
theorem dX0_goalOf_11 : decode cX0_goalOf 11 = .ok (.bipush 6, 2) := by decide +kernel
theorem dX0_goalOf_13 : decode cX0_goalOf 13 = .ok (.istore_n 3, 1) := by decide +kernel
theorem dX0_goalOf_14 : decode cX0_goalOf 14 = .ok (.iconst (-1), 1) := by decide +kernel
theorem dX0_goalOf_15 : decode cX0_goalOf 15 = .ok (.istore 4, 2) := by decide +kernel
theorem dX0_goalOf_17 : decode cX0_goalOf 17 = .ok (.iconst 0, 1) := by decide +kernel
theorem dX0_goalOf_18 : decode cX0_goalOf 18 = .ok (.istore 5, 2) := by decide +kernel
theorem dX0_goalOf_20 : decode cX0_goalOf 20 = .ok (.aload_n 0, 1) := by decide +kernel
theorem dX0_goalOf_21 : decode cX0_goalOf 21 = .ok (.aload_n 1, 1) := by decide +kernel
theorem dX0_goalOf_22 : decode cX0_goalOf 22 = .ok (.iload_n 2, 1) := by decide +kernel
theorem dX0_goalOf_23 : decode cX0_goalOf 23 = .ok (.iconst 0, 1) := by decide +kernel
theorem dX0_goalOf_24 : decode cX0_goalOf 24 = .ok (.invokevirtual 132, 3) := by decide +kernel
theorem dX0_goalOf_27 : decode cX0_goalOf 27 = .ok (.iconst 0, 1) := by decide +kernel
theorem dX0_goalOf_28 : decode cX0_goalOf 28 = .ok (.istore 6, 2) := by decide +kernel
theorem dX0_goalOf_30 : decode cX0_goalOf 30 = .ok (.iload 6, 2) := by decide +kernel
theorem dX0_goalOf_32 : decode cX0_goalOf 32 = .ok (.bipush 18, 2) := by decide +kernel
theorem dX0_goalOf_34 : decode cX0_goalOf 34 = .ok (.if_icmp .ge 107, 3) := by decide +kernel
theorem dX0_goalOf_37 : decode cX0_goalOf 37 = .ok (.iload 6, 2) := by decide +kernel
theorem dX0_goalOf_39 : decode cX0_goalOf 39 = .ok (.bipush 12, 2) := by decide +kernel
theorem dX0_goalOf_41 : decode cX0_goalOf 41 = .ok (.iload_n 2, 1) := by decide +kernel
theorem dX0_goalOf_42 : decode cX0_goalOf 42 = .ok (.iadd, 1) := by decide +kernel
theorem dX0_goalOf_43 : decode cX0_goalOf 43 = .ok (.if_icmp .eq 92, 3) := by decide +kernel
theorem dX0_goalOf_46 : decode cX0_goalOf 46 = .ok (.aload_n 1, 1) := by decide +kernel
theorem dX0_goalOf_47 : decode cX0_goalOf 47 = .ok (.iload 6, 2) := by decide +kernel
theorem dX0_goalOf_49 : decode cX0_goalOf 49 = .ok (.invokevirtual 135, 3) := by decide +kernel
theorem dX0_goalOf_52 : decode cX0_goalOf 52 = .ok (.ifCond .ne 6, 3) := by decide +kernel
theorem dX0_goalOf_55 : decode cX0_goalOf 55 = .ok (.goto 80, 3) := by decide +kernel
theorem dX0_goalOf_58 : decode cX0_goalOf 58 = .ok (.aload_n 0, 1) := by decide +kernel
theorem dX0_goalOf_59 : decode cX0_goalOf 59 = .ok (.aload_n 1, 1) := by decide +kernel
theorem dX0_goalOf_60 : decode cX0_goalOf 60 = .ok (.iload_n 2, 1) := by decide +kernel
theorem dX0_goalOf_61 : decode cX0_goalOf 61 = .ok (.iload 6, 2) := by decide +kernel
theorem dX0_goalOf_63 : decode cX0_goalOf 63 = .ok (.invokevirtual 138, 3) := by decide +kernel
theorem dX0_goalOf_66 : decode cX0_goalOf 66 = .ok (.aload_n 0, 1) := by decide +kernel
theorem dX0_goalOf_67 : decode cX0_goalOf 67 = .ok (.getfield 18, 3) := by decide +kernel
theorem dX0_goalOf_70 : decode cX0_goalOf 70 = .ok (.bipush 13, 2) := by decide +kernel
theorem dX0_goalOf_72 : decode cX0_goalOf 72 = .ok (.iaload, 1) := by decide +kernel
theorem dX0_goalOf_73 : decode cX0_goalOf 73 = .ok (.iload_n 3, 1) := by decide +kernel
theorem dX0_goalOf_74 : decode cX0_goalOf 74 = .ok (.if_icmp .le 6, 3) := by decide +kernel
theorem dX0_goalOf_77 : decode cX0_goalOf 77 = .ok (.goto 58, 3) := by decide +kernel
theorem dX0_goalOf_80 : decode cX0_goalOf 80 = .ok (.aload_n 0, 1) := by decide +kernel
theorem dX0_goalOf_81 : decode cX0_goalOf 81 = .ok (.dup, 1) := by decide +kernel
theorem dX0_goalOf_82 : decode cX0_goalOf 82 = .ok (.getfield 22, 3) := by decide +kernel
theorem dX0_goalOf_85 : decode cX0_goalOf 85 = .ok (.iconst 1, 1) := by decide +kernel
theorem dX0_goalOf_86 : decode cX0_goalOf 86 = .ok (.iload 6, 2) := by decide +kernel
theorem dX0_goalOf_88 : decode cX0_goalOf 88 = .ok (.ishl, 1) := by decide +kernel
theorem dX0_goalOf_89 : decode cX0_goalOf 89 = .ok (.ior, 1) := by decide +kernel
theorem dX0_goalOf_90 : decode cX0_goalOf 90 = .ok (.putfield 22, 3) := by decide +kernel
theorem dX0_goalOf_93 : decode cX0_goalOf 93 = .ok (.aload_n 1, 1) := by decide +kernel
theorem dX0_goalOf_94 : decode cX0_goalOf 94 = .ok (.iload 6, 2) := by decide +kernel
theorem dX0_goalOf_96 : decode cX0_goalOf 96 = .ok (.invokevirtual 141, 3) := by decide +kernel
theorem dX0_goalOf_99 : decode cX0_goalOf 99 = .ok (.ifCond .eq 18, 3) := by decide +kernel
theorem dX0_goalOf_102 : decode cX0_goalOf 102 = .ok (.aload_n 0, 1) := by decide +kernel
theorem dX0_goalOf_103 : decode cX0_goalOf 103 = .ok (.getfield 12, 3) := by decide +kernel
theorem dX0_goalOf_106 : decode cX0_goalOf 106 = .ok (.iconst 0, 1) := by decide +kernel
theorem dX0_goalOf_107 : decode cX0_goalOf 107 = .ok (.aload_n 0, 1) := by decide +kernel
theorem dX0_goalOf_108 : decode cX0_goalOf 108 = .ok (.getfield 18, 3) := by decide +kernel
theorem dX0_goalOf_111 : decode cX0_goalOf 111 = .ok (.invokevirtual 144, 3) := by decide +kernel
theorem dX0_goalOf_114 : decode cX0_goalOf 114 = .ok (.goto 4, 3) := by decide +kernel
theorem dX0_goalOf_117 : decode cX0_goalOf 117 = .ok (.iconst 0, 1) := by decide +kernel
theorem dX0_goalOf_118 : decode cX0_goalOf 118 = .ok (.istore 7, 2) := by decide +kernel
theorem dX0_goalOf_120 : decode cX0_goalOf 120 = .ok (.iload 7, 2) := by decide +kernel
theorem dX0_goalOf_122 : decode cX0_goalOf 122 = .ok (.iload 5, 2) := by decide +kernel
theorem dX0_goalOf_124 : decode cX0_goalOf 124 = .ok (.if_icmp .le 11, 3) := by decide +kernel
theorem dX0_goalOf_127 : decode cX0_goalOf 127 = .ok (.iload 7, 2) := by decide +kernel
theorem dX0_goalOf_129 : decode cX0_goalOf 129 = .ok (.istore 5, 2) := by decide +kernel
theorem dX0_goalOf_131 : decode cX0_goalOf 131 = .ok (.iload 6, 2) := by decide +kernel
theorem dX0_goalOf_133 : decode cX0_goalOf 133 = .ok (.istore 4, 2) := by decide +kernel
theorem dX0_goalOf_135 : decode cX0_goalOf 135 = .ok (.iinc 6 1, 3) := by decide +kernel
theorem dX0_goalOf_138 : decode cX0_goalOf 138 = .ok (.goto (-108), 3) := by decide +kernel
theorem dX0_goalOf_141 : decode cX0_goalOf 141 = .ok (.iload 4, 2) := by decide +kernel
theorem dX0_goalOf_143 : decode cX0_goalOf 143 = .ok (.ireturn, 1) := by decide +kernel
theorem dX0_pullOf_0 : decode cX0_pullOf 0 = .ok (.aload_n 0, 1) := by decide +kernel
theorem dX0_pullOf_1 : decode cX0_pullOf 1 = .ok (.aload_n 1, 1) := by decide +kernel
theorem dX0_pullOf_2 : decode cX0_pullOf 2 = .ok (.iload_n 2, 1) := by decide +kernel
theorem dX0_pullOf_3 : decode cX0_pullOf 3 = .ok (.iconst 0, 1) := by decide +kernel
theorem dX0_pullOf_4 : decode cX0_pullOf 4 = .ok (.invokevirtual 132, 3) := by decide +kernel
theorem dX0_pullOf_7 : decode cX0_pullOf 7 = .ok (.aload_n 0, 1) := by decide +kernel
theorem dX0_pullOf_8 : decode cX0_pullOf 8 = .ok (.aload_n 1, 1) := by decide +kernel
theorem dX0_pullOf_9 : decode cX0_pullOf 9 = .ok (.iload_n 2, 1) := by decide +kernel
theorem dX0_pullOf_10 : decode cX0_pullOf 10 = .ok (.iload_n 3, 1) := by decide +kernel
theorem dX0_pullOf_11 : decode cX0_pullOf 11 = .ok (.invokevirtual 138, 3) := by decide +kernel
theorem dX0_pullOf_14 : decode cX0_pullOf 14 = .ok (.aload_n 0, 1) := by decide +kernel
theorem dX0_pullOf_15 : decode cX0_pullOf 15 = .ok (.getfield 12, 3) := by decide +kernel
theorem dX0_pullOf_18 : decode cX0_pullOf 18 = .ok (.iconst 0, 1) := by decide +kernel
theorem dX0_pullOf_19 : decode cX0_pullOf 19 = .ok (.aload_n 0, 1) := by decide +kernel
theorem dX0_pullOf_20 : decode cX0_pullOf 20 = .ok (.getfield 18, 3) := by decide +kernel
theorem dX0_pullOf_23 : decode cX0_pullOf 23 = .ok (.invokevirtual 144, 3) := by decide +kernel
theorem dX0_pullOf_26 : decode cX0_pullOf 26 = .ok (.ireturn, 1) := by decide +kernel
theorem dX0_askOf_0 : decode cX0_askOf 0 = .ok (.aload_n 0, 1) := by decide +kernel
theorem dX0_askOf_1 : decode cX0_askOf 1 = .ok (.aload_n 1, 1) := by decide +kernel
theorem dX0_askOf_2 : decode cX0_askOf 2 = .ok (.iload_n 2, 1) := by decide +kernel
theorem dX0_askOf_3 : decode cX0_askOf 3 = .ok (.iload 4, 2) := by decide +kernel
theorem dX0_askOf_5 : decode cX0_askOf 5 = .ok (.invokevirtual 132, 3) := by decide +kernel
theorem dX0_askOf_8 : decode cX0_askOf 8 = .ok (.aload_n 0, 1) := by decide +kernel
theorem dX0_askOf_9 : decode cX0_askOf 9 = .ok (.getfield 12, 3) := by decide +kernel
theorem dX0_askOf_12 : decode cX0_askOf 12 = .ok (.iload_n 3, 1) := by decide +kernel
theorem dX0_askOf_13 : decode cX0_askOf 13 = .ok (.aload_n 0, 1) := by decide +kernel
theorem dX0_askOf_14 : decode cX0_askOf 14 = .ok (.getfield 18, 3) := by decide +kernel
theorem dX0_askOf_17 : decode cX0_askOf 17 = .ok (.invokevirtual 144, 3) := by decide +kernel
theorem dX0_askOf_20 : decode cX0_askOf 20 = .ok (.ireturn, 1) := by decide +kernel
theorem dX0_beer_0 : decode cX0_beer 0 = .ok (.aload_n 0, 1) := by decide +kernel
theorem dX0_beer_1 : decode cX0_beer 1 = .ok (.aload_n 1, 1) := by decide +kernel
theorem dX0_beer_2 : decode cX0_beer 2 = .ok (.aload_n 1, 1) := by decide +kernel
theorem dX0_beer_3 : decode cX0_beer 3 = .ok (.getfield 148, 3) := by decide +kernel
theorem dX0_beer_6 : decode cX0_beer 6 = .ok (.invokevirtual 151, 3) := by decide +kernel
theorem dX0_beer_9 : decode cX0_beer 9 = .ok (.aload_n 0, 1) := by decide +kernel
theorem dX0_beer_10 : decode cX0_beer 10 = .ok (.getfield 18, 3) := by decide +kernel
theorem dX0_beer_13 : decode cX0_beer 13 = .ok (.bipush 11, 2) := by decide +kernel
theorem dX0_beer_15 : decode cX0_beer 15 = .ok (.iload_n 2, 1) := by decide +kernel
theorem dX0_beer_16 : decode cX0_beer 16 = .ok (.iastore, 1) := by decide +kernel
theorem dX0_beer_17 : decode cX0_beer 17 = .ok (.aload_n 0, 1) := by decide +kernel
theorem dX0_beer_18 : decode cX0_beer 18 = .ok (.getfield 18, 3) := by decide +kernel
theorem dX0_beer_21 : decode cX0_beer 21 = .ok (.bipush 12, 2) := by decide +kernel
theorem dX0_beer_23 : decode cX0_beer 23 = .ok (.aload_n 1, 1) := by decide +kernel
theorem dX0_beer_24 : decode cX0_beer 24 = .ok (.iload_n 2, 1) := by decide +kernel
theorem dX0_beer_25 : decode cX0_beer 25 = .ok (.invokevirtual 154, 3) := by decide +kernel
theorem dX0_beer_28 : decode cX0_beer 28 = .ok (.iastore, 1) := by decide +kernel
theorem dX0_beer_29 : decode cX0_beer 29 = .ok (.aload_n 0, 1) := by decide +kernel
theorem dX0_beer_30 : decode cX0_beer 30 = .ok (.getfield 18, 3) := by decide +kernel
theorem dX0_beer_33 : decode cX0_beer 33 = .ok (.bipush 14, 2) := by decide +kernel
theorem dX0_beer_35 : decode cX0_beer 35 = .ok (.aload_n 1, 1) := by decide +kernel
theorem dX0_beer_36 : decode cX0_beer 36 = .ok (.getfield 157, 3) := by decide +kernel
theorem dX0_beer_39 : decode cX0_beer 39 = .ok (.iload_n 2, 1) := by decide +kernel
theorem dX0_beer_40 : decode cX0_beer 40 = .ok (.iconst 2, 1) := by decide +kernel
theorem dX0_beer_41 : decode cX0_beer 41 = .ok (.invokevirtual 161, 3) := by decide +kernel
theorem dX0_beer_44 : decode cX0_beer 44 = .ok (.iconst 0, 1) := by decide +kernel
theorem dX0_beer_45 : decode cX0_beer 45 = .ok (.invokestatic 97, 3) := by decide +kernel
theorem dX0_beer_48 : decode cX0_beer 48 = .ok (.iastore, 1) := by decide +kernel
theorem dX0_beer_49 : decode cX0_beer 49 = .ok (.aload_n 0, 1) := by decide +kernel
theorem dX0_beer_50 : decode cX0_beer 50 = .ok (.getfield 12, 3) := by decide +kernel
theorem dX0_beer_53 : decode cX0_beer 53 = .ok (.bipush 6, 2) := by decide +kernel
theorem dX0_beer_55 : decode cX0_beer 55 = .ok (.aload_n 0, 1) := by decide +kernel
theorem dX0_beer_56 : decode cX0_beer 56 = .ok (.getfield 18, 3) := by decide +kernel
theorem dX0_beer_59 : decode cX0_beer 59 = .ok (.invokevirtual 144, 3) := by decide +kernel
theorem dX0_beer_62 : decode cX0_beer 62 = .ok (.ireturn, 1) := by decide +kernel
theorem dX0_cloudTenths_0 : decode cX0_cloudTenths 0 = .ok (.aload_n 0, 1) := by decide +kernel
theorem dX0_cloudTenths_1 : decode cX0_cloudTenths 1 = .ok (.aload_n 1, 1) := by decide +kernel
theorem dX0_cloudTenths_2 : decode cX0_cloudTenths 2 = .ok (.iload_n 2, 1) := by decide +kernel
theorem dX0_cloudTenths_3 : decode cX0_cloudTenths 3 = .ok (.invokevirtual 151, 3) := by decide +kernel
theorem dX0_cloudTenths_6 : decode cX0_cloudTenths 6 = .ok (.aload_n 0, 1) := by decide +kernel
theorem dX0_cloudTenths_7 : decode cX0_cloudTenths 7 = .ok (.getfield 12, 3) := by decide +kernel
theorem dX0_cloudTenths_10 : decode cX0_cloudTenths 10 = .ok (.bipush 7, 2) := by decide +kernel
theorem dX0_cloudTenths_12 : decode cX0_cloudTenths 12 = .ok (.aload_n 0, 1) := by decide +kernel
theorem dX0_cloudTenths_13 : decode cX0_cloudTenths 13 = .ok (.getfield 18, 3) := by decide +kernel
theorem dX0_cloudTenths_16 : decode cX0_cloudTenths 16 = .ok (.invokevirtual 144, 3) := by decide +kernel
theorem dX0_cloudTenths_19 : decode cX0_cloudTenths 19 = .ok (.ireturn, 1) := by decide +kernel
theorem dX0_tellTime_0 : decode cX0_tellTime 0 = .ok (.aload_n 0, 1) := by decide +kernel
theorem dX0_tellTime_1 : decode cX0_tellTime 1 = .ok (.getfield 18, 3) := by decide +kernel
theorem dX0_tellTime_4 : decode cX0_tellTime 4 = .ok (.iconst 0, 1) := by decide +kernel
theorem dX0_tellTime_5 : decode cX0_tellTime 5 = .ok (.invokestatic 166, 3) := by decide +kernel
theorem dX0_tellTime_8 : decode cX0_tellTime 8 = .ok (.aload_n 0, 1) := by decide +kernel
theorem dX0_tellTime_9 : decode cX0_tellTime 9 = .ok (.getfield 18, 3) := by decide +kernel
theorem dX0_tellTime_12 : decode cX0_tellTime 12 = .ok (.iconst 0, 1) := by decide +kernel
theorem dX0_tellTime_13 : decode cX0_tellTime 13 = .ok (.iload_n 2, 1) := by decide +kernel
theorem dX0_tellTime_14 : decode cX0_tellTime 14 = .ok (.iastore, 1) := by decide +kernel
theorem dX0_tellTime_15 : decode cX0_tellTime 15 = .ok (.aload_n 0, 1) := by decide +kernel
theorem dX0_tellTime_16 : decode cX0_tellTime 16 = .ok (.getfield 18, 3) := by decide +kernel
theorem dX0_tellTime_19 : decode cX0_tellTime 19 = .ok (.iconst 1, 1) := by decide +kernel
theorem dX0_tellTime_20 : decode cX0_tellTime 20 = .ok (.aload_n 1, 1) := by decide +kernel
theorem dX0_tellTime_21 : decode cX0_tellTime 21 = .ok (.getfield 172, 3) := by decide +kernel
theorem dX0_tellTime_24 : decode cX0_tellTime 24 = .ok (.iastore, 1) := by decide +kernel
theorem dX0_tellTime_25 : decode cX0_tellTime 25 = .ok (.return_, 1) := by decide +kernel
theorem dX0_tellHerd_0 : decode cX0_tellHerd 0 = .ok (.aload_n 1, 1) := by decide +kernel
theorem dX0_tellHerd_1 : decode cX0_tellHerd 1 = .ok (.getfield 36, 3) := by decide +kernel
theorem dX0_tellHerd_4 : decode cX0_tellHerd 4 = .ok (.astore 4, 2) := by decide +kernel
theorem dX0_tellHerd_6 : decode cX0_tellHerd 6 = .ok (.aload 4, 2) := by decide +kernel
theorem dX0_tellHerd_8 : decode cX0_tellHerd 8 = .ok (.getfield 78, 3) := by decide +kernel
theorem dX0_tellHerd_11 : decode cX0_tellHerd 11 = .ok (.iload_n 2, 1) := by decide +kernel
theorem dX0_tellHerd_12 : decode cX0_tellHerd 12 = .ok (.iaload, 1) := by decide +kernel
theorem dX0_tellHerd_13 : decode cX0_tellHerd 13 = .ok (.istore 5, 2) := by decide +kernel
theorem dX0_tellHerd_15 : decode cX0_tellHerd 15 = .ok (.aload_n 0, 1) := by decide +kernel
theorem dX0_tellHerd_16 : decode cX0_tellHerd 16 = .ok (.aload_n 1, 1) := by decide +kernel
theorem dX0_tellHerd_17 : decode cX0_tellHerd 17 = .ok (.aload_n 1, 1) := by decide +kernel
theorem dX0_tellHerd_18 : decode cX0_tellHerd 18 = .ok (.getfield 148, 3) := by decide +kernel
theorem dX0_tellHerd_21 : decode cX0_tellHerd 21 = .ok (.invokevirtual 151, 3) := by decide +kernel
theorem dX0_tellHerd_24 : decode cX0_tellHerd 24 = .ok (.aload_n 0, 1) := by decide +kernel
theorem dX0_tellHerd_25 : decode cX0_tellHerd 25 = .ok (.getfield 18, 3) := by decide +kernel
theorem dX0_tellHerd_28 : decode cX0_tellHerd 28 = .ok (.iconst 2, 1) := by decide +kernel
theorem dX0_tellHerd_29 : decode cX0_tellHerd 29 = .ok (.iload_n 2, 1) := by decide +kernel
theorem dX0_tellHerd_30 : decode cX0_tellHerd 30 = .ok (.iastore, 1) := by decide +kernel
theorem dX0_tellHerd_31 : decode cX0_tellHerd 31 = .ok (.aload_n 0, 1) := by decide +kernel
theorem dX0_tellHerd_32 : decode cX0_tellHerd 32 = .ok (.getfield 18, 3) := by decide +kernel
theorem dX0_tellHerd_35 : decode cX0_tellHerd 35 = .ok (.iconst 3, 1) := by decide +kernel
theorem dX0_tellHerd_36 : decode cX0_tellHerd 36 = .ok (.aload 4, 2) := by decide +kernel
theorem dX0_tellHerd_38 : decode cX0_tellHerd 38 = .ok (.getfield 103, 3) := by decide +kernel
theorem dX0_tellHerd_41 : decode cX0_tellHerd 41 = .ok (.iload_n 2, 1) := by decide +kernel
theorem dX0_tellHerd_42 : decode cX0_tellHerd 42 = .ok (.iaload, 1) := by decide +kernel
theorem dX0_tellHerd_43 : decode cX0_tellHerd 43 = .ok (.iastore, 1) := by decide +kernel
theorem dX0_tellHerd_44 : decode cX0_tellHerd 44 = .ok (.aload_n 0, 1) := by decide +kernel
theorem dX0_tellHerd_45 : decode cX0_tellHerd 45 = .ok (.getfield 18, 3) := by decide +kernel
theorem dX0_tellHerd_48 : decode cX0_tellHerd 48 = .ok (.iconst 4, 1) := by decide +kernel
theorem dX0_tellHerd_49 : decode cX0_tellHerd 49 = .ok (.aload 4, 2) := by decide +kernel
theorem dX0_tellHerd_51 : decode cX0_tellHerd 51 = .ok (.getfield 88, 3) := by decide +kernel
theorem dX0_tellHerd_54 : decode cX0_tellHerd 54 = .ok (.iload_n 2, 1) := by decide +kernel
theorem dX0_tellHerd_55 : decode cX0_tellHerd 55 = .ok (.iaload, 1) := by decide +kernel
theorem dX0_tellHerd_56 : decode cX0_tellHerd 56 = .ok (.iastore, 1) := by decide +kernel
theorem dX0_tellHerd_57 : decode cX0_tellHerd 57 = .ok (.aload_n 0, 1) := by decide +kernel
theorem dX0_tellHerd_58 : decode cX0_tellHerd 58 = .ok (.getfield 18, 3) := by decide +kernel
theorem dX0_tellHerd_61 : decode cX0_tellHerd 61 = .ok (.iconst 5, 1) := by decide +kernel
theorem dX0_tellHerd_62 : decode cX0_tellHerd 62 = .ok (.aload 4, 2) := by decide +kernel
theorem dX0_tellHerd_64 : decode cX0_tellHerd 64 = .ok (.getfield 56, 3) := by decide +kernel
theorem dX0_tellHerd_67 : decode cX0_tellHerd 67 = .ok (.iload_n 2, 1) := by decide +kernel
theorem dX0_tellHerd_68 : decode cX0_tellHerd 68 = .ok (.iaload, 1) := by decide +kernel
theorem dX0_tellHerd_69 : decode cX0_tellHerd 69 = .ok (.iastore, 1) := by decide +kernel
theorem dX0_tellHerd_70 : decode cX0_tellHerd 70 = .ok (.aload_n 0, 1) := by decide +kernel
theorem dX0_tellHerd_71 : decode cX0_tellHerd 71 = .ok (.getfield 18, 3) := by decide +kernel
theorem dX0_tellHerd_74 : decode cX0_tellHerd 74 = .ok (.bipush 6, 2) := by decide +kernel
theorem dX0_tellHerd_76 : decode cX0_tellHerd 76 = .ok (.iload 5, 2) := by decide +kernel
theorem dX0_tellHerd_78 : decode cX0_tellHerd 78 = .ok (.bipush 14, 2) := by decide +kernel
theorem dX0_tellHerd_80 : decode cX0_tellHerd 80 = .ok (.irem, 1) := by decide +kernel
theorem dX0_tellHerd_81 : decode cX0_tellHerd 81 = .ok (.iastore, 1) := by decide +kernel
theorem dX0_tellHerd_82 : decode cX0_tellHerd 82 = .ok (.aload_n 0, 1) := by decide +kernel
theorem dX0_tellHerd_83 : decode cX0_tellHerd 83 = .ok (.getfield 18, 3) := by decide +kernel
theorem dX0_tellHerd_86 : decode cX0_tellHerd 86 = .ok (.bipush 7, 2) := by decide +kernel
theorem dX0_tellHerd_88 : decode cX0_tellHerd 88 = .ok (.iload 5, 2) := by decide +kernel
theorem dX0_tellHerd_90 : decode cX0_tellHerd 90 = .ok (.bipush 14, 2) := by decide +kernel
theorem dX0_tellHerd_92 : decode cX0_tellHerd 92 = .ok (.idiv, 1) := by decide +kernel
theorem dX0_tellHerd_93 : decode cX0_tellHerd 93 = .ok (.iastore, 1) := by decide +kernel
theorem dX0_tellHerd_94 : decode cX0_tellHerd 94 = .ok (.aload_n 0, 1) := by decide +kernel
theorem dX0_tellHerd_95 : decode cX0_tellHerd 95 = .ok (.getfield 18, 3) := by decide +kernel
theorem dX0_tellHerd_98 : decode cX0_tellHerd 98 = .ok (.bipush 8, 2) := by decide +kernel
theorem dX0_tellHerd_100 : decode cX0_tellHerd 100 = .ok (.aload_n 1, 1) := by decide +kernel
theorem dX0_tellHerd_101 : decode cX0_tellHerd 101 = .ok (.iload 5, 2) := by decide +kernel
theorem dX0_tellHerd_103 : decode cX0_tellHerd 103 = .ok (.invokevirtual 81, 3) := by decide +kernel
theorem dX0_tellHerd_106 : decode cX0_tellHerd 106 = .ok (.iastore, 1) := by decide +kernel
theorem dX0_tellHerd_107 : decode cX0_tellHerd 107 = .ok (.aload_n 0, 1) := by decide +kernel
theorem dX0_tellHerd_108 : decode cX0_tellHerd 108 = .ok (.getfield 18, 3) := by decide +kernel
theorem dX0_tellHerd_111 : decode cX0_tellHerd 111 = .ok (.bipush 9, 2) := by decide +kernel
theorem dX0_tellHerd_113 : decode cX0_tellHerd 113 = .ok (.aload_n 1, 1) := by decide +kernel
theorem dX0_tellHerd_114 : decode cX0_tellHerd 114 = .ok (.invokevirtual 128, 3) := by decide +kernel
theorem dX0_tellHerd_117 : decode cX0_tellHerd 117 = .ok (.ifCond .eq 7, 3) := by decide +kernel
theorem dX0_tellHerd_120 : decode cX0_tellHerd 120 = .ok (.iconst 1, 1) := by decide +kernel
theorem dX0_tellHerd_121 : decode cX0_tellHerd 121 = .ok (.goto 4, 3) := by decide +kernel
theorem dX0_tellHerd_124 : decode cX0_tellHerd 124 = .ok (.iconst 0, 1) := by decide +kernel
theorem dX0_tellHerd_125 : decode cX0_tellHerd 125 = .ok (.iastore, 1) := by decide +kernel
theorem dX0_tellHerd_126 : decode cX0_tellHerd 126 = .ok (.aload_n 0, 1) := by decide +kernel
theorem dX0_tellHerd_127 : decode cX0_tellHerd 127 = .ok (.getfield 18, 3) := by decide +kernel
theorem dX0_tellHerd_130 : decode cX0_tellHerd 130 = .ok (.bipush 10, 2) := by decide +kernel
theorem dX0_tellHerd_132 : decode cX0_tellHerd 132 = .ok (.iload_n 3, 1) := by decide +kernel
theorem dX0_tellHerd_133 : decode cX0_tellHerd 133 = .ok (.iastore, 1) := by decide +kernel
theorem dX0_tellHerd_134 : decode cX0_tellHerd 134 = .ok (.return_, 1) := by decide +kernel
theorem dX0_tellLamp_0 : decode cX0_tellLamp 0 = .ok (.aload_n 1, 1) := by decide +kernel
theorem dX0_tellLamp_1 : decode cX0_tellLamp 1 = .ok (.getfield 36, 3) := by decide +kernel
theorem dX0_tellLamp_4 : decode cX0_tellLamp 4 = .ok (.getfield 78, 3) := by decide +kernel
theorem dX0_tellLamp_7 : decode cX0_tellLamp 7 = .ok (.iload_n 2, 1) := by decide +kernel
theorem dX0_tellLamp_8 : decode cX0_tellLamp 8 = .ok (.iaload, 1) := by decide +kernel
theorem dX0_tellLamp_9 : decode cX0_tellLamp 9 = .ok (.istore 4, 2) := by decide +kernel
theorem dX0_tellLamp_11 : decode cX0_tellLamp 11 = .ok (.aload_n 1, 1) := by decide +kernel
theorem dX0_tellLamp_12 : decode cX0_tellLamp 12 = .ok (.iload_n 3, 1) := by decide +kernel
theorem dX0_tellLamp_13 : decode cX0_tellLamp 13 = .ok (.invokevirtual 67, 3) := by decide +kernel
theorem dX0_tellLamp_16 : decode cX0_tellLamp 16 = .ok (.istore 5, 2) := by decide +kernel
theorem dX0_tellLamp_18 : decode cX0_tellLamp 18 = .ok (.aload_n 0, 1) := by decide +kernel
theorem dX0_tellLamp_19 : decode cX0_tellLamp 19 = .ok (.getfield 18, 3) := by decide +kernel
theorem dX0_tellLamp_22 : decode cX0_tellLamp 22 = .ok (.bipush 11, 2) := by decide +kernel
theorem dX0_tellLamp_24 : decode cX0_tellLamp 24 = .ok (.iload_n 3, 1) := by decide +kernel
theorem dX0_tellLamp_25 : decode cX0_tellLamp 25 = .ok (.iastore, 1) := by decide +kernel
theorem dX0_tellLamp_26 : decode cX0_tellLamp 26 = .ok (.aload_n 0, 1) := by decide +kernel
theorem dX0_tellLamp_27 : decode cX0_tellLamp 27 = .ok (.getfield 18, 3) := by decide +kernel
theorem dX0_tellLamp_30 : decode cX0_tellLamp 30 = .ok (.bipush 12, 2) := by decide +kernel
theorem dX0_tellLamp_32 : decode cX0_tellLamp 32 = .ok (.aload_n 1, 1) := by decide +kernel
theorem dX0_tellLamp_33 : decode cX0_tellLamp 33 = .ok (.iload_n 3, 1) := by decide +kernel
theorem dX0_tellLamp_34 : decode cX0_tellLamp 34 = .ok (.invokevirtual 154, 3) := by decide +kernel
theorem dX0_tellLamp_37 : decode cX0_tellLamp 37 = .ok (.iastore, 1) := by decide +kernel
theorem dX0_tellLamp_38 : decode cX0_tellLamp 38 = .ok (.aload_n 0, 1) := by decide +kernel
theorem dX0_tellLamp_39 : decode cX0_tellLamp 39 = .ok (.getfield 18, 3) := by decide +kernel
theorem dX0_tellLamp_42 : decode cX0_tellLamp 42 = .ok (.bipush 13, 2) := by decide +kernel
theorem dX0_tellLamp_44 : decode cX0_tellLamp 44 = .ok (.iload 5, 2) := by decide +kernel
theorem dX0_tellLamp_46 : decode cX0_tellLamp 46 = .ok (.bipush 14, 2) := by decide +kernel
theorem dX0_tellLamp_48 : decode cX0_tellLamp 48 = .ok (.irem, 1) := by decide +kernel
theorem dX0_tellLamp_49 : decode cX0_tellLamp 49 = .ok (.iload 4, 2) := by decide +kernel
theorem dX0_tellLamp_51 : decode cX0_tellLamp 51 = .ok (.bipush 14, 2) := by decide +kernel
theorem dX0_tellLamp_53 : decode cX0_tellLamp 53 = .ok (.irem, 1) := by decide +kernel
theorem dX0_tellLamp_54 : decode cX0_tellLamp 54 = .ok (.isub, 1) := by decide +kernel
theorem dX0_tellLamp_55 : decode cX0_tellLamp 55 = .ok (.invokestatic 121, 3) := by decide +kernel
theorem dX0_tellLamp_58 : decode cX0_tellLamp 58 = .ok (.iload 5, 2) := by decide +kernel
theorem dX0_tellLamp_60 : decode cX0_tellLamp 60 = .ok (.bipush 14, 2) := by decide +kernel
theorem dX0_tellLamp_62 : decode cX0_tellLamp 62 = .ok (.idiv, 1) := by decide +kernel
theorem dX0_tellLamp_63 : decode cX0_tellLamp 63 = .ok (.iload 4, 2) := by decide +kernel
theorem dX0_tellLamp_65 : decode cX0_tellLamp 65 = .ok (.bipush 14, 2) := by decide +kernel
theorem dX0_tellLamp_67 : decode cX0_tellLamp 67 = .ok (.idiv, 1) := by decide +kernel
theorem dX0_tellLamp_68 : decode cX0_tellLamp 68 = .ok (.isub, 1) := by decide +kernel
theorem dX0_tellLamp_69 : decode cX0_tellLamp 69 = .ok (.invokestatic 121, 3) := by decide +kernel
theorem dX0_tellLamp_72 : decode cX0_tellLamp 72 = .ok (.iadd, 1) := by decide +kernel
theorem dX0_tellLamp_73 : decode cX0_tellLamp 73 = .ok (.iastore, 1) := by decide +kernel
theorem dX0_tellLamp_74 : decode cX0_tellLamp 74 = .ok (.return_, 1) := by decide +kernel
theorem dX1_init_0 : decode cX1_init 0 = .ok (.aload_n 0, 1) := by decide +kernel
theorem dX1_init_1 : decode cX1_init 1 = .ok (.invokespecial 3, 3) := by decide +kernel
theorem dX1_init_4 : decode cX1_init 4 = .ok (.aload_n 0, 1) := by decide +kernel
theorem dX1_init_5 : decode cX1_init 5 = .ok (.bipush 6, 2) := by decide +kernel
theorem dX1_init_7 : decode cX1_init 7 = .ok (.newarray .boolean, 2) := by decide +kernel
theorem dX1_init_9 : decode cX1_init 9 = .ok (.putfield 9, 3) := by decide +kernel
theorem dX1_init_12 : decode cX1_init 12 = .ok (.aload_n 0, 1) := by decide +kernel
theorem dX1_init_13 : decode cX1_init 13 = .ok (.bipush 6, 2) := by decide +kernel
theorem dX1_init_15 : decode cX1_init 15 = .ok (.newarray .int, 2) := by decide +kernel
theorem dX1_init_17 : decode cX1_init 17 = .ok (.putfield 15, 3) := by decide +kernel
theorem dX1_init_20 : decode cX1_init 20 = .ok (.aload_n 0, 1) := by decide +kernel
theorem dX1_init_21 : decode cX1_init 21 = .ok (.bipush 6, 2) := by decide +kernel
theorem dX1_init_23 : decode cX1_init 23 = .ok (.newarray .int, 2) := by decide +kernel
theorem dX1_init_25 : decode cX1_init 25 = .ok (.putfield 19, 3) := by decide +kernel
theorem dX1_init_28 : decode cX1_init 28 = .ok (.aload_n 0, 1) := by decide +kernel
theorem dX1_init_29 : decode cX1_init 29 = .ok (.bipush 6, 2) := by decide +kernel
theorem dX1_init_31 : decode cX1_init 31 = .ok (.newarray .int, 2) := by decide +kernel
theorem dX1_init_33 : decode cX1_init 33 = .ok (.putfield 22, 3) := by decide +kernel
theorem dX1_init_36 : decode cX1_init 36 = .ok (.aload_n 0, 1) := by decide +kernel
theorem dX1_init_37 : decode cX1_init 37 = .ok (.bipush 6, 2) := by decide +kernel
theorem dX1_init_39 : decode cX1_init 39 = .ok (.newarray .int, 2) := by decide +kernel
theorem dX1_init_41 : decode cX1_init 41 = .ok (.putfield 25, 3) := by decide +kernel
theorem dX1_init_44 : decode cX1_init 44 = .ok (.aload_n 0, 1) := by decide +kernel
theorem dX1_init_45 : decode cX1_init 45 = .ok (.bipush 6, 2) := by decide +kernel
theorem dX1_init_47 : decode cX1_init 47 = .ok (.newarray .boolean, 2) := by decide +kernel
theorem dX1_init_49 : decode cX1_init 49 = .ok (.putfield 28, 3) := by decide +kernel
theorem dX1_init_52 : decode cX1_init 52 = .ok (.return_, 1) := by decide +kernel
theorem dX1_become_0 : decode cX1_become 0 = .ok (.aload_n 1, 1) := by decide +kernel
theorem dX1_become_1 : decode cX1_become 1 = .ok (.getfield 9, 3) := by decide +kernel
theorem dX1_become_4 : decode cX1_become 4 = .ok (.iconst 0, 1) := by decide +kernel
theorem dX1_become_5 : decode cX1_become 5 = .ok (.aload_n 0, 1) := by decide +kernel
theorem dX1_become_6 : decode cX1_become 6 = .ok (.getfield 9, 3) := by decide +kernel
theorem dX1_become_9 : decode cX1_become 9 = .ok (.iconst 0, 1) := by decide +kernel
theorem dX1_become_10 : decode cX1_become 10 = .ok (.bipush 6, 2) := by decide +kernel
theorem dX1_become_12 : decode cX1_become 12 = .ok (.invokestatic 31, 3) := by decide +kernel
theorem dX1_become_15 : decode cX1_become 15 = .ok (.aload_n 1, 1) := by decide +kernel
theorem dX1_become_16 : decode cX1_become 16 = .ok (.getfield 15, 3) := by decide +kernel
theorem dX1_become_19 : decode cX1_become 19 = .ok (.iconst 0, 1) := by decide +kernel
theorem dX1_become_20 : decode cX1_become 20 = .ok (.aload_n 0, 1) := by decide +kernel
theorem dX1_become_21 : decode cX1_become 21 = .ok (.getfield 15, 3) := by decide +kernel
theorem dX1_become_24 : decode cX1_become 24 = .ok (.iconst 0, 1) := by decide +kernel
theorem dX1_become_25 : decode cX1_become 25 = .ok (.bipush 6, 2) := by decide +kernel
theorem dX1_become_27 : decode cX1_become 27 = .ok (.invokestatic 31, 3) := by decide +kernel
theorem dX1_become_30 : decode cX1_become 30 = .ok (.aload_n 1, 1) := by decide +kernel
theorem dX1_become_31 : decode cX1_become 31 = .ok (.getfield 19, 3) := by decide +kernel
theorem dX1_become_34 : decode cX1_become 34 = .ok (.iconst 0, 1) := by decide +kernel
theorem dX1_become_35 : decode cX1_become 35 = .ok (.aload_n 0, 1) := by decide +kernel
theorem dX1_become_36 : decode cX1_become 36 = .ok (.getfield 19, 3) := by decide +kernel
theorem dX1_become_39 : decode cX1_become 39 = .ok (.iconst 0, 1) := by decide +kernel
theorem dX1_become_40 : decode cX1_become 40 = .ok (.bipush 6, 2) := by decide +kernel
theorem dX1_become_42 : decode cX1_become 42 = .ok (.invokestatic 31, 3) := by decide +kernel
theorem dX1_become_45 : decode cX1_become 45 = .ok (.aload_n 1, 1) := by decide +kernel
theorem dX1_become_46 : decode cX1_become 46 = .ok (.getfield 22, 3) := by decide +kernel
theorem dX1_become_49 : decode cX1_become 49 = .ok (.iconst 0, 1) := by decide +kernel
theorem dX1_become_50 : decode cX1_become 50 = .ok (.aload_n 0, 1) := by decide +kernel
theorem dX1_become_51 : decode cX1_become 51 = .ok (.getfield 22, 3) := by decide +kernel
theorem dX1_become_54 : decode cX1_become 54 = .ok (.iconst 0, 1) := by decide +kernel
theorem dX1_become_55 : decode cX1_become 55 = .ok (.bipush 6, 2) := by decide +kernel
theorem dX1_become_57 : decode cX1_become 57 = .ok (.invokestatic 31, 3) := by decide +kernel
theorem dX1_become_60 : decode cX1_become 60 = .ok (.aload_n 1, 1) := by decide +kernel
theorem dX1_become_61 : decode cX1_become 61 = .ok (.getfield 25, 3) := by decide +kernel
theorem dX1_become_64 : decode cX1_become 64 = .ok (.iconst 0, 1) := by decide +kernel
theorem dX1_become_65 : decode cX1_become 65 = .ok (.aload_n 0, 1) := by decide +kernel
theorem dX1_become_66 : decode cX1_become 66 = .ok (.getfield 25, 3) := by decide +kernel
theorem dX1_become_69 : decode cX1_become 69 = .ok (.iconst 0, 1) := by decide +kernel
theorem dX1_become_70 : decode cX1_become 70 = .ok (.bipush 6, 2) := by decide +kernel
theorem dX1_become_72 : decode cX1_become 72 = .ok (.invokestatic 31, 3) := by decide +kernel
theorem dX1_become_75 : decode cX1_become 75 = .ok (.aload_n 1, 1) := by decide +kernel
theorem dX1_become_76 : decode cX1_become 76 = .ok (.getfield 28, 3) := by decide +kernel
theorem dX1_become_79 : decode cX1_become 79 = .ok (.iconst 0, 1) := by decide +kernel
theorem dX1_become_80 : decode cX1_become 80 = .ok (.aload_n 0, 1) := by decide +kernel
theorem dX1_become_81 : decode cX1_become 81 = .ok (.getfield 28, 3) := by decide +kernel
theorem dX1_become_84 : decode cX1_become 84 = .ok (.iconst 0, 1) := by decide +kernel
theorem dX1_become_85 : decode cX1_become 85 = .ok (.bipush 6, 2) := by decide +kernel
theorem dX1_become_87 : decode cX1_become 87 = .ok (.invokestatic 31, 3) := by decide +kernel
theorem dX1_become_90 : decode cX1_become 90 = .ok (.return_, 1) := by decide +kernel
theorem dX1_isTold_0 : decode cX1_isTold 0 = .ok (.iload_n 1, 1) := by decide +kernel
theorem dX1_isTold_1 : decode cX1_isTold 1 = .ok (.ifCond .lt 22, 3) := by decide +kernel
theorem dX1_isTold_4 : decode cX1_isTold 4 = .ok (.iload_n 1, 1) := by decide +kernel
theorem dX1_isTold_5 : decode cX1_isTold 5 = .ok (.bipush 6, 2) := by decide +kernel
theorem dX1_isTold_7 : decode cX1_isTold 7 = .ok (.if_icmp .ge 16, 3) := by decide +kernel
theorem dX1_isTold_10 : decode cX1_isTold 10 = .ok (.aload_n 0, 1) := by decide +kernel
theorem dX1_isTold_11 : decode cX1_isTold 11 = .ok (.getfield 9, 3) := by decide +kernel
theorem dX1_isTold_14 : decode cX1_isTold 14 = .ok (.iload_n 1, 1) := by decide +kernel
theorem dX1_isTold_15 : decode cX1_isTold 15 = .ok (.baload, 1) := by decide +kernel
theorem dX1_isTold_16 : decode cX1_isTold 16 = .ok (.ifCond .eq 7, 3) := by decide +kernel
theorem dX1_isTold_19 : decode cX1_isTold 19 = .ok (.iconst 1, 1) := by decide +kernel
theorem dX1_isTold_20 : decode cX1_isTold 20 = .ok (.goto 4, 3) := by decide +kernel
theorem dX1_isTold_23 : decode cX1_isTold 23 = .ok (.iconst 0, 1) := by decide +kernel
theorem dX1_isTold_24 : decode cX1_isTold 24 = .ok (.ireturn, 1) := by decide +kernel
theorem dX1_isOn_0 : decode cX1_isOn 0 = .ok (.iload_n 1, 1) := by decide +kernel
theorem dX1_isOn_1 : decode cX1_isOn 1 = .ok (.ifCond .lt 43, 3) := by decide +kernel
theorem dX1_isOn_4 : decode cX1_isOn 4 = .ok (.iload_n 1, 1) := by decide +kernel
theorem dX1_isOn_5 : decode cX1_isOn 5 = .ok (.bipush 6, 2) := by decide +kernel
theorem dX1_isOn_7 : decode cX1_isOn 7 = .ok (.if_icmp .ge 37, 3) := by decide +kernel
theorem dX1_isOn_10 : decode cX1_isOn 10 = .ok (.aload_n 0, 1) := by decide +kernel
theorem dX1_isOn_11 : decode cX1_isOn 11 = .ok (.getfield 9, 3) := by decide +kernel
theorem dX1_isOn_14 : decode cX1_isOn 14 = .ok (.iload_n 1, 1) := by decide +kernel
theorem dX1_isOn_15 : decode cX1_isOn 15 = .ok (.baload, 1) := by decide +kernel
theorem dX1_isOn_16 : decode cX1_isOn 16 = .ok (.ifCond .eq 28, 3) := by decide +kernel
theorem dX1_isOn_19 : decode cX1_isOn 19 = .ok (.aload_n 0, 1) := by decide +kernel
theorem dX1_isOn_20 : decode cX1_isOn 20 = .ok (.getfield 19, 3) := by decide +kernel
theorem dX1_isOn_23 : decode cX1_isOn 23 = .ok (.iload_n 1, 1) := by decide +kernel
theorem dX1_isOn_24 : decode cX1_isOn 24 = .ok (.iaload, 1) := by decide +kernel
theorem dX1_isOn_25 : decode cX1_isOn 25 = .ok (.ifCond .le 19, 3) := by decide +kernel
theorem dX1_isOn_28 : decode cX1_isOn 28 = .ok (.aload_n 0, 1) := by decide +kernel
theorem dX1_isOn_29 : decode cX1_isOn 29 = .ok (.getfield 15, 3) := by decide +kernel
theorem dX1_isOn_32 : decode cX1_isOn 32 = .ok (.iload_n 1, 1) := by decide +kernel
theorem dX1_isOn_33 : decode cX1_isOn 33 = .ok (.iaload, 1) := by decide +kernel
theorem dX1_isOn_34 : decode cX1_isOn 34 = .ok (.sipush 196, 3) := by decide +kernel
theorem dX1_isOn_37 : decode cX1_isOn 37 = .ok (.if_icmp .eq 7, 3) := by decide +kernel
theorem dX1_isOn_40 : decode cX1_isOn 40 = .ok (.iconst 1, 1) := by decide +kernel
theorem dX1_isOn_41 : decode cX1_isOn 41 = .ok (.goto 4, 3) := by decide +kernel
theorem dX1_isOn_44 : decode cX1_isOn 44 = .ok (.iconst 0, 1) := by decide +kernel
theorem dX1_isOn_45 : decode cX1_isOn 45 = .ok (.ireturn, 1) := by decide +kernel
theorem dX1_toldBits_0 : decode cX1_toldBits 0 = .ok (.iconst 0, 1) := by decide +kernel
theorem dX1_toldBits_1 : decode cX1_toldBits 1 = .ok (.istore_n 1, 1) := by decide +kernel
theorem dX1_toldBits_2 : decode cX1_toldBits 2 = .ok (.iconst 0, 1) := by decide +kernel
theorem dX1_toldBits_3 : decode cX1_toldBits 3 = .ok (.istore_n 2, 1) := by decide +kernel
theorem dX1_toldBits_4 : decode cX1_toldBits 4 = .ok (.iload_n 2, 1) := by decide +kernel
theorem dX1_toldBits_5 : decode cX1_toldBits 5 = .ok (.bipush 6, 2) := by decide +kernel
theorem dX1_toldBits_7 : decode cX1_toldBits 7 = .ok (.if_icmp .ge 28, 3) := by decide +kernel
theorem dX1_toldBits_10 : decode cX1_toldBits 10 = .ok (.iload_n 1, 1) := by decide +kernel
theorem dX1_toldBits_11 : decode cX1_toldBits 11 = .ok (.aload_n 0, 1) := by decide +kernel
theorem dX1_toldBits_12 : decode cX1_toldBits 12 = .ok (.getfield 9, 3) := by decide +kernel
theorem dX1_toldBits_15 : decode cX1_toldBits 15 = .ok (.iload_n 2, 1) := by decide +kernel
theorem dX1_toldBits_16 : decode cX1_toldBits 16 = .ok (.baload, 1) := by decide +kernel
theorem dX1_toldBits_17 : decode cX1_toldBits 17 = .ok (.ifCond .eq 9, 3) := by decide +kernel
theorem dX1_toldBits_20 : decode cX1_toldBits 20 = .ok (.iconst 1, 1) := by decide +kernel
theorem dX1_toldBits_21 : decode cX1_toldBits 21 = .ok (.iload_n 2, 1) := by decide +kernel
theorem dX1_toldBits_22 : decode cX1_toldBits 22 = .ok (.ishl, 1) := by decide +kernel
theorem dX1_toldBits_23 : decode cX1_toldBits 23 = .ok (.goto 4, 3) := by decide +kernel
theorem dX1_toldBits_26 : decode cX1_toldBits 26 = .ok (.iconst 0, 1) := by decide +kernel
theorem dX1_toldBits_27 : decode cX1_toldBits 27 = .ok (.ior, 1) := by decide +kernel
theorem dX1_toldBits_28 : decode cX1_toldBits 28 = .ok (.istore_n 1, 1) := by decide +kernel
theorem dX1_toldBits_29 : decode cX1_toldBits 29 = .ok (.iinc 2 1, 3) := by decide +kernel
theorem dX1_toldBits_32 : decode cX1_toldBits 32 = .ok (.goto (-28), 3) := by decide +kernel
theorem dX1_toldBits_35 : decode cX1_toldBits 35 = .ok (.iload_n 1, 1) := by decide +kernel
theorem dX1_toldBits_36 : decode cX1_toldBits 36 = .ok (.ireturn, 1) := by decide +kernel
theorem dX1_onBits_0 : decode cX1_onBits 0 = .ok (.iconst 0, 1) := by decide +kernel
theorem dX1_onBits_1 : decode cX1_onBits 1 = .ok (.istore_n 1, 1) := by decide +kernel
theorem dX1_onBits_2 : decode cX1_onBits 2 = .ok (.iconst 0, 1) := by decide +kernel
theorem dX1_onBits_3 : decode cX1_onBits 3 = .ok (.istore_n 2, 1) := by decide +kernel
theorem dX1_onBits_4 : decode cX1_onBits 4 = .ok (.iload_n 2, 1) := by decide +kernel
theorem dX1_onBits_5 : decode cX1_onBits 5 = .ok (.bipush 6, 2) := by decide +kernel
theorem dX1_onBits_7 : decode cX1_onBits 7 = .ok (.if_icmp .ge 27, 3) := by decide +kernel
theorem dX1_onBits_10 : decode cX1_onBits 10 = .ok (.iload_n 1, 1) := by decide +kernel
theorem dX1_onBits_11 : decode cX1_onBits 11 = .ok (.aload_n 0, 1) := by decide +kernel
theorem dX1_onBits_12 : decode cX1_onBits 12 = .ok (.iload_n 2, 1) := by decide +kernel
theorem dX1_onBits_13 : decode cX1_onBits 13 = .ok (.invokevirtual 37, 3) := by decide +kernel
theorem dX1_onBits_16 : decode cX1_onBits 16 = .ok (.ifCond .eq 9, 3) := by decide +kernel
theorem dX1_onBits_19 : decode cX1_onBits 19 = .ok (.iconst 1, 1) := by decide +kernel
theorem dX1_onBits_20 : decode cX1_onBits 20 = .ok (.iload_n 2, 1) := by decide +kernel
theorem dX1_onBits_21 : decode cX1_onBits 21 = .ok (.ishl, 1) := by decide +kernel
theorem dX1_onBits_22 : decode cX1_onBits 22 = .ok (.goto 4, 3) := by decide +kernel
theorem dX1_onBits_25 : decode cX1_onBits 25 = .ok (.iconst 0, 1) := by decide +kernel
theorem dX1_onBits_26 : decode cX1_onBits 26 = .ok (.ior, 1) := by decide +kernel
theorem dX1_onBits_27 : decode cX1_onBits 27 = .ok (.istore_n 1, 1) := by decide +kernel
theorem dX1_onBits_28 : decode cX1_onBits 28 = .ok (.iinc 2 1, 3) := by decide +kernel
theorem dX1_onBits_31 : decode cX1_onBits 31 = .ok (.goto (-27), 3) := by decide +kernel
theorem dX1_onBits_34 : decode cX1_onBits 34 = .ok (.iload_n 1, 1) := by decide +kernel
theorem dX1_onBits_35 : decode cX1_onBits 35 = .ok (.ireturn, 1) := by decide +kernel
theorem dX1_living_0 : decode cX1_living 0 = .ok (.iconst 0, 1) := by decide +kernel
theorem dX1_living_1 : decode cX1_living 1 = .ok (.istore_n 1, 1) := by decide +kernel
theorem dX1_living_2 : decode cX1_living 2 = .ok (.iconst 0, 1) := by decide +kernel
theorem dX1_living_3 : decode cX1_living 3 = .ok (.istore_n 2, 1) := by decide +kernel
theorem dX1_living_4 : decode cX1_living 4 = .ok (.iload_n 2, 1) := by decide +kernel
theorem dX1_living_5 : decode cX1_living 5 = .ok (.bipush 6, 2) := by decide +kernel
theorem dX1_living_7 : decode cX1_living 7 = .ok (.if_icmp .ge 31, 3) := by decide +kernel
theorem dX1_living_10 : decode cX1_living 10 = .ok (.iload_n 1, 1) := by decide +kernel
theorem dX1_living_11 : decode cX1_living 11 = .ok (.aload_n 0, 1) := by decide +kernel
theorem dX1_living_12 : decode cX1_living 12 = .ok (.getfield 9, 3) := by decide +kernel
theorem dX1_living_15 : decode cX1_living 15 = .ok (.iload_n 2, 1) := by decide +kernel
theorem dX1_living_16 : decode cX1_living 16 = .ok (.baload, 1) := by decide +kernel
theorem dX1_living_17 : decode cX1_living 17 = .ok (.ifCond .eq 12, 3) := by decide +kernel
theorem dX1_living_20 : decode cX1_living 20 = .ok (.aload_n 0, 1) := by decide +kernel
theorem dX1_living_21 : decode cX1_living 21 = .ok (.getfield 19, 3) := by decide +kernel
theorem dX1_living_24 : decode cX1_living 24 = .ok (.iload_n 2, 1) := by decide +kernel
theorem dX1_living_25 : decode cX1_living 25 = .ok (.iaload, 1) := by decide +kernel
theorem dX1_living_26 : decode cX1_living 26 = .ok (.goto 4, 3) := by decide +kernel
theorem dX1_living_29 : decode cX1_living 29 = .ok (.iconst 0, 1) := by decide +kernel
theorem dX1_living_30 : decode cX1_living 30 = .ok (.iadd, 1) := by decide +kernel
theorem dX1_living_31 : decode cX1_living 31 = .ok (.istore_n 1, 1) := by decide +kernel
theorem dX1_living_32 : decode cX1_living 32 = .ok (.iinc 2 1, 3) := by decide +kernel
theorem dX1_living_35 : decode cX1_living 35 = .ok (.goto (-31), 3) := by decide +kernel
theorem dX1_living_38 : decode cX1_living 38 = .ok (.iload_n 1, 1) := by decide +kernel
theorem dX1_living_39 : decode cX1_living 39 = .ok (.ireturn, 1) := by decide +kernel
theorem dX1_livingThrough_0 : decode cX1_livingThrough 0 = .ok (.iconst 0, 1) := by decide +kernel
theorem dX1_livingThrough_1 : decode cX1_livingThrough 1 = .ok (.istore_n 1, 1) := by decide +kernel
theorem dX1_livingThrough_2 : decode cX1_livingThrough 2 = .ok (.iconst 0, 1) := by decide +kernel
theorem dX1_livingThrough_3 : decode cX1_livingThrough 3 = .ok (.istore_n 2, 1) := by decide +kernel
theorem dX1_livingThrough_4 : decode cX1_livingThrough 4 = .ok (.iload_n 2, 1) := by decide +kernel
theorem dX1_livingThrough_5 : decode cX1_livingThrough 5 = .ok (.bipush 6, 2) := by decide +kernel
theorem dX1_livingThrough_7 : decode cX1_livingThrough 7 = .ok (.if_icmp .ge 43, 3) := by decide +kernel
theorem dX1_livingThrough_10 : decode cX1_livingThrough 10 = .ok (.iload_n 1, 1) := by decide +kernel
theorem dX1_livingThrough_11 : decode cX1_livingThrough 11 = .ok (.aload_n 0, 1) := by decide +kernel
theorem dX1_livingThrough_12 : decode cX1_livingThrough 12 = .ok (.getfield 9, 3) := by decide +kernel
theorem dX1_livingThrough_15 : decode cX1_livingThrough 15 = .ok (.iload_n 2, 1) := by decide +kernel
theorem dX1_livingThrough_16 : decode cX1_livingThrough 16 = .ok (.baload, 1) := by decide +kernel
theorem dX1_livingThrough_17 : decode cX1_livingThrough 17 = .ok (.ifCond .eq 24, 3) := by decide +kernel
theorem dX1_livingThrough_20 : decode cX1_livingThrough 20 = .ok (.aload_n 0, 1) := by decide +kernel
theorem dX1_livingThrough_21 : decode cX1_livingThrough 21 = .ok (.getfield 15, 3) := by decide +kernel
theorem dX1_livingThrough_24 : decode cX1_livingThrough 24 = .ok (.iload_n 2, 1) := by decide +kernel
theorem dX1_livingThrough_25 : decode cX1_livingThrough 25 = .ok (.iaload, 1) := by decide +kernel
theorem dX1_livingThrough_26 : decode cX1_livingThrough 26 = .ok (.sipush 196, 3) := by decide +kernel
theorem dX1_livingThrough_29 : decode cX1_livingThrough 29 = .ok (.if_icmp .ne 12, 3) := by decide +kernel
theorem dX1_livingThrough_32 : decode cX1_livingThrough 32 = .ok (.aload_n 0, 1) := by decide +kernel
theorem dX1_livingThrough_33 : decode cX1_livingThrough 33 = .ok (.getfield 19, 3) := by decide +kernel
theorem dX1_livingThrough_36 : decode cX1_livingThrough 36 = .ok (.iload_n 2, 1) := by decide +kernel
theorem dX1_livingThrough_37 : decode cX1_livingThrough 37 = .ok (.iaload, 1) := by decide +kernel
theorem dX1_livingThrough_38 : decode cX1_livingThrough 38 = .ok (.goto 4, 3) := by decide +kernel
theorem dX1_livingThrough_41 : decode cX1_livingThrough 41 = .ok (.iconst 0, 1) := by decide +kernel
theorem dX1_livingThrough_42 : decode cX1_livingThrough 42 = .ok (.iadd, 1) := by decide +kernel
theorem dX1_livingThrough_43 : decode cX1_livingThrough 43 = .ok (.istore_n 1, 1) := by decide +kernel
theorem dX1_livingThrough_44 : decode cX1_livingThrough 44 = .ok (.iinc 2 1, 3) := by decide +kernel
theorem dX1_livingThrough_47 : decode cX1_livingThrough 47 = .ok (.goto (-43), 3) := by decide +kernel
theorem dX1_livingThrough_50 : decode cX1_livingThrough 50 = .ok (.iload_n 1, 1) := by decide +kernel
theorem dX1_livingThrough_51 : decode cX1_livingThrough 51 = .ok (.ireturn, 1) := by decide +kernel
theorem dX1_tell_0 : decode cX1_tell 0 = .ok (.aload_n 0, 1) := by decide +kernel
theorem dX1_tell_1 : decode cX1_tell 1 = .ok (.iload_n 1, 1) := by decide +kernel
theorem dX1_tell_2 : decode cX1_tell 2 = .ok (.invokevirtual 41, 3) := by decide +kernel
theorem dX1_tell_5 : decode cX1_tell 5 = .ok (.ifCond .ne 5, 3) := by decide +kernel
theorem dX1_tell_8 : decode cX1_tell 8 = .ok (.iconst (-1), 1) := by decide +kernel
theorem dX1_tell_9 : decode cX1_tell 9 = .ok (.ireturn, 1) := by decide +kernel
theorem dX1_tell_10 : decode cX1_tell 10 = .ok (.iload_n 2, 1) := by decide +kernel
theorem dX1_tell_11 : decode cX1_tell 11 = .ok (.tableswitch 94 0 5 #[37, 44, 51, 58, 65, 80], 37) := by decide +kernel
theorem dX1_tell_48 : decode cX1_tell 48 = .ok (.aload_n 0, 1) := by decide +kernel
theorem dX1_tell_49 : decode cX1_tell 49 = .ok (.getfield 15, 3) := by decide +kernel
theorem dX1_tell_52 : decode cX1_tell 52 = .ok (.iload_n 1, 1) := by decide +kernel
theorem dX1_tell_53 : decode cX1_tell 53 = .ok (.iaload, 1) := by decide +kernel
theorem dX1_tell_54 : decode cX1_tell 54 = .ok (.ireturn, 1) := by decide +kernel
theorem dX1_tell_55 : decode cX1_tell 55 = .ok (.aload_n 0, 1) := by decide +kernel
theorem dX1_tell_56 : decode cX1_tell 56 = .ok (.getfield 19, 3) := by decide +kernel
theorem dX1_tell_59 : decode cX1_tell 59 = .ok (.iload_n 1, 1) := by decide +kernel
theorem dX1_tell_60 : decode cX1_tell 60 = .ok (.iaload, 1) := by decide +kernel
theorem dX1_tell_61 : decode cX1_tell 61 = .ok (.ireturn, 1) := by decide +kernel
theorem dX1_tell_62 : decode cX1_tell 62 = .ok (.aload_n 0, 1) := by decide +kernel
theorem dX1_tell_63 : decode cX1_tell 63 = .ok (.getfield 22, 3) := by decide +kernel
theorem dX1_tell_66 : decode cX1_tell 66 = .ok (.iload_n 1, 1) := by decide +kernel
theorem dX1_tell_67 : decode cX1_tell 67 = .ok (.iaload, 1) := by decide +kernel
theorem dX1_tell_68 : decode cX1_tell 68 = .ok (.ireturn, 1) := by decide +kernel
theorem dX1_tell_69 : decode cX1_tell 69 = .ok (.aload_n 0, 1) := by decide +kernel
theorem dX1_tell_70 : decode cX1_tell 70 = .ok (.getfield 25, 3) := by decide +kernel
theorem dX1_tell_73 : decode cX1_tell 73 = .ok (.iload_n 1, 1) := by decide +kernel
theorem dX1_tell_74 : decode cX1_tell 74 = .ok (.iaload, 1) := by decide +kernel
theorem dX1_tell_75 : decode cX1_tell 75 = .ok (.ireturn, 1) := by decide +kernel
theorem dX1_tell_76 : decode cX1_tell 76 = .ok (.aload_n 0, 1) := by decide +kernel
theorem dX1_tell_77 : decode cX1_tell 77 = .ok (.getfield 28, 3) := by decide +kernel
theorem dX1_tell_80 : decode cX1_tell 80 = .ok (.iload_n 1, 1) := by decide +kernel
theorem dX1_tell_81 : decode cX1_tell 81 = .ok (.baload, 1) := by decide +kernel
theorem dX1_tell_82 : decode cX1_tell 82 = .ok (.ifCond .eq 7, 3) := by decide +kernel
theorem dX1_tell_85 : decode cX1_tell 85 = .ok (.iconst 1, 1) := by decide +kernel
theorem dX1_tell_86 : decode cX1_tell 86 = .ok (.goto 4, 3) := by decide +kernel
theorem dX1_tell_89 : decode cX1_tell 89 = .ok (.iconst 0, 1) := by decide +kernel
theorem dX1_tell_90 : decode cX1_tell 90 = .ok (.ireturn, 1) := by decide +kernel
theorem dX1_tell_91 : decode cX1_tell 91 = .ok (.aload_n 0, 1) := by decide +kernel
theorem dX1_tell_92 : decode cX1_tell 92 = .ok (.iload_n 1, 1) := by decide +kernel
theorem dX1_tell_93 : decode cX1_tell 93 = .ok (.invokevirtual 37, 3) := by decide +kernel
theorem dX1_tell_96 : decode cX1_tell 96 = .ok (.ifCond .eq 7, 3) := by decide +kernel
theorem dX1_tell_99 : decode cX1_tell 99 = .ok (.iconst 1, 1) := by decide +kernel
theorem dX1_tell_100 : decode cX1_tell 100 = .ok (.goto 4, 3) := by decide +kernel
theorem dX1_tell_103 : decode cX1_tell 103 = .ok (.iconst 0, 1) := by decide +kernel
theorem dX1_tell_104 : decode cX1_tell 104 = .ok (.ireturn, 1) := by decide +kernel
theorem dX1_tell_105 : decode cX1_tell 105 = .ok (.iconst (-1), 1) := by decide +kernel
theorem dX1_tell_106 : decode cX1_tell 106 = .ok (.ireturn, 1) := by decide +kernel
theorem dX2_init_0 : decode cX2_init 0 = .ok (.aload_n 0, 1) := by decide +kernel
theorem dX2_init_1 : decode cX2_init 1 = .ok (.invokespecial 3, 3) := by decide +kernel
theorem dX2_init_4 : decode cX2_init 4 = .ok (.aload_n 0, 1) := by decide +kernel
theorem dX2_init_5 : decode cX2_init 5 = .ok (.bipush 12, 2) := by decide +kernel
theorem dX2_init_7 : decode cX2_init 7 = .ok (.newarray .boolean, 2) := by decide +kernel
theorem dX2_init_9 : decode cX2_init 9 = .ok (.putfield 9, 3) := by decide +kernel
theorem dX2_init_12 : decode cX2_init 12 = .ok (.aload_n 0, 1) := by decide +kernel
theorem dX2_init_13 : decode cX2_init 13 = .ok (.bipush 12, 2) := by decide +kernel
theorem dX2_init_15 : decode cX2_init 15 = .ok (.newarray .int, 2) := by decide +kernel
theorem dX2_init_17 : decode cX2_init 17 = .ok (.putfield 15, 3) := by decide +kernel
theorem dX2_init_20 : decode cX2_init 20 = .ok (.aload_n 0, 1) := by decide +kernel
theorem dX2_init_21 : decode cX2_init 21 = .ok (.bipush 12, 2) := by decide +kernel
theorem dX2_init_23 : decode cX2_init 23 = .ok (.newarray .int, 2) := by decide +kernel
theorem dX2_init_25 : decode cX2_init 25 = .ok (.putfield 19, 3) := by decide +kernel
theorem dX2_init_28 : decode cX2_init 28 = .ok (.aload_n 0, 1) := by decide +kernel
theorem dX2_init_29 : decode cX2_init 29 = .ok (.bipush 12, 2) := by decide +kernel
theorem dX2_init_31 : decode cX2_init 31 = .ok (.newarray .int, 2) := by decide +kernel
theorem dX2_init_33 : decode cX2_init 33 = .ok (.putfield 22, 3) := by decide +kernel
theorem dX2_init_36 : decode cX2_init 36 = .ok (.aload_n 0, 1) := by decide +kernel
theorem dX2_init_37 : decode cX2_init 37 = .ok (.bipush 12, 2) := by decide +kernel
theorem dX2_init_39 : decode cX2_init 39 = .ok (.newarray .int, 2) := by decide +kernel
theorem dX2_init_41 : decode cX2_init 41 = .ok (.putfield 25, 3) := by decide +kernel
theorem dX2_init_44 : decode cX2_init 44 = .ok (.aload_n 0, 1) := by decide +kernel
theorem dX2_init_45 : decode cX2_init 45 = .ok (.bipush 12, 2) := by decide +kernel
theorem dX2_init_47 : decode cX2_init 47 = .ok (.newarray .boolean, 2) := by decide +kernel
theorem dX2_init_49 : decode cX2_init 49 = .ok (.putfield 28, 3) := by decide +kernel
theorem dX2_init_52 : decode cX2_init 52 = .ok (.return_, 1) := by decide +kernel
theorem dX2_become_0 : decode cX2_become 0 = .ok (.aload_n 1, 1) := by decide +kernel
theorem dX2_become_1 : decode cX2_become 1 = .ok (.getfield 9, 3) := by decide +kernel
theorem dX2_become_4 : decode cX2_become 4 = .ok (.iconst 0, 1) := by decide +kernel
theorem dX2_become_5 : decode cX2_become 5 = .ok (.aload_n 0, 1) := by decide +kernel
theorem dX2_become_6 : decode cX2_become 6 = .ok (.getfield 9, 3) := by decide +kernel
theorem dX2_become_9 : decode cX2_become 9 = .ok (.iconst 0, 1) := by decide +kernel
theorem dX2_become_10 : decode cX2_become 10 = .ok (.bipush 12, 2) := by decide +kernel
theorem dX2_become_12 : decode cX2_become 12 = .ok (.invokestatic 31, 3) := by decide +kernel
theorem dX2_become_15 : decode cX2_become 15 = .ok (.aload_n 1, 1) := by decide +kernel
theorem dX2_become_16 : decode cX2_become 16 = .ok (.getfield 15, 3) := by decide +kernel
theorem dX2_become_19 : decode cX2_become 19 = .ok (.iconst 0, 1) := by decide +kernel
theorem dX2_become_20 : decode cX2_become 20 = .ok (.aload_n 0, 1) := by decide +kernel
theorem dX2_become_21 : decode cX2_become 21 = .ok (.getfield 15, 3) := by decide +kernel
theorem dX2_become_24 : decode cX2_become 24 = .ok (.iconst 0, 1) := by decide +kernel
theorem dX2_become_25 : decode cX2_become 25 = .ok (.bipush 12, 2) := by decide +kernel
theorem dX2_become_27 : decode cX2_become 27 = .ok (.invokestatic 31, 3) := by decide +kernel
theorem dX2_become_30 : decode cX2_become 30 = .ok (.aload_n 1, 1) := by decide +kernel
theorem dX2_become_31 : decode cX2_become 31 = .ok (.getfield 19, 3) := by decide +kernel
theorem dX2_become_34 : decode cX2_become 34 = .ok (.iconst 0, 1) := by decide +kernel
theorem dX2_become_35 : decode cX2_become 35 = .ok (.aload_n 0, 1) := by decide +kernel
theorem dX2_become_36 : decode cX2_become 36 = .ok (.getfield 19, 3) := by decide +kernel
theorem dX2_become_39 : decode cX2_become 39 = .ok (.iconst 0, 1) := by decide +kernel
theorem dX2_become_40 : decode cX2_become 40 = .ok (.bipush 12, 2) := by decide +kernel
theorem dX2_become_42 : decode cX2_become 42 = .ok (.invokestatic 31, 3) := by decide +kernel
theorem dX2_become_45 : decode cX2_become 45 = .ok (.aload_n 1, 1) := by decide +kernel
theorem dX2_become_46 : decode cX2_become 46 = .ok (.getfield 22, 3) := by decide +kernel
theorem dX2_become_49 : decode cX2_become 49 = .ok (.iconst 0, 1) := by decide +kernel
theorem dX2_become_50 : decode cX2_become 50 = .ok (.aload_n 0, 1) := by decide +kernel
theorem dX2_become_51 : decode cX2_become 51 = .ok (.getfield 22, 3) := by decide +kernel
theorem dX2_become_54 : decode cX2_become 54 = .ok (.iconst 0, 1) := by decide +kernel
theorem dX2_become_55 : decode cX2_become 55 = .ok (.bipush 12, 2) := by decide +kernel
theorem dX2_become_57 : decode cX2_become 57 = .ok (.invokestatic 31, 3) := by decide +kernel
theorem dX2_become_60 : decode cX2_become 60 = .ok (.aload_n 1, 1) := by decide +kernel
theorem dX2_become_61 : decode cX2_become 61 = .ok (.getfield 25, 3) := by decide +kernel
theorem dX2_become_64 : decode cX2_become 64 = .ok (.iconst 0, 1) := by decide +kernel
theorem dX2_become_65 : decode cX2_become 65 = .ok (.aload_n 0, 1) := by decide +kernel
theorem dX2_become_66 : decode cX2_become 66 = .ok (.getfield 25, 3) := by decide +kernel
theorem dX2_become_69 : decode cX2_become 69 = .ok (.iconst 0, 1) := by decide +kernel
theorem dX2_become_70 : decode cX2_become 70 = .ok (.bipush 12, 2) := by decide +kernel
theorem dX2_become_72 : decode cX2_become 72 = .ok (.invokestatic 31, 3) := by decide +kernel
theorem dX2_become_75 : decode cX2_become 75 = .ok (.aload_n 1, 1) := by decide +kernel
theorem dX2_become_76 : decode cX2_become 76 = .ok (.getfield 28, 3) := by decide +kernel
theorem dX2_become_79 : decode cX2_become 79 = .ok (.iconst 0, 1) := by decide +kernel
theorem dX2_become_80 : decode cX2_become 80 = .ok (.aload_n 0, 1) := by decide +kernel
theorem dX2_become_81 : decode cX2_become 81 = .ok (.getfield 28, 3) := by decide +kernel
theorem dX2_become_84 : decode cX2_become 84 = .ok (.iconst 0, 1) := by decide +kernel
theorem dX2_become_85 : decode cX2_become 85 = .ok (.bipush 12, 2) := by decide +kernel
theorem dX2_become_87 : decode cX2_become 87 = .ok (.invokestatic 31, 3) := by decide +kernel
theorem dX2_become_90 : decode cX2_become 90 = .ok (.return_, 1) := by decide +kernel
theorem dX2_stands_0 : decode cX2_stands 0 = .ok (.iload_n 1, 1) := by decide +kernel
theorem dX2_stands_1 : decode cX2_stands 1 = .ok (.ifCond .lt 22, 3) := by decide +kernel
theorem dX2_stands_4 : decode cX2_stands 4 = .ok (.iload_n 1, 1) := by decide +kernel
theorem dX2_stands_5 : decode cX2_stands 5 = .ok (.bipush 12, 2) := by decide +kernel
theorem dX2_stands_7 : decode cX2_stands 7 = .ok (.if_icmp .ge 16, 3) := by decide +kernel
theorem dX2_stands_10 : decode cX2_stands 10 = .ok (.aload_n 0, 1) := by decide +kernel
theorem dX2_stands_11 : decode cX2_stands 11 = .ok (.getfield 9, 3) := by decide +kernel
theorem dX2_stands_14 : decode cX2_stands 14 = .ok (.iload_n 1, 1) := by decide +kernel
theorem dX2_stands_15 : decode cX2_stands 15 = .ok (.baload, 1) := by decide +kernel
theorem dX2_stands_16 : decode cX2_stands 16 = .ok (.ifCond .eq 7, 3) := by decide +kernel
theorem dX2_stands_19 : decode cX2_stands 19 = .ok (.iconst 1, 1) := by decide +kernel
theorem dX2_stands_20 : decode cX2_stands 20 = .ok (.goto 4, 3) := by decide +kernel
theorem dX2_stands_23 : decode cX2_stands 23 = .ok (.iconst 0, 1) := by decide +kernel
theorem dX2_stands_24 : decode cX2_stands 24 = .ok (.ireturn, 1) := by decide +kernel
theorem dX2_isLit_0 : decode cX2_isLit 0 = .ok (.iload_n 1, 1) := by decide +kernel
theorem dX2_isLit_1 : decode cX2_isLit 1 = .ok (.ifCond .lt 18, 3) := by decide +kernel
theorem dX2_isLit_4 : decode cX2_isLit 4 = .ok (.iload_n 1, 1) := by decide +kernel
theorem dX2_isLit_5 : decode cX2_isLit 5 = .ok (.bipush 12, 2) := by decide +kernel
theorem dX2_isLit_7 : decode cX2_isLit 7 = .ok (.if_icmp .ge 12, 3) := by decide +kernel
theorem dX2_isLit_10 : decode cX2_isLit 10 = .ok (.aload_n 0, 1) := by decide +kernel
theorem dX2_isLit_11 : decode cX2_isLit 11 = .ok (.getfield 9, 3) := by decide +kernel
theorem dX2_isLit_14 : decode cX2_isLit 14 = .ok (.iload_n 1, 1) := by decide +kernel
theorem dX2_isLit_15 : decode cX2_isLit 15 = .ok (.baload, 1) := by decide +kernel
theorem dX2_isLit_16 : decode cX2_isLit 16 = .ok (.ifCond .ne 5, 3) := by decide +kernel
theorem dX2_isLit_19 : decode cX2_isLit 19 = .ok (.iconst 0, 1) := by decide +kernel
theorem dX2_isLit_20 : decode cX2_isLit 20 = .ok (.ireturn, 1) := by decide +kernel
theorem dX2_isLit_21 : decode cX2_isLit 21 = .ok (.iload_n 1, 1) := by decide +kernel
theorem dX2_isLit_22 : decode cX2_isLit 22 = .ok (.bipush 9, 2) := by decide +kernel
theorem dX2_isLit_24 : decode cX2_isLit 24 = .ok (.if_icmp .ge 29, 3) := by decide +kernel
theorem dX2_isLit_27 : decode cX2_isLit 27 = .ok (.aload_n 0, 1) := by decide +kernel
theorem dX2_isLit_28 : decode cX2_isLit 28 = .ok (.getfield 22, 3) := by decide +kernel
theorem dX2_isLit_31 : decode cX2_isLit 31 = .ok (.iload_n 1, 1) := by decide +kernel
theorem dX2_isLit_32 : decode cX2_isLit 32 = .ok (.iaload, 1) := by decide +kernel
theorem dX2_isLit_33 : decode cX2_isLit 33 = .ok (.ifCond .gt 12, 3) := by decide +kernel
theorem dX2_isLit_36 : decode cX2_isLit 36 = .ok (.aload_n 0, 1) := by decide +kernel
theorem dX2_isLit_37 : decode cX2_isLit 37 = .ok (.getfield 25, 3) := by decide +kernel
theorem dX2_isLit_40 : decode cX2_isLit 40 = .ok (.iload_n 1, 1) := by decide +kernel
theorem dX2_isLit_41 : decode cX2_isLit 41 = .ok (.iaload, 1) := by decide +kernel
theorem dX2_isLit_42 : decode cX2_isLit 42 = .ok (.ifCond .le 7, 3) := by decide +kernel
theorem dX2_isLit_45 : decode cX2_isLit 45 = .ok (.iconst 1, 1) := by decide +kernel
theorem dX2_isLit_46 : decode cX2_isLit 46 = .ok (.goto 13, 3) := by decide +kernel
theorem dX2_isLit_49 : decode cX2_isLit 49 = .ok (.iconst 0, 1) := by decide +kernel
theorem dX2_isLit_50 : decode cX2_isLit 50 = .ok (.goto 9, 3) := by decide +kernel
theorem dX2_isLit_53 : decode cX2_isLit 53 = .ok (.aload_n 0, 1) := by decide +kernel
theorem dX2_isLit_54 : decode cX2_isLit 54 = .ok (.getfield 28, 3) := by decide +kernel
theorem dX2_isLit_57 : decode cX2_isLit 57 = .ok (.iload_n 1, 1) := by decide +kernel
theorem dX2_isLit_58 : decode cX2_isLit 58 = .ok (.baload, 1) := by decide +kernel
theorem dX2_isLit_59 : decode cX2_isLit 59 = .ok (.ireturn, 1) := by decide +kernel
theorem dX2_light_0 : decode cX2_light 0 = .ok (.iload_n 1, 1) := by decide +kernel
theorem dX2_light_1 : decode cX2_light 1 = .ok (.bipush 9, 2) := by decide +kernel
theorem dX2_light_3 : decode cX2_light 3 = .ok (.if_icmp .lt 19, 3) := by decide +kernel
theorem dX2_light_6 : decode cX2_light 6 = .ok (.iload_n 1, 1) := by decide +kernel
theorem dX2_light_7 : decode cX2_light 7 = .ok (.bipush 12, 2) := by decide +kernel
theorem dX2_light_9 : decode cX2_light 9 = .ok (.if_icmp .ge 13, 3) := by decide +kernel
theorem dX2_light_12 : decode cX2_light 12 = .ok (.aload_n 0, 1) := by decide +kernel
theorem dX2_light_13 : decode cX2_light 13 = .ok (.getfield 28, 3) := by decide +kernel
theorem dX2_light_16 : decode cX2_light 16 = .ok (.iload_n 1, 1) := by decide +kernel
theorem dX2_light_17 : decode cX2_light 17 = .ok (.iload_n 2, 1) := by decide +kernel
theorem dX2_light_18 : decode cX2_light 18 = .ok (.bastore, 1) := by decide +kernel
theorem dX2_light_19 : decode cX2_light 19 = .ok (.goto 33, 3) := by decide +kernel
theorem dX2_light_22 : decode cX2_light 22 = .ok (.iload_n 1, 1) := by decide +kernel
theorem dX2_light_23 : decode cX2_light 23 = .ok (.ifCond .lt 29, 3) := by decide +kernel
theorem dX2_light_26 : decode cX2_light 26 = .ok (.iload_n 1, 1) := by decide +kernel
theorem dX2_light_27 : decode cX2_light 27 = .ok (.bipush 9, 2) := by decide +kernel
theorem dX2_light_29 : decode cX2_light 29 = .ok (.if_icmp .ge 23, 3) := by decide +kernel
theorem dX2_light_32 : decode cX2_light 32 = .ok (.iload_n 2, 1) := by decide +kernel
theorem dX2_light_33 : decode cX2_light 33 = .ok (.ifCond .eq 19, 3) := by decide +kernel
theorem dX2_light_36 : decode cX2_light 36 = .ok (.aload_n 0, 1) := by decide +kernel
theorem dX2_light_37 : decode cX2_light 37 = .ok (.getfield 25, 3) := by decide +kernel
theorem dX2_light_40 : decode cX2_light 40 = .ok (.iload_n 1, 1) := by decide +kernel
theorem dX2_light_41 : decode cX2_light 41 = .ok (.aload_n 0, 1) := by decide +kernel
theorem dX2_light_42 : decode cX2_light 42 = .ok (.getfield 25, 3) := by decide +kernel
theorem dX2_light_45 : decode cX2_light 45 = .ok (.iload_n 1, 1) := by decide +kernel
theorem dX2_light_46 : decode cX2_light 46 = .ok (.iaload, 1) := by decide +kernel
theorem dX2_light_47 : decode cX2_light 47 = .ok (.iconst 1, 1) := by decide +kernel
theorem dX2_light_48 : decode cX2_light 48 = .ok (.invokestatic 37, 3) := by decide +kernel
theorem dX2_light_51 : decode cX2_light 51 = .ok (.iastore, 1) := by decide +kernel
theorem dX2_light_52 : decode cX2_light 52 = .ok (.return_, 1) := by decide +kernel
theorem dX2_endNight_0 : decode cX2_endNight 0 = .ok (.iconst 0, 1) := by decide +kernel
theorem dX2_endNight_1 : decode cX2_endNight 1 = .ok (.istore_n 1, 1) := by decide +kernel
theorem dX2_endNight_2 : decode cX2_endNight 2 = .ok (.iload_n 1, 1) := by decide +kernel
theorem dX2_endNight_3 : decode cX2_endNight 3 = .ok (.bipush 9, 2) := by decide +kernel
theorem dX2_endNight_5 : decode cX2_endNight 5 = .ok (.if_icmp .ge 45, 3) := by decide +kernel
theorem dX2_endNight_8 : decode cX2_endNight 8 = .ok (.aload_n 0, 1) := by decide +kernel
theorem dX2_endNight_9 : decode cX2_endNight 9 = .ok (.getfield 22, 3) := by decide +kernel
theorem dX2_endNight_12 : decode cX2_endNight 12 = .ok (.iload_n 1, 1) := by decide +kernel
theorem dX2_endNight_13 : decode cX2_endNight 13 = .ok (.aload_n 0, 1) := by decide +kernel
theorem dX2_endNight_14 : decode cX2_endNight 14 = .ok (.getfield 22, 3) := by decide +kernel
theorem dX2_endNight_17 : decode cX2_endNight 17 = .ok (.iload_n 1, 1) := by decide +kernel
theorem dX2_endNight_18 : decode cX2_endNight 18 = .ok (.iaload, 1) := by decide +kernel
theorem dX2_endNight_19 : decode cX2_endNight 19 = .ok (.iconst 1, 1) := by decide +kernel
theorem dX2_endNight_20 : decode cX2_endNight 20 = .ok (.isub, 1) := by decide +kernel
theorem dX2_endNight_21 : decode cX2_endNight 21 = .ok (.iconst 0, 1) := by decide +kernel
theorem dX2_endNight_22 : decode cX2_endNight 22 = .ok (.invokestatic 37, 3) := by decide +kernel
theorem dX2_endNight_25 : decode cX2_endNight 25 = .ok (.iastore, 1) := by decide +kernel
theorem dX2_endNight_26 : decode cX2_endNight 26 = .ok (.aload_n 0, 1) := by decide +kernel
theorem dX2_endNight_27 : decode cX2_endNight 27 = .ok (.getfield 25, 3) := by decide +kernel
theorem dX2_endNight_30 : decode cX2_endNight 30 = .ok (.iload_n 1, 1) := by decide +kernel
theorem dX2_endNight_31 : decode cX2_endNight 31 = .ok (.aload_n 0, 1) := by decide +kernel
theorem dX2_endNight_32 : decode cX2_endNight 32 = .ok (.getfield 25, 3) := by decide +kernel
theorem dX2_endNight_35 : decode cX2_endNight 35 = .ok (.iload_n 1, 1) := by decide +kernel
theorem dX2_endNight_36 : decode cX2_endNight 36 = .ok (.iaload, 1) := by decide +kernel
theorem dX2_endNight_37 : decode cX2_endNight 37 = .ok (.iconst 1, 1) := by decide +kernel
theorem dX2_endNight_38 : decode cX2_endNight 38 = .ok (.isub, 1) := by decide +kernel
theorem dX2_endNight_39 : decode cX2_endNight 39 = .ok (.iconst 0, 1) := by decide +kernel
theorem dX2_endNight_40 : decode cX2_endNight 40 = .ok (.invokestatic 37, 3) := by decide +kernel
theorem dX2_endNight_43 : decode cX2_endNight 43 = .ok (.iastore, 1) := by decide +kernel
theorem dX2_endNight_44 : decode cX2_endNight 44 = .ok (.iinc 1 1, 3) := by decide +kernel
theorem dX2_endNight_47 : decode cX2_endNight 47 = .ok (.goto (-45), 3) := by decide +kernel
theorem dX2_endNight_50 : decode cX2_endNight 50 = .ok (.return_, 1) := by decide +kernel
theorem dX2_tell_0 : decode cX2_tell 0 = .ok (.aload_n 0, 1) := by decide +kernel
theorem dX2_tell_1 : decode cX2_tell 1 = .ok (.iload_n 1, 1) := by decide +kernel
theorem dX2_tell_2 : decode cX2_tell 2 = .ok (.invokevirtual 43, 3) := by decide +kernel
theorem dX2_tell_5 : decode cX2_tell 5 = .ok (.ifCond .ne 5, 3) := by decide +kernel
theorem dX2_tell_8 : decode cX2_tell 8 = .ok (.iconst (-1), 1) := by decide +kernel
theorem dX2_tell_9 : decode cX2_tell 9 = .ok (.ireturn, 1) := by decide +kernel
theorem dX2_tell_10 : decode cX2_tell 10 = .ok (.iload_n 2, 1) := by decide +kernel
theorem dX2_tell_11 : decode cX2_tell 11 = .ok (.tableswitch 57 0 3 #[29, 36, 43, 50], 29) := by decide +kernel
theorem dX2_tell_40 : decode cX2_tell 40 = .ok (.aload_n 0, 1) := by decide +kernel
theorem dX2_tell_41 : decode cX2_tell 41 = .ok (.getfield 15, 3) := by decide +kernel
theorem dX2_tell_44 : decode cX2_tell 44 = .ok (.iload_n 1, 1) := by decide +kernel
theorem dX2_tell_45 : decode cX2_tell 45 = .ok (.iaload, 1) := by decide +kernel
theorem dX2_tell_46 : decode cX2_tell 46 = .ok (.ireturn, 1) := by decide +kernel
theorem dX2_tell_47 : decode cX2_tell 47 = .ok (.aload_n 0, 1) := by decide +kernel
theorem dX2_tell_48 : decode cX2_tell 48 = .ok (.getfield 19, 3) := by decide +kernel
theorem dX2_tell_51 : decode cX2_tell 51 = .ok (.iload_n 1, 1) := by decide +kernel
theorem dX2_tell_52 : decode cX2_tell 52 = .ok (.iaload, 1) := by decide +kernel
theorem dX2_tell_53 : decode cX2_tell 53 = .ok (.ireturn, 1) := by decide +kernel
theorem dX2_tell_54 : decode cX2_tell 54 = .ok (.aload_n 0, 1) := by decide +kernel
theorem dX2_tell_55 : decode cX2_tell 55 = .ok (.getfield 22, 3) := by decide +kernel
theorem dX2_tell_58 : decode cX2_tell 58 = .ok (.iload_n 1, 1) := by decide +kernel
theorem dX2_tell_59 : decode cX2_tell 59 = .ok (.iaload, 1) := by decide +kernel
theorem dX2_tell_60 : decode cX2_tell 60 = .ok (.ireturn, 1) := by decide +kernel
theorem dX2_tell_61 : decode cX2_tell 61 = .ok (.aload_n 0, 1) := by decide +kernel
theorem dX2_tell_62 : decode cX2_tell 62 = .ok (.getfield 25, 3) := by decide +kernel
theorem dX2_tell_65 : decode cX2_tell 65 = .ok (.iload_n 1, 1) := by decide +kernel
theorem dX2_tell_66 : decode cX2_tell 66 = .ok (.iaload, 1) := by decide +kernel
theorem dX2_tell_67 : decode cX2_tell 67 = .ok (.ireturn, 1) := by decide +kernel
theorem dX2_tell_68 : decode cX2_tell 68 = .ok (.iconst (-1), 1) := by decide +kernel
theorem dX2_tell_69 : decode cX2_tell 69 = .ok (.ireturn, 1) := by decide +kernel
theorem dX3_init_0 : decode cX3_init 0 = .ok (.aload_n 0, 1) := by decide +kernel
theorem dX3_init_1 : decode cX3_init 1 = .ok (.invokespecial 3, 3) := by decide +kernel
theorem dX3_init_4 : decode cX3_init 4 = .ok (.aload_n 0, 1) := by decide +kernel
theorem dX3_init_5 : decode cX3_init 5 = .ok (.sipush 240, 3) := by decide +kernel
theorem dX3_init_8 : decode cX3_init 8 = .ok (.newarray .int, 2) := by decide +kernel
theorem dX3_init_10 : decode cX3_init 10 = .ok (.putfield 9, 3) := by decide +kernel
theorem dX3_init_13 : decode cX3_init 13 = .ok (.aload_n 0, 1) := by decide +kernel
theorem dX3_init_14 : decode cX3_init 14 = .ok (.sipush 240, 3) := by decide +kernel
theorem dX3_init_17 : decode cX3_init 17 = .ok (.newarray .int, 2) := by decide +kernel
theorem dX3_init_19 : decode cX3_init 19 = .ok (.putfield 15, 3) := by decide +kernel
theorem dX3_init_22 : decode cX3_init 22 = .ok (.aload_n 0, 1) := by decide +kernel
theorem dX3_init_23 : decode cX3_init 23 = .ok (.iconst 0, 1) := by decide +kernel
theorem dX3_init_24 : decode cX3_init 24 = .ok (.putfield 18, 3) := by decide +kernel
theorem dX3_init_27 : decode cX3_init 27 = .ok (.aload_n 0, 1) := by decide +kernel
theorem dX3_init_28 : decode cX3_init 28 = .ok (.bipush 16, 2) := by decide +kernel
theorem dX3_init_30 : decode cX3_init 30 = .ok (.newarray .int, 2) := by decide +kernel
theorem dX3_init_32 : decode cX3_init 32 = .ok (.putfield 22, 3) := by decide +kernel
theorem dX3_init_35 : decode cX3_init 35 = .ok (.aload_n 0, 1) := by decide +kernel
theorem dX3_init_36 : decode cX3_init 36 = .ok (.bipush 16, 2) := by decide +kernel
theorem dX3_init_38 : decode cX3_init 38 = .ok (.newarray .int, 2) := by decide +kernel
theorem dX3_init_40 : decode cX3_init 40 = .ok (.putfield 25, 3) := by decide +kernel
theorem dX3_init_43 : decode cX3_init 43 = .ok (.aload_n 0, 1) := by decide +kernel
theorem dX3_init_44 : decode cX3_init 44 = .ok (.bipush 16, 2) := by decide +kernel
theorem dX3_init_46 : decode cX3_init 46 = .ok (.newarray .int, 2) := by decide +kernel
theorem dX3_init_48 : decode cX3_init 48 = .ok (.putfield 28, 3) := by decide +kernel
theorem dX3_init_51 : decode cX3_init 51 = .ok (.aload_n 0, 1) := by decide +kernel
theorem dX3_init_52 : decode cX3_init 52 = .ok (.iconst 0, 1) := by decide +kernel
theorem dX3_init_53 : decode cX3_init 53 = .ok (.putfield 31, 3) := by decide +kernel
theorem dX3_init_56 : decode cX3_init 56 = .ok (.aload_n 0, 1) := by decide +kernel
theorem dX3_init_57 : decode cX3_init 57 = .ok (.bipush 64, 2) := by decide +kernel
theorem dX3_init_59 : decode cX3_init 59 = .ok (.newarray .int, 2) := by decide +kernel
theorem dX3_init_61 : decode cX3_init 61 = .ok (.putfield 34, 3) := by decide +kernel
theorem dX3_init_64 : decode cX3_init 64 = .ok (.aload_n 0, 1) := by decide +kernel
theorem dX3_init_65 : decode cX3_init 65 = .ok (.iconst 0, 1) := by decide +kernel
theorem dX3_init_66 : decode cX3_init 66 = .ok (.putfield 37, 3) := by decide +kernel
theorem dX3_init_69 : decode cX3_init 69 = .ok (.aload_n 0, 1) := by decide +kernel
theorem dX3_init_70 : decode cX3_init 70 = .ok (.iconst 0, 1) := by decide +kernel
theorem dX3_init_71 : decode cX3_init 71 = .ok (.putfield 41, 3) := by decide +kernel
theorem dX3_init_74 : decode cX3_init 74 = .ok (.return_, 1) := by decide +kernel
theorem dX3_clear_0 : decode cX3_clear 0 = .ok (.aload_n 0, 1) := by decide +kernel
theorem dX3_clear_1 : decode cX3_clear 1 = .ok (.iconst 0, 1) := by decide +kernel
theorem dX3_clear_2 : decode cX3_clear 2 = .ok (.putfield 18, 3) := by decide +kernel
theorem dX3_clear_5 : decode cX3_clear 5 = .ok (.aload_n 0, 1) := by decide +kernel
theorem dX3_clear_6 : decode cX3_clear 6 = .ok (.iconst 0, 1) := by decide +kernel
theorem dX3_clear_7 : decode cX3_clear 7 = .ok (.putfield 31, 3) := by decide +kernel
theorem dX3_clear_10 : decode cX3_clear 10 = .ok (.return_, 1) := by decide +kernel
theorem dX3_become_0 : decode cX3_become 0 = .ok (.aload_n 1, 1) := by decide +kernel
theorem dX3_become_1 : decode cX3_become 1 = .ok (.getfield 9, 3) := by decide +kernel
theorem dX3_become_4 : decode cX3_become 4 = .ok (.iconst 0, 1) := by decide +kernel
theorem dX3_become_5 : decode cX3_become 5 = .ok (.aload_n 0, 1) := by decide +kernel
theorem dX3_become_6 : decode cX3_become 6 = .ok (.getfield 9, 3) := by decide +kernel
theorem dX3_become_9 : decode cX3_become 9 = .ok (.iconst 0, 1) := by decide +kernel
theorem dX3_become_10 : decode cX3_become 10 = .ok (.sipush 240, 3) := by decide +kernel
theorem dX3_become_13 : decode cX3_become 13 = .ok (.invokestatic 44, 3) := by decide +kernel
theorem dX3_become_16 : decode cX3_become 16 = .ok (.aload_n 1, 1) := by decide +kernel
theorem dX3_become_17 : decode cX3_become 17 = .ok (.getfield 15, 3) := by decide +kernel
theorem dX3_become_20 : decode cX3_become 20 = .ok (.iconst 0, 1) := by decide +kernel
theorem dX3_become_21 : decode cX3_become 21 = .ok (.aload_n 0, 1) := by decide +kernel
theorem dX3_become_22 : decode cX3_become 22 = .ok (.getfield 15, 3) := by decide +kernel
theorem dX3_become_25 : decode cX3_become 25 = .ok (.iconst 0, 1) := by decide +kernel
theorem dX3_become_26 : decode cX3_become 26 = .ok (.sipush 240, 3) := by decide +kernel
theorem dX3_become_29 : decode cX3_become 29 = .ok (.invokestatic 44, 3) := by decide +kernel
theorem dX3_become_32 : decode cX3_become 32 = .ok (.aload_n 1, 1) := by decide +kernel
theorem dX3_become_33 : decode cX3_become 33 = .ok (.getfield 22, 3) := by decide +kernel
theorem dX3_become_36 : decode cX3_become 36 = .ok (.iconst 0, 1) := by decide +kernel
theorem dX3_become_37 : decode cX3_become 37 = .ok (.aload_n 0, 1) := by decide +kernel
theorem dX3_become_38 : decode cX3_become 38 = .ok (.getfield 22, 3) := by decide +kernel
theorem dX3_become_41 : decode cX3_become 41 = .ok (.iconst 0, 1) := by decide +kernel
theorem dX3_become_42 : decode cX3_become 42 = .ok (.bipush 16, 2) := by decide +kernel
theorem dX3_become_44 : decode cX3_become 44 = .ok (.invokestatic 44, 3) := by decide +kernel
theorem dX3_become_47 : decode cX3_become 47 = .ok (.aload_n 1, 1) := by decide +kernel
theorem dX3_become_48 : decode cX3_become 48 = .ok (.getfield 25, 3) := by decide +kernel
theorem dX3_become_51 : decode cX3_become 51 = .ok (.iconst 0, 1) := by decide +kernel
theorem dX3_become_52 : decode cX3_become 52 = .ok (.aload_n 0, 1) := by decide +kernel
theorem dX3_become_53 : decode cX3_become 53 = .ok (.getfield 25, 3) := by decide +kernel
theorem dX3_become_56 : decode cX3_become 56 = .ok (.iconst 0, 1) := by decide +kernel
theorem dX3_become_57 : decode cX3_become 57 = .ok (.bipush 16, 2) := by decide +kernel
theorem dX3_become_59 : decode cX3_become 59 = .ok (.invokestatic 44, 3) := by decide +kernel
theorem dX3_become_62 : decode cX3_become 62 = .ok (.aload_n 1, 1) := by decide +kernel
theorem dX3_become_63 : decode cX3_become 63 = .ok (.getfield 28, 3) := by decide +kernel
theorem dX3_become_66 : decode cX3_become 66 = .ok (.iconst 0, 1) := by decide +kernel
theorem dX3_become_67 : decode cX3_become 67 = .ok (.aload_n 0, 1) := by decide +kernel
theorem dX3_become_68 : decode cX3_become 68 = .ok (.getfield 28, 3) := by decide +kernel
theorem dX3_become_71 : decode cX3_become 71 = .ok (.iconst 0, 1) := by decide +kernel
theorem dX3_become_72 : decode cX3_become 72 = .ok (.bipush 16, 2) := by decide +kernel
theorem dX3_become_74 : decode cX3_become 74 = .ok (.invokestatic 44, 3) := by decide +kernel
theorem dX3_become_77 : decode cX3_become 77 = .ok (.aload_n 0, 1) := by decide +kernel
theorem dX3_become_78 : decode cX3_become 78 = .ok (.aload_n 1, 1) := by decide +kernel
theorem dX3_become_79 : decode cX3_become 79 = .ok (.getfield 18, 3) := by decide +kernel
theorem dX3_become_82 : decode cX3_become 82 = .ok (.putfield 18, 3) := by decide +kernel
theorem dX3_become_85 : decode cX3_become 85 = .ok (.aload_n 0, 1) := by decide +kernel
theorem dX3_become_86 : decode cX3_become 86 = .ok (.aload_n 1, 1) := by decide +kernel
theorem dX3_become_87 : decode cX3_become 87 = .ok (.getfield 31, 3) := by decide +kernel
theorem dX3_become_90 : decode cX3_become 90 = .ok (.putfield 31, 3) := by decide +kernel
theorem dX3_become_93 : decode cX3_become 93 = .ok (.return_, 1) := by decide +kernel
theorem dX3_add_0 : decode cX3_add 0 = .ok (.aload_n 0, 1) := by decide +kernel
theorem dX3_add_1 : decode cX3_add 1 = .ok (.getfield 18, 3) := by decide +kernel
theorem dX3_add_4 : decode cX3_add 4 = .ok (.ifCond .lt 13, 3) := by decide +kernel
theorem dX3_add_7 : decode cX3_add 7 = .ok (.aload_n 0, 1) := by decide +kernel
theorem dX3_add_8 : decode cX3_add 8 = .ok (.getfield 18, 3) := by decide +kernel
theorem dX3_add_11 : decode cX3_add 11 = .ok (.sipush 240, 3) := by decide +kernel
theorem dX3_add_14 : decode cX3_add 14 = .ok (.if_icmp .lt 5, 3) := by decide +kernel
theorem dX3_add_17 : decode cX3_add 17 = .ok (.iconst (-1), 1) := by decide +kernel
theorem dX3_add_18 : decode cX3_add 18 = .ok (.ireturn, 1) := by decide +kernel
theorem dX3_add_19 : decode cX3_add 19 = .ok (.aload_n 0, 1) := by decide +kernel
theorem dX3_add_20 : decode cX3_add 20 = .ok (.getfield 9, 3) := by decide +kernel
theorem dX3_add_23 : decode cX3_add 23 = .ok (.aload_n 0, 1) := by decide +kernel
theorem dX3_add_24 : decode cX3_add 24 = .ok (.getfield 18, 3) := by decide +kernel
theorem dX3_add_27 : decode cX3_add 27 = .ok (.iload_n 1, 1) := by decide +kernel
theorem dX3_add_28 : decode cX3_add 28 = .ok (.iastore, 1) := by decide +kernel
theorem dX3_add_29 : decode cX3_add 29 = .ok (.aload_n 0, 1) := by decide +kernel
theorem dX3_add_30 : decode cX3_add 30 = .ok (.getfield 15, 3) := by decide +kernel
theorem dX3_add_33 : decode cX3_add 33 = .ok (.aload_n 0, 1) := by decide +kernel
theorem dX3_add_34 : decode cX3_add 34 = .ok (.getfield 18, 3) := by decide +kernel
theorem dX3_add_37 : decode cX3_add 37 = .ok (.iload_n 2, 1) := by decide +kernel
theorem dX3_add_38 : decode cX3_add 38 = .ok (.iastore, 1) := by decide +kernel
theorem dX3_add_39 : decode cX3_add 39 = .ok (.aload_n 0, 1) := by decide +kernel
theorem dX3_add_40 : decode cX3_add 40 = .ok (.dup, 1) := by decide +kernel
theorem dX3_add_41 : decode cX3_add 41 = .ok (.getfield 18, 3) := by decide +kernel
theorem dX3_add_44 : decode cX3_add 44 = .ok (.iconst 1, 1) := by decide +kernel
theorem dX3_add_45 : decode cX3_add 45 = .ok (.iadd, 1) := by decide +kernel
theorem dX3_add_46 : decode cX3_add 46 = .ok (.putfield 18, 3) := by decide +kernel
theorem dX3_add_49 : decode cX3_add 49 = .ok (.aload_n 0, 1) := by decide +kernel
theorem dX3_add_50 : decode cX3_add 50 = .ok (.getfield 18, 3) := by decide +kernel
theorem dX3_add_53 : decode cX3_add 53 = .ok (.iconst 1, 1) := by decide +kernel
theorem dX3_add_54 : decode cX3_add 54 = .ok (.isub, 1) := by decide +kernel
theorem dX3_add_55 : decode cX3_add 55 = .ok (.ireturn, 1) := by decide +kernel
theorem dX3_aim_0 : decode cX3_aim 0 = .ok (.iload_n 1, 1) := by decide +kernel
theorem dX3_aim_1 : decode cX3_aim 1 = .ok (.ifCond .lt 20, 3) := by decide +kernel
theorem dX3_aim_4 : decode cX3_aim 4 = .ok (.iload_n 1, 1) := by decide +kernel
theorem dX3_aim_5 : decode cX3_aim 5 = .ok (.sipush 240, 3) := by decide +kernel
theorem dX3_aim_8 : decode cX3_aim 8 = .ok (.if_icmp .ge 13, 3) := by decide +kernel
theorem dX3_aim_11 : decode cX3_aim 11 = .ok (.aload_n 0, 1) := by decide +kernel
theorem dX3_aim_12 : decode cX3_aim 12 = .ok (.getfield 15, 3) := by decide +kernel
theorem dX3_aim_15 : decode cX3_aim 15 = .ok (.iload_n 1, 1) := by decide +kernel
theorem dX3_aim_16 : decode cX3_aim 16 = .ok (.aload_n 0, 1) := by decide +kernel
theorem dX3_aim_17 : decode cX3_aim 17 = .ok (.getfield 18, 3) := by decide +kernel
theorem dX3_aim_20 : decode cX3_aim 20 = .ok (.iastore, 1) := by decide +kernel
theorem dX3_aim_21 : decode cX3_aim 21 = .ok (.return_, 1) := by decide +kernel
theorem dX3_addClause_0 : decode cX3_addClause 0 = .ok (.aload_n 0, 1) := by decide +kernel
theorem dX3_addClause_1 : decode cX3_addClause 1 = .ok (.getfield 31, 3) := by decide +kernel
theorem dX3_addClause_4 : decode cX3_addClause 4 = .ok (.ifCond .lt 52, 3) := by decide +kernel
theorem dX3_addClause_7 : decode cX3_addClause 7 = .ok (.aload_n 0, 1) := by decide +kernel
theorem dX3_addClause_8 : decode cX3_addClause 8 = .ok (.getfield 31, 3) := by decide +kernel
theorem dX3_addClause_11 : decode cX3_addClause 11 = .ok (.bipush 16, 2) := by decide +kernel
theorem dX3_addClause_13 : decode cX3_addClause 13 = .ok (.if_icmp .ge 43, 3) := by decide +kernel
theorem dX3_addClause_16 : decode cX3_addClause 16 = .ok (.aload_n 0, 1) := by decide +kernel
theorem dX3_addClause_17 : decode cX3_addClause 17 = .ok (.getfield 22, 3) := by decide +kernel
theorem dX3_addClause_20 : decode cX3_addClause 20 = .ok (.aload_n 0, 1) := by decide +kernel
theorem dX3_addClause_21 : decode cX3_addClause 21 = .ok (.getfield 31, 3) := by decide +kernel
theorem dX3_addClause_24 : decode cX3_addClause 24 = .ok (.iload_n 1, 1) := by decide +kernel
theorem dX3_addClause_25 : decode cX3_addClause 25 = .ok (.iastore, 1) := by decide +kernel
theorem dX3_addClause_26 : decode cX3_addClause 26 = .ok (.aload_n 0, 1) := by decide +kernel
theorem dX3_addClause_27 : decode cX3_addClause 27 = .ok (.getfield 25, 3) := by decide +kernel
theorem dX3_addClause_30 : decode cX3_addClause 30 = .ok (.aload_n 0, 1) := by decide +kernel
theorem dX3_addClause_31 : decode cX3_addClause 31 = .ok (.getfield 31, 3) := by decide +kernel
theorem dX3_addClause_34 : decode cX3_addClause 34 = .ok (.iload_n 2, 1) := by decide +kernel
theorem dX3_addClause_35 : decode cX3_addClause 35 = .ok (.iastore, 1) := by decide +kernel
theorem dX3_addClause_36 : decode cX3_addClause 36 = .ok (.aload_n 0, 1) := by decide +kernel
theorem dX3_addClause_37 : decode cX3_addClause 37 = .ok (.getfield 28, 3) := by decide +kernel
theorem dX3_addClause_40 : decode cX3_addClause 40 = .ok (.aload_n 0, 1) := by decide +kernel
theorem dX3_addClause_41 : decode cX3_addClause 41 = .ok (.getfield 31, 3) := by decide +kernel
theorem dX3_addClause_44 : decode cX3_addClause 44 = .ok (.iload_n 3, 1) := by decide +kernel
theorem dX3_addClause_45 : decode cX3_addClause 45 = .ok (.iastore, 1) := by decide +kernel
theorem dX3_addClause_46 : decode cX3_addClause 46 = .ok (.aload_n 0, 1) := by decide +kernel
theorem dX3_addClause_47 : decode cX3_addClause 47 = .ok (.dup, 1) := by decide +kernel
theorem dX3_addClause_48 : decode cX3_addClause 48 = .ok (.getfield 31, 3) := by decide +kernel
theorem dX3_addClause_51 : decode cX3_addClause 51 = .ok (.iconst 1, 1) := by decide +kernel
theorem dX3_addClause_52 : decode cX3_addClause 52 = .ok (.iadd, 1) := by decide +kernel
theorem dX3_addClause_53 : decode cX3_addClause 53 = .ok (.putfield 31, 3) := by decide +kernel
theorem dX3_addClause_56 : decode cX3_addClause 56 = .ok (.return_, 1) := by decide +kernel
theorem dX3_ask_0 : decode cX3_ask 0 = .ok (.iload_n 1, 1) := by decide +kernel
theorem dX3_ask_1 : decode cX3_ask 1 = .ok (.ifCond .lt 19, 3) := by decide +kernel
theorem dX3_ask_4 : decode cX3_ask 4 = .ok (.iload_n 1, 1) := by decide +kernel
theorem dX3_ask_5 : decode cX3_ask 5 = .ok (.getstatic 50, 3) := by decide +kernel
theorem dX3_ask_8 : decode cX3_ask 8 = .ok (.arraylength, 1) := by decide +kernel
theorem dX3_ask_9 : decode cX3_ask 9 = .ok (.if_icmp .ge 11, 3) := by decide +kernel
theorem dX3_ask_12 : decode cX3_ask 12 = .ok (.iload_n 1, 1) := by decide +kernel
theorem dX3_ask_13 : decode cX3_ask 13 = .ok (.getstatic 53, 3) := by decide +kernel
theorem dX3_ask_16 : decode cX3_ask 16 = .ok (.arraylength, 1) := by decide +kernel
theorem dX3_ask_17 : decode cX3_ask 17 = .ok (.if_icmp .lt 5, 3) := by decide +kernel
theorem dX3_ask_20 : decode cX3_ask 20 = .ok (.iconst 0, 1) := by decide +kernel
theorem dX3_ask_21 : decode cX3_ask 21 = .ok (.ireturn, 1) := by decide +kernel
theorem dX3_ask_22 : decode cX3_ask 22 = .ok (.iconst 0, 1) := by decide +kernel
theorem dX3_ask_23 : decode cX3_ask 23 = .ok (.istore_n 3, 1) := by decide +kernel
theorem dX3_ask_24 : decode cX3_ask 24 = .ok (.iload_n 3, 1) := by decide +kernel
theorem dX3_ask_25 : decode cX3_ask 25 = .ok (.aload_n 0, 1) := by decide +kernel
theorem dX3_ask_26 : decode cX3_ask 26 = .ok (.getfield 31, 3) := by decide +kernel
theorem dX3_ask_29 : decode cX3_ask 29 = .ok (.if_icmp .ge 89, 3) := by decide +kernel
theorem dX3_ask_32 : decode cX3_ask 32 = .ok (.iload_n 3, 1) := by decide +kernel
theorem dX3_ask_33 : decode cX3_ask 33 = .ok (.bipush 16, 2) := by decide +kernel
theorem dX3_ask_35 : decode cX3_ask 35 = .ok (.if_icmp .ge 83, 3) := by decide +kernel
theorem dX3_ask_38 : decode cX3_ask 38 = .ok (.aload_n 0, 1) := by decide +kernel
theorem dX3_ask_39 : decode cX3_ask 39 = .ok (.getfield 22, 3) := by decide +kernel
theorem dX3_ask_42 : decode cX3_ask 42 = .ok (.iload_n 3, 1) := by decide +kernel
theorem dX3_ask_43 : decode cX3_ask 43 = .ok (.iaload, 1) := by decide +kernel
theorem dX3_ask_44 : decode cX3_ask 44 = .ok (.iload_n 1, 1) := by decide +kernel
theorem dX3_ask_45 : decode cX3_ask 45 = .ok (.if_icmp .ne 67, 3) := by decide +kernel
theorem dX3_ask_48 : decode cX3_ask 48 = .ok (.aload_n 0, 1) := by decide +kernel
theorem dX3_ask_49 : decode cX3_ask 49 = .ok (.aload_n 0, 1) := by decide +kernel
theorem dX3_ask_50 : decode cX3_ask 50 = .ok (.getfield 28, 3) := by decide +kernel
theorem dX3_ask_53 : decode cX3_ask 53 = .ok (.iload_n 3, 1) := by decide +kernel
theorem dX3_ask_54 : decode cX3_ask 54 = .ok (.iaload, 1) := by decide +kernel
theorem dX3_ask_55 : decode cX3_ask 55 = .ok (.aload_n 2, 1) := by decide +kernel
theorem dX3_ask_56 : decode cX3_ask 56 = .ok (.invokevirtual 56, 3) := by decide +kernel
theorem dX3_ask_59 : decode cX3_ask 59 = .ok (.ifCond .eq 53, 3) := by decide +kernel
theorem dX3_ask_62 : decode cX3_ask 62 = .ok (.aload_n 0, 1) := by decide +kernel
theorem dX3_ask_63 : decode cX3_ask 63 = .ok (.getfield 37, 3) := by decide +kernel
theorem dX3_ask_66 : decode cX3_ask 66 = .ok (.ifCond .eq 46, 3) := by decide +kernel
theorem dX3_ask_69 : decode cX3_ask 69 = .ok (.aload_n 0, 1) := by decide +kernel
theorem dX3_ask_70 : decode cX3_ask 70 = .ok (.aload_n 0, 1) := by decide +kernel
theorem dX3_ask_71 : decode cX3_ask 71 = .ok (.getfield 25, 3) := by decide +kernel
theorem dX3_ask_74 : decode cX3_ask 74 = .ok (.iload_n 3, 1) := by decide +kernel
theorem dX3_ask_75 : decode cX3_ask 75 = .ok (.iaload, 1) := by decide +kernel
theorem dX3_ask_76 : decode cX3_ask 76 = .ok (.aload_n 2, 1) := by decide +kernel
theorem dX3_ask_77 : decode cX3_ask 77 = .ok (.invokevirtual 56, 3) := by decide +kernel
theorem dX3_ask_80 : decode cX3_ask 80 = .ok (.ifCond .eq 10, 3) := by decide +kernel
theorem dX3_ask_83 : decode cX3_ask 83 = .ok (.aload_n 0, 1) := by decide +kernel
theorem dX3_ask_84 : decode cX3_ask 84 = .ok (.getfield 41, 3) := by decide +kernel
theorem dX3_ask_87 : decode cX3_ask 87 = .ok (.goto 4, 3) := by decide +kernel
theorem dX3_ask_90 : decode cX3_ask 90 = .ok (.iconst 0, 1) := by decide +kernel
theorem dX3_ask_91 : decode cX3_ask 91 = .ok (.istore 4, 2) := by decide +kernel
theorem dX3_ask_93 : decode cX3_ask 93 = .ok (.getstatic 50, 3) := by decide +kernel
theorem dX3_ask_96 : decode cX3_ask 96 = .ok (.iload_n 1, 1) := by decide +kernel
theorem dX3_ask_97 : decode cX3_ask 97 = .ok (.iaload, 1) := by decide +kernel
theorem dX3_ask_98 : decode cX3_ask 98 = .ok (.getstatic 53, 3) := by decide +kernel
theorem dX3_ask_101 : decode cX3_ask 101 = .ok (.iload_n 1, 1) := by decide +kernel
theorem dX3_ask_102 : decode cX3_ask 102 = .ok (.iaload, 1) := by decide +kernel
theorem dX3_ask_103 : decode cX3_ask 103 = .ok (.iload 4, 2) := by decide +kernel
theorem dX3_ask_105 : decode cX3_ask 105 = .ok (.invokestatic 60, 3) := by decide +kernel
theorem dX3_ask_108 : decode cX3_ask 108 = .ok (.invokestatic 66, 3) := by decide +kernel
theorem dX3_ask_111 : decode cX3_ask 111 = .ok (.ireturn, 1) := by decide +kernel
theorem dX3_ask_112 : decode cX3_ask 112 = .ok (.iinc 3 1, 3) := by decide +kernel
theorem dX3_ask_115 : decode cX3_ask 115 = .ok (.goto (-91), 3) := by decide +kernel
theorem dX3_ask_118 : decode cX3_ask 118 = .ok (.iconst 0, 1) := by decide +kernel
theorem dX3_ask_119 : decode cX3_ask 119 = .ok (.ireturn, 1) := by decide +kernel
theorem dX3_run_0 : decode cX3_run 0 = .ok (.iconst 0, 1) := by decide +kernel
theorem dX3_run_1 : decode cX3_run 1 = .ok (.istore_n 3, 1) := by decide +kernel
theorem dX3_run_2 : decode cX3_run 2 = .ok (.aload_n 0, 1) := by decide +kernel
theorem dX3_run_3 : decode cX3_run 3 = .ok (.iconst 0, 1) := by decide +kernel
theorem dX3_run_4 : decode cX3_run 4 = .ok (.putfield 37, 3) := by decide +kernel
theorem dX3_run_7 : decode cX3_run 7 = .ok (.aload_n 0, 1) := by decide +kernel
theorem dX3_run_8 : decode cX3_run 8 = .ok (.iconst 0, 1) := by decide +kernel
theorem dX3_run_9 : decode cX3_run 9 = .ok (.putfield 41, 3) := by decide +kernel
theorem dX3_run_12 : decode cX3_run 12 = .ok (.iload_n 1, 1) := by decide +kernel
theorem dX3_run_13 : decode cX3_run 13 = .ok (.iconst 0, 1) := by decide +kernel
theorem dX3_run_14 : decode cX3_run 14 = .ok (.invokestatic 66, 3) := by decide +kernel
theorem dX3_run_17 : decode cX3_run 17 = .ok (.istore 4, 2) := by decide +kernel
theorem dX3_run_19 : decode cX3_run 19 = .ok (.iload 4, 2) := by decide +kernel
theorem dX3_run_21 : decode cX3_run 21 = .ok (.aload_n 0, 1) := by decide +kernel
theorem dX3_run_22 : decode cX3_run 22 = .ok (.getfield 18, 3) := by decide +kernel
theorem dX3_run_25 : decode cX3_run 25 = .ok (.if_icmp .ge 404, 3) := by decide +kernel
theorem dX3_run_28 : decode cX3_run 28 = .ok (.iload 4, 2) := by decide +kernel
theorem dX3_run_30 : decode cX3_run 30 = .ok (.sipush 240, 3) := by decide +kernel
theorem dX3_run_33 : decode cX3_run 33 = .ok (.if_icmp .ge 396, 3) := by decide +kernel
theorem dX3_run_36 : decode cX3_run 36 = .ok (.aload_n 0, 1) := by decide +kernel
theorem dX3_run_37 : decode cX3_run 37 = .ok (.getfield 9, 3) := by decide +kernel
theorem dX3_run_40 : decode cX3_run 40 = .ok (.iload 4, 2) := by decide +kernel
theorem dX3_run_42 : decode cX3_run 42 = .ok (.iaload, 1) := by decide +kernel
theorem dX3_run_43 : decode cX3_run 43 = .ok (.istore 5, 2) := by decide +kernel
theorem dX3_run_45 : decode cX3_run 45 = .ok (.aload_n 0, 1) := by decide +kernel
theorem dX3_run_46 : decode cX3_run 46 = .ok (.getfield 15, 3) := by decide +kernel
theorem dX3_run_49 : decode cX3_run 49 = .ok (.iload 4, 2) := by decide +kernel
theorem dX3_run_51 : decode cX3_run 51 = .ok (.iaload, 1) := by decide +kernel
theorem dX3_run_52 : decode cX3_run 52 = .ok (.istore 6, 2) := by decide +kernel
theorem dX3_run_54 : decode cX3_run 54 = .ok (.iload 5, 2) := by decide +kernel
theorem dX3_run_56 : decode cX3_run 56 = .ok (.ifCond .ne 31, 3) := by decide +kernel
theorem dX3_run_59 : decode cX3_run 59 = .ok (.aload_n 0, 1) := by decide +kernel
theorem dX3_run_60 : decode cX3_run 60 = .ok (.iload_n 3, 1) := by decide +kernel
theorem dX3_run_61 : decode cX3_run 61 = .ok (.ifCond .le 20, 3) := by decide +kernel
theorem dX3_run_64 : decode cX3_run 64 = .ok (.iload_n 3, 1) := by decide +kernel
theorem dX3_run_65 : decode cX3_run 65 = .ok (.bipush 64, 2) := by decide +kernel
theorem dX3_run_67 : decode cX3_run 67 = .ok (.if_icmp .gt 14, 3) := by decide +kernel
theorem dX3_run_70 : decode cX3_run 70 = .ok (.aload_n 0, 1) := by decide +kernel
theorem dX3_run_71 : decode cX3_run 71 = .ok (.getfield 34, 3) := by decide +kernel
theorem dX3_run_74 : decode cX3_run 74 = .ok (.iload_n 3, 1) := by decide +kernel
theorem dX3_run_75 : decode cX3_run 75 = .ok (.iconst 1, 1) := by decide +kernel
theorem dX3_run_76 : decode cX3_run 76 = .ok (.isub, 1) := by decide +kernel
theorem dX3_run_77 : decode cX3_run 77 = .ok (.iaload, 1) := by decide +kernel
theorem dX3_run_78 : decode cX3_run 78 = .ok (.goto 4, 3) := by decide +kernel
theorem dX3_run_81 : decode cX3_run 81 = .ok (.iconst 0, 1) := by decide +kernel
theorem dX3_run_82 : decode cX3_run 82 = .ok (.putfield 41, 3) := by decide +kernel
theorem dX3_run_85 : decode cX3_run 85 = .ok (.iconst 1, 1) := by decide +kernel
theorem dX3_run_86 : decode cX3_run 86 = .ok (.ireturn, 1) := by decide +kernel
theorem dX3_run_87 : decode cX3_run 87 = .ok (.iload 5, 2) := by decide +kernel
theorem dX3_run_89 : decode cX3_run 89 = .ok (.iconst 1, 1) := by decide +kernel
theorem dX3_run_90 : decode cX3_run 90 = .ok (.if_icmp .eq 9, 3) := by decide +kernel
theorem dX3_run_93 : decode cX3_run 93 = .ok (.iload 5, 2) := by decide +kernel
theorem dX3_run_95 : decode cX3_run 95 = .ok (.iconst 2, 1) := by decide +kernel
theorem dX3_run_96 : decode cX3_run 96 = .ok (.if_icmp .ne 58, 3) := by decide +kernel
theorem dX3_run_99 : decode cX3_run 99 = .ok (.iload_n 3, 1) := by decide +kernel
theorem dX3_run_100 : decode cX3_run 100 = .ok (.ifCond .lt 9, 3) := by decide +kernel
theorem dX3_run_103 : decode cX3_run 103 = .ok (.iload_n 3, 1) := by decide +kernel
theorem dX3_run_104 : decode cX3_run 104 = .ok (.bipush 64, 2) := by decide +kernel
theorem dX3_run_106 : decode cX3_run 106 = .ok (.if_icmp .lt 5, 3) := by decide +kernel
theorem dX3_run_109 : decode cX3_run 109 = .ok (.iconst 0, 1) := by decide +kernel
theorem dX3_run_110 : decode cX3_run 110 = .ok (.ireturn, 1) := by decide +kernel
theorem dX3_run_111 : decode cX3_run 111 = .ok (.aload_n 0, 1) := by decide +kernel
theorem dX3_run_112 : decode cX3_run 112 = .ok (.getfield 34, 3) := by decide +kernel
theorem dX3_run_115 : decode cX3_run 115 = .ok (.iload_n 3, 1) := by decide +kernel
theorem dX3_run_116 : decode cX3_run 116 = .ok (.iload 5, 2) := by decide +kernel
theorem dX3_run_118 : decode cX3_run 118 = .ok (.iconst 1, 1) := by decide +kernel
theorem dX3_run_119 : decode cX3_run 119 = .ok (.if_icmp .ne 8, 3) := by decide +kernel
theorem dX3_run_122 : decode cX3_run 122 = .ok (.iload 6, 2) := by decide +kernel
theorem dX3_run_124 : decode cX3_run 124 = .ok (.goto 23, 3) := by decide +kernel
theorem dX3_run_127 : decode cX3_run 127 = .ok (.iload 6, 2) := by decide +kernel
theorem dX3_run_129 : decode cX3_run 129 = .ok (.ifCond .lt 17, 3) := by decide +kernel
theorem dX3_run_132 : decode cX3_run 132 = .ok (.iload 6, 2) := by decide +kernel
theorem dX3_run_134 : decode cX3_run 134 = .ok (.aload_n 2, 1) := by decide +kernel
theorem dX3_run_135 : decode cX3_run 135 = .ok (.arraylength, 1) := by decide +kernel
theorem dX3_run_136 : decode cX3_run 136 = .ok (.if_icmp .ge 10, 3) := by decide +kernel
theorem dX3_run_139 : decode cX3_run 139 = .ok (.aload_n 2, 1) := by decide +kernel
theorem dX3_run_140 : decode cX3_run 140 = .ok (.iload 6, 2) := by decide +kernel
theorem dX3_run_142 : decode cX3_run 142 = .ok (.iaload, 1) := by decide +kernel
theorem dX3_run_143 : decode cX3_run 143 = .ok (.goto 4, 3) := by decide +kernel
theorem dX3_run_146 : decode cX3_run 146 = .ok (.iconst 0, 1) := by decide +kernel
theorem dX3_run_147 : decode cX3_run 147 = .ok (.iastore, 1) := by decide +kernel
theorem dX3_run_148 : decode cX3_run 148 = .ok (.iinc 3 1, 3) := by decide +kernel
theorem dX3_run_151 : decode cX3_run 151 = .ok (.goto 272, 3) := by decide +kernel
theorem dX3_run_154 : decode cX3_run 154 = .ok (.iload 5, 2) := by decide +kernel
theorem dX3_run_156 : decode cX3_run 156 = .ok (.iconst 3, 1) := by decide +kernel
theorem dX3_run_157 : decode cX3_run 157 = .ok (.if_icmp .ne 22, 3) := by decide +kernel
theorem dX3_run_160 : decode cX3_run 160 = .ok (.aload_n 0, 1) := by decide +kernel
theorem dX3_run_161 : decode cX3_run 161 = .ok (.aload_n 0, 1) := by decide +kernel
theorem dX3_run_162 : decode cX3_run 162 = .ok (.getfield 37, 3) := by decide +kernel
theorem dX3_run_165 : decode cX3_run 165 = .ok (.ifCond .ne 7, 3) := by decide +kernel
theorem dX3_run_168 : decode cX3_run 168 = .ok (.iconst 1, 1) := by decide +kernel
theorem dX3_run_169 : decode cX3_run 169 = .ok (.goto 4, 3) := by decide +kernel
theorem dX3_run_172 : decode cX3_run 172 = .ok (.iconst 0, 1) := by decide +kernel
theorem dX3_run_173 : decode cX3_run 173 = .ok (.putfield 37, 3) := by decide +kernel
theorem dX3_run_176 : decode cX3_run 176 = .ok (.goto 247, 3) := by decide +kernel
theorem dX3_run_179 : decode cX3_run 179 = .ok (.iload 5, 2) := by decide +kernel
theorem dX3_run_181 : decode cX3_run 181 = .ok (.iconst 4, 1) := by decide +kernel
theorem dX3_run_182 : decode cX3_run 182 = .ok (.if_icmp .eq 9, 3) := by decide +kernel
theorem dX3_run_185 : decode cX3_run 185 = .ok (.iload 5, 2) := by decide +kernel
theorem dX3_run_187 : decode cX3_run 187 = .ok (.iconst 5, 1) := by decide +kernel
theorem dX3_run_188 : decode cX3_run 188 = .ok (.if_icmp .ne 40, 3) := by decide +kernel
theorem dX3_run_191 : decode cX3_run 191 = .ok (.aload_n 0, 1) := by decide +kernel
theorem dX3_run_192 : decode cX3_run 192 = .ok (.getfield 37, 3) := by decide +kernel
theorem dX3_run_195 : decode cX3_run 195 = .ok (.iload 5, 2) := by decide +kernel
theorem dX3_run_197 : decode cX3_run 197 = .ok (.iconst 4, 1) := by decide +kernel
theorem dX3_run_198 : decode cX3_run 198 = .ok (.if_icmp .ne 7, 3) := by decide +kernel
theorem dX3_run_201 : decode cX3_run 201 = .ok (.iconst 1, 1) := by decide +kernel
theorem dX3_run_202 : decode cX3_run 202 = .ok (.goto 4, 3) := by decide +kernel
theorem dX3_run_205 : decode cX3_run 205 = .ok (.iconst 0, 1) := by decide +kernel
theorem dX3_run_206 : decode cX3_run 206 = .ok (.if_icmp .ne 15, 3) := by decide +kernel
theorem dX3_run_209 : decode cX3_run 209 = .ok (.iload 4, 2) := by decide +kernel
theorem dX3_run_211 : decode cX3_run 211 = .ok (.iload 6, 2) := by decide +kernel
theorem dX3_run_213 : decode cX3_run 213 = .ok (.iconst 1, 1) := by decide +kernel
theorem dX3_run_214 : decode cX3_run 214 = .ok (.isub, 1) := by decide +kernel
theorem dX3_run_215 : decode cX3_run 215 = .ok (.invokestatic 66, 3) := by decide +kernel
theorem dX3_run_218 : decode cX3_run 218 = .ok (.goto 5, 3) := by decide +kernel
theorem dX3_run_221 : decode cX3_run 221 = .ok (.iload 4, 2) := by decide +kernel
theorem dX3_run_223 : decode cX3_run 223 = .ok (.istore 4, 2) := by decide +kernel
theorem dX3_run_225 : decode cX3_run 225 = .ok (.goto 198, 3) := by decide +kernel
theorem dX3_run_228 : decode cX3_run 228 = .ok (.iload_n 3, 1) := by decide +kernel
theorem dX3_run_229 : decode cX3_run 229 = .ok (.iconst 2, 1) := by decide +kernel
theorem dX3_run_230 : decode cX3_run 230 = .ok (.if_icmp .lt 9, 3) := by decide +kernel
theorem dX3_run_233 : decode cX3_run 233 = .ok (.iload_n 3, 1) := by decide +kernel
theorem dX3_run_234 : decode cX3_run 234 = .ok (.bipush 64, 2) := by decide +kernel
theorem dX3_run_236 : decode cX3_run 236 = .ok (.if_icmp .le 5, 3) := by decide +kernel
theorem dX3_run_239 : decode cX3_run 239 = .ok (.iconst 0, 1) := by decide +kernel
theorem dX3_run_240 : decode cX3_run 240 = .ok (.ireturn, 1) := by decide +kernel
theorem dX3_run_241 : decode cX3_run 241 = .ok (.iinc 3 (-1), 3) := by decide +kernel
theorem dX3_run_244 : decode cX3_run 244 = .ok (.aload_n 0, 1) := by decide +kernel
theorem dX3_run_245 : decode cX3_run 245 = .ok (.getfield 34, 3) := by decide +kernel
theorem dX3_run_248 : decode cX3_run 248 = .ok (.iload_n 3, 1) := by decide +kernel
theorem dX3_run_249 : decode cX3_run 249 = .ok (.iaload, 1) := by decide +kernel
theorem dX3_run_250 : decode cX3_run 250 = .ok (.istore 7, 2) := by decide +kernel
theorem dX3_run_252 : decode cX3_run 252 = .ok (.aload_n 0, 1) := by decide +kernel
theorem dX3_run_253 : decode cX3_run 253 = .ok (.getfield 34, 3) := by decide +kernel
theorem dX3_run_256 : decode cX3_run 256 = .ok (.iload_n 3, 1) := by decide +kernel
theorem dX3_run_257 : decode cX3_run 257 = .ok (.iconst 1, 1) := by decide +kernel
theorem dX3_run_258 : decode cX3_run 258 = .ok (.isub, 1) := by decide +kernel
theorem dX3_run_259 : decode cX3_run 259 = .ok (.iaload, 1) := by decide +kernel
theorem dX3_run_260 : decode cX3_run 260 = .ok (.istore 8, 2) := by decide +kernel
theorem dX3_run_262 : decode cX3_run 262 = .ok (.iload 5, 2) := by decide +kernel
theorem dX3_run_264 : decode cX3_run 264 = .ok (.bipush 11, 2) := by decide +kernel
theorem dX3_run_266 : decode cX3_run 266 = .ok (.if_icmp .lt 69, 3) := by decide +kernel
theorem dX3_run_269 : decode cX3_run 269 = .ok (.iinc 3 (-1), 3) := by decide +kernel
theorem dX3_run_272 : decode cX3_run 272 = .ok (.aload_n 0, 1) := by decide +kernel
theorem dX3_run_273 : decode cX3_run 273 = .ok (.iload 5, 2) := by decide +kernel
theorem dX3_run_275 : decode cX3_run 275 = .ok (.bipush 11, 2) := by decide +kernel
theorem dX3_run_277 : decode cX3_run 277 = .ok (.if_icmp .ne 18, 3) := by decide +kernel
theorem dX3_run_280 : decode cX3_run 280 = .ok (.iload 8, 2) := by decide +kernel
theorem dX3_run_282 : decode cX3_run 282 = .ok (.iload 7, 2) := by decide +kernel
theorem dX3_run_284 : decode cX3_run 284 = .ok (.if_icmp .ge 7, 3) := by decide +kernel
theorem dX3_run_287 : decode cX3_run 287 = .ok (.iconst 1, 1) := by decide +kernel
theorem dX3_run_288 : decode cX3_run 288 = .ok (.goto 41, 3) := by decide +kernel
theorem dX3_run_291 : decode cX3_run 291 = .ok (.iconst 0, 1) := by decide +kernel
theorem dX3_run_292 : decode cX3_run 292 = .ok (.goto 37, 3) := by decide +kernel
theorem dX3_run_295 : decode cX3_run 295 = .ok (.iload 5, 2) := by decide +kernel
theorem dX3_run_297 : decode cX3_run 297 = .ok (.bipush 12, 2) := by decide +kernel
theorem dX3_run_299 : decode cX3_run 299 = .ok (.if_icmp .ne 18, 3) := by decide +kernel
theorem dX3_run_302 : decode cX3_run 302 = .ok (.iload 8, 2) := by decide +kernel
theorem dX3_run_304 : decode cX3_run 304 = .ok (.iload 7, 2) := by decide +kernel
theorem dX3_run_306 : decode cX3_run 306 = .ok (.if_icmp .le 7, 3) := by decide +kernel
theorem dX3_run_309 : decode cX3_run 309 = .ok (.iconst 1, 1) := by decide +kernel
theorem dX3_run_310 : decode cX3_run 310 = .ok (.goto 19, 3) := by decide +kernel
theorem dX3_run_313 : decode cX3_run 313 = .ok (.iconst 0, 1) := by decide +kernel
theorem dX3_run_314 : decode cX3_run 314 = .ok (.goto 15, 3) := by decide +kernel
theorem dX3_run_317 : decode cX3_run 317 = .ok (.iload 8, 2) := by decide +kernel
theorem dX3_run_319 : decode cX3_run 319 = .ok (.iload 7, 2) := by decide +kernel
theorem dX3_run_321 : decode cX3_run 321 = .ok (.if_icmp .ne 7, 3) := by decide +kernel
theorem dX3_run_324 : decode cX3_run 324 = .ok (.iconst 1, 1) := by decide +kernel
theorem dX3_run_325 : decode cX3_run 325 = .ok (.goto 4, 3) := by decide +kernel
theorem dX3_run_328 : decode cX3_run 328 = .ok (.iconst 0, 1) := by decide +kernel
theorem dX3_run_329 : decode cX3_run 329 = .ok (.putfield 37, 3) := by decide +kernel
theorem dX3_run_332 : decode cX3_run 332 = .ok (.goto 91, 3) := by decide +kernel
theorem dX3_run_335 : decode cX3_run 335 = .ok (.iload 5, 2) := by decide +kernel
theorem dX3_run_337 : decode cX3_run 337 = .ok (.bipush 9, 2) := by decide +kernel
theorem dX3_run_339 : decode cX3_run 339 = .ok (.if_icmp .lt 41, 3) := by decide +kernel
theorem dX3_run_342 : decode cX3_run 342 = .ok (.iload 7, 2) := by decide +kernel
theorem dX3_run_344 : decode cX3_run 344 = .ok (.ifCond .ne 5, 3) := by decide +kernel
theorem dX3_run_347 : decode cX3_run 347 = .ok (.iconst 0, 1) := by decide +kernel
theorem dX3_run_348 : decode cX3_run 348 = .ok (.ireturn, 1) := by decide +kernel
theorem dX3_run_349 : decode cX3_run 349 = .ok (.aload_n 0, 1) := by decide +kernel
theorem dX3_run_350 : decode cX3_run 350 = .ok (.getfield 34, 3) := by decide +kernel
theorem dX3_run_353 : decode cX3_run 353 = .ok (.iload_n 3, 1) := by decide +kernel
theorem dX3_run_354 : decode cX3_run 354 = .ok (.iconst 1, 1) := by decide +kernel
theorem dX3_run_355 : decode cX3_run 355 = .ok (.isub, 1) := by decide +kernel
theorem dX3_run_356 : decode cX3_run 356 = .ok (.iload 5, 2) := by decide +kernel
theorem dX3_run_358 : decode cX3_run 358 = .ok (.bipush 9, 2) := by decide +kernel
theorem dX3_run_360 : decode cX3_run 360 = .ok (.if_icmp .ne 11, 3) := by decide +kernel
theorem dX3_run_363 : decode cX3_run 363 = .ok (.iload 8, 2) := by decide +kernel
theorem dX3_run_365 : decode cX3_run 365 = .ok (.iload 7, 2) := by decide +kernel
theorem dX3_run_367 : decode cX3_run 367 = .ok (.idiv, 1) := by decide +kernel
theorem dX3_run_368 : decode cX3_run 368 = .ok (.goto 8, 3) := by decide +kernel
theorem dX3_run_371 : decode cX3_run 371 = .ok (.iload 8, 2) := by decide +kernel
theorem dX3_run_373 : decode cX3_run 373 = .ok (.iload 7, 2) := by decide +kernel
theorem dX3_run_375 : decode cX3_run 375 = .ok (.irem, 1) := by decide +kernel
theorem dX3_run_376 : decode cX3_run 376 = .ok (.iastore, 1) := by decide +kernel
theorem dX3_run_377 : decode cX3_run 377 = .ok (.goto 46, 3) := by decide +kernel
theorem dX3_run_380 : decode cX3_run 380 = .ok (.aload_n 0, 1) := by decide +kernel
theorem dX3_run_381 : decode cX3_run 381 = .ok (.getfield 34, 3) := by decide +kernel
theorem dX3_run_384 : decode cX3_run 384 = .ok (.iload_n 3, 1) := by decide +kernel
theorem dX3_run_385 : decode cX3_run 385 = .ok (.iconst 1, 1) := by decide +kernel
theorem dX3_run_386 : decode cX3_run 386 = .ok (.isub, 1) := by decide +kernel
theorem dX3_run_387 : decode cX3_run 387 = .ok (.iload 5, 2) := by decide +kernel
theorem dX3_run_389 : decode cX3_run 389 = .ok (.bipush 6, 2) := by decide +kernel
theorem dX3_run_391 : decode cX3_run 391 = .ok (.if_icmp .ne 11, 3) := by decide +kernel
theorem dX3_run_394 : decode cX3_run 394 = .ok (.iload 8, 2) := by decide +kernel
theorem dX3_run_396 : decode cX3_run 396 = .ok (.iload 7, 2) := by decide +kernel
theorem dX3_run_398 : decode cX3_run 398 = .ok (.iadd, 1) := by decide +kernel
theorem dX3_run_399 : decode cX3_run 399 = .ok (.goto 23, 3) := by decide +kernel
theorem dX3_run_402 : decode cX3_run 402 = .ok (.iload 5, 2) := by decide +kernel
theorem dX3_run_404 : decode cX3_run 404 = .ok (.bipush 7, 2) := by decide +kernel
theorem dX3_run_406 : decode cX3_run 406 = .ok (.if_icmp .ne 11, 3) := by decide +kernel
theorem dX3_run_409 : decode cX3_run 409 = .ok (.iload 8, 2) := by decide +kernel
theorem dX3_run_411 : decode cX3_run 411 = .ok (.iload 7, 2) := by decide +kernel
theorem dX3_run_413 : decode cX3_run 413 = .ok (.isub, 1) := by decide +kernel
theorem dX3_run_414 : decode cX3_run 414 = .ok (.goto 8, 3) := by decide +kernel
theorem dX3_run_417 : decode cX3_run 417 = .ok (.iload 8, 2) := by decide +kernel
theorem dX3_run_419 : decode cX3_run 419 = .ok (.iload 7, 2) := by decide +kernel
theorem dX3_run_421 : decode cX3_run 421 = .ok (.imul, 1) := by decide +kernel
theorem dX3_run_422 : decode cX3_run 422 = .ok (.iastore, 1) := by decide +kernel
theorem dX3_run_423 : decode cX3_run 423 = .ok (.iinc 4 1, 3) := by decide +kernel
theorem dX3_run_426 : decode cX3_run 426 = .ok (.goto (-407), 3) := by decide +kernel
theorem dX3_run_429 : decode cX3_run 429 = .ok (.iconst 0, 1) := by decide +kernel
theorem dX3_run_430 : decode cX3_run 430 = .ok (.ireturn, 1) := by decide +kernel
theorem dX4_init_0 : decode cX4_init 0 = .ok (.aload_n 0, 1) := by decide +kernel
theorem dX4_init_1 : decode cX4_init 1 = .ok (.invokespecial 3, 3) := by decide +kernel
theorem dX4_init_4 : decode cX4_init 4 = .ok (.aload_n 0, 1) := by decide +kernel
theorem dX4_init_5 : decode cX4_init 5 = .ok (.new 9, 3) := by decide +kernel
theorem dX4_init_8 : decode cX4_init 8 = .ok (.dup, 1) := by decide +kernel
theorem dX4_init_9 : decode cX4_init 9 = .ok (.invokespecial 11, 3) := by decide +kernel
theorem dX4_init_12 : decode cX4_init 12 = .ok (.putfield 12, 3) := by decide +kernel
theorem dX4_init_15 : decode cX4_init 15 = .ok (.aload_n 0, 1) := by decide +kernel
theorem dX4_init_16 : decode cX4_init 16 = .ok (.new 18, 3) := by decide +kernel
theorem dX4_init_19 : decode cX4_init 19 = .ok (.dup, 1) := by decide +kernel
theorem dX4_init_20 : decode cX4_init 20 = .ok (.invokespecial 20, 3) := by decide +kernel
theorem dX4_init_23 : decode cX4_init 23 = .ok (.putfield 21, 3) := by decide +kernel
theorem dX4_init_26 : decode cX4_init 26 = .ok (.aload_n 0, 1) := by decide +kernel
theorem dX4_init_27 : decode cX4_init 27 = .ok (.iconst 0, 1) := by decide +kernel
theorem dX4_init_28 : decode cX4_init 28 = .ok (.putfield 25, 3) := by decide +kernel
theorem dX4_init_31 : decode cX4_init 31 = .ok (.aload_n 0, 1) := by decide +kernel
theorem dX4_init_32 : decode cX4_init 32 = .ok (.iconst 0, 1) := by decide +kernel
theorem dX4_init_33 : decode cX4_init 33 = .ok (.putfield 29, 3) := by decide +kernel
theorem dX4_init_36 : decode cX4_init 36 = .ok (.aload_n 0, 1) := by decide +kernel
theorem dX4_init_37 : decode cX4_init 37 = .ok (.iconst (-1), 1) := by decide +kernel
theorem dX4_init_38 : decode cX4_init 38 = .ok (.putfield 32, 3) := by decide +kernel
theorem dX4_init_41 : decode cX4_init 41 = .ok (.aload_n 0, 1) := by decide +kernel
theorem dX4_init_42 : decode cX4_init 42 = .ok (.iconst 0, 1) := by decide +kernel
theorem dX4_init_43 : decode cX4_init 43 = .ok (.putfield 35, 3) := by decide +kernel
theorem dX4_init_46 : decode cX4_init 46 = .ok (.return_, 1) := by decide +kernel
theorem dX4_read_0 : decode cX4_read 0 = .ok (.aload_n 0, 1) := by decide +kernel
theorem dX4_read_1 : decode cX4_read 1 = .ok (.getfield 21, 3) := by decide +kernel
theorem dX4_read_4 : decode cX4_read 4 = .ok (.invokevirtual 38, 3) := by decide +kernel
theorem dX4_read_7 : decode cX4_read 7 = .ok (.aload_n 0, 1) := by decide +kernel
theorem dX4_read_8 : decode cX4_read 8 = .ok (.iload_n 1, 1) := by decide +kernel
theorem dX4_read_9 : decode cX4_read 9 = .ok (.putfield 29, 3) := by decide +kernel
theorem dX4_read_12 : decode cX4_read 12 = .ok (.aload_n 0, 1) := by decide +kernel
theorem dX4_read_13 : decode cX4_read 13 = .ok (.iconst 0, 1) := by decide +kernel
theorem dX4_read_14 : decode cX4_read 14 = .ok (.invokevirtual 41, 3) := by decide +kernel
theorem dX4_read_17 : decode cX4_read 17 = .ok (.aload_n 0, 1) := by decide +kernel
theorem dX4_read_18 : decode cX4_read 18 = .ok (.iconst 0, 1) := by decide +kernel
theorem dX4_read_19 : decode cX4_read 19 = .ok (.putfield 35, 3) := by decide +kernel
theorem dX4_read_22 : decode cX4_read 22 = .ok (.iconst 0, 1) := by decide +kernel
theorem dX4_read_23 : decode cX4_read 23 = .ok (.istore_n 2, 1) := by decide +kernel
theorem dX4_read_24 : decode cX4_read 24 = .ok (.iload_n 2, 1) := by decide +kernel
theorem dX4_read_25 : decode cX4_read 25 = .ok (.bipush 16, 2) := by decide +kernel
theorem dX4_read_27 : decode cX4_read 27 = .ok (.if_icmp .gt 51, 3) := by decide +kernel
theorem dX4_read_30 : decode cX4_read 30 = .ok (.aload_n 0, 1) := by decide +kernel
theorem dX4_read_31 : decode cX4_read 31 = .ok (.invokevirtual 45, 3) := by decide +kernel
theorem dX4_read_34 : decode cX4_read 34 = .ok (.ifCond .ne 8, 3) := by decide +kernel
theorem dX4_read_37 : decode cX4_read 37 = .ok (.aload_n 0, 1) := by decide +kernel
theorem dX4_read_38 : decode cX4_read 38 = .ok (.getfield 35, 3) := by decide +kernel
theorem dX4_read_41 : decode cX4_read 41 = .ok (.ireturn, 1) := by decide +kernel
theorem dX4_read_42 : decode cX4_read 42 = .ok (.aload_n 0, 1) := by decide +kernel
theorem dX4_read_43 : decode cX4_read 43 = .ok (.getfield 32, 3) := by decide +kernel
theorem dX4_read_46 : decode cX4_read 46 = .ok (.iconst (-1), 1) := by decide +kernel
theorem dX4_read_47 : decode cX4_read 47 = .ok (.if_icmp .ne 11, 3) := by decide +kernel
theorem dX4_read_50 : decode cX4_read 50 = .ok (.aload_n 0, 1) := by decide +kernel
theorem dX4_read_51 : decode cX4_read 51 = .ok (.getfield 21, 3) := by decide +kernel
theorem dX4_read_54 : decode cX4_read 54 = .ok (.getfield 49, 3) := by decide +kernel
theorem dX4_read_57 : decode cX4_read 57 = .ok (.ireturn, 1) := by decide +kernel
theorem dX4_read_58 : decode cX4_read 58 = .ok (.aload_n 0, 1) := by decide +kernel
theorem dX4_read_59 : decode cX4_read 59 = .ok (.bipush 59, 2) := by decide +kernel
theorem dX4_read_61 : decode cX4_read 61 = .ok (.invokevirtual 52, 3) := by decide +kernel
theorem dX4_read_64 : decode cX4_read 64 = .ok (.ifCond .ne 8, 3) := by decide +kernel
theorem dX4_read_67 : decode cX4_read 67 = .ok (.aload_n 0, 1) := by decide +kernel
theorem dX4_read_68 : decode cX4_read 68 = .ok (.getfield 35, 3) := by decide +kernel
theorem dX4_read_71 : decode cX4_read 71 = .ok (.ireturn, 1) := by decide +kernel
theorem dX4_read_72 : decode cX4_read 72 = .ok (.iinc 2 1, 3) := by decide +kernel
theorem dX4_read_75 : decode cX4_read 75 = .ok (.goto (-51), 3) := by decide +kernel
theorem dX4_read_78 : decode cX4_read 78 = .ok (.aload_n 0, 1) := by decide +kernel
theorem dX4_read_79 : decode cX4_read 79 = .ok (.getfield 35, 3) := by decide +kernel
theorem dX4_read_82 : decode cX4_read 82 = .ok (.ireturn, 1) := by decide +kernel
theorem dX4_readClause_0 : decode cX4_readClause 0 = .ok (.aload_n 0, 1) := by decide +kernel
theorem dX4_readClause_1 : decode cX4_readClause 1 = .ok (.ldc 56, 2) := by decide +kernel
theorem dX4_readClause_3 : decode cX4_readClause 3 = .ok (.invokevirtual 58, 3) := by decide +kernel
theorem dX4_readClause_6 : decode cX4_readClause 6 = .ok (.istore_n 1, 1) := by decide +kernel
theorem dX4_readClause_7 : decode cX4_readClause 7 = .ok (.iload_n 1, 1) := by decide +kernel
theorem dX4_readClause_8 : decode cX4_readClause 8 = .ok (.iconst (-1), 1) := by decide +kernel
theorem dX4_readClause_9 : decode cX4_readClause 9 = .ok (.if_icmp .ne 9, 3) := by decide +kernel
theorem dX4_readClause_12 : decode cX4_readClause 12 = .ok (.aload_n 0, 1) := by decide +kernel
theorem dX4_readClause_13 : decode cX4_readClause 13 = .ok (.iconst 1, 1) := by decide +kernel
theorem dX4_readClause_14 : decode cX4_readClause 14 = .ok (.invokevirtual 62, 3) := by decide +kernel
theorem dX4_readClause_17 : decode cX4_readClause 17 = .ok (.ireturn, 1) := by decide +kernel
theorem dX4_readClause_18 : decode cX4_readClause 18 = .ok (.aload_n 0, 1) := by decide +kernel
theorem dX4_readClause_19 : decode cX4_readClause 19 = .ok (.getfield 21, 3) := by decide +kernel
theorem dX4_readClause_22 : decode cX4_readClause 22 = .ok (.getfield 49, 3) := by decide +kernel
theorem dX4_readClause_25 : decode cX4_readClause 25 = .ok (.bipush 16, 2) := by decide +kernel
theorem dX4_readClause_27 : decode cX4_readClause 27 = .ok (.if_icmp .lt 9, 3) := by decide +kernel
theorem dX4_readClause_30 : decode cX4_readClause 30 = .ok (.aload_n 0, 1) := by decide +kernel
theorem dX4_readClause_31 : decode cX4_readClause 31 = .ok (.iconst 4, 1) := by decide +kernel
theorem dX4_readClause_32 : decode cX4_readClause 32 = .ok (.invokevirtual 62, 3) := by decide +kernel
theorem dX4_readClause_35 : decode cX4_readClause 35 = .ok (.ireturn, 1) := by decide +kernel
theorem dX4_readClause_36 : decode cX4_readClause 36 = .ok (.aload_n 0, 1) := by decide +kernel
theorem dX4_readClause_37 : decode cX4_readClause 37 = .ok (.aload_n 0, 1) := by decide +kernel
theorem dX4_readClause_38 : decode cX4_readClause 38 = .ok (.getfield 25, 3) := by decide +kernel
theorem dX4_readClause_41 : decode cX4_readClause 41 = .ok (.iconst 1, 1) := by decide +kernel
theorem dX4_readClause_42 : decode cX4_readClause 42 = .ok (.iadd, 1) := by decide +kernel
theorem dX4_readClause_43 : decode cX4_readClause 43 = .ok (.invokevirtual 41, 3) := by decide +kernel
theorem dX4_readClause_46 : decode cX4_readClause 46 = .ok (.aload_n 0, 1) := by decide +kernel
theorem dX4_readClause_47 : decode cX4_readClause 47 = .ok (.getfield 21, 3) := by decide +kernel
theorem dX4_readClause_50 : decode cX4_readClause 50 = .ok (.getfield 65, 3) := by decide +kernel
theorem dX4_readClause_53 : decode cX4_readClause 53 = .ok (.istore_n 2, 1) := by decide +kernel
theorem dX4_readClause_54 : decode cX4_readClause 54 = .ok (.aload_n 0, 1) := by decide +kernel
theorem dX4_readClause_55 : decode cX4_readClause 55 = .ok (.iconst 0, 1) := by decide +kernel
theorem dX4_readClause_56 : decode cX4_readClause 56 = .ok (.invokevirtual 68, 3) := by decide +kernel
theorem dX4_readClause_59 : decode cX4_readClause 59 = .ok (.ifCond .ne 5, 3) := by decide +kernel
theorem dX4_readClause_62 : decode cX4_readClause 62 = .ok (.iconst 0, 1) := by decide +kernel
theorem dX4_readClause_63 : decode cX4_readClause 63 = .ok (.ireturn, 1) := by decide +kernel
theorem dX4_readClause_64 : decode cX4_readClause 64 = .ok (.aload_n 0, 1) := by decide +kernel
theorem dX4_readClause_65 : decode cX4_readClause 65 = .ok (.getfield 21, 3) := by decide +kernel
theorem dX4_readClause_68 : decode cX4_readClause 68 = .ok (.iconst 0, 1) := by decide +kernel
theorem dX4_readClause_69 : decode cX4_readClause 69 = .ok (.iconst 0, 1) := by decide +kernel
theorem dX4_readClause_70 : decode cX4_readClause 70 = .ok (.invokevirtual 71, 3) := by decide +kernel
theorem dX4_readClause_73 : decode cX4_readClause 73 = .ok (.pop, 1) := by decide +kernel
theorem dX4_readClause_74 : decode cX4_readClause 74 = .ok (.aload_n 0, 1) := by decide +kernel
theorem dX4_readClause_75 : decode cX4_readClause 75 = .ok (.getfield 21, 3) := by decide +kernel
theorem dX4_readClause_78 : decode cX4_readClause 78 = .ok (.getfield 65, 3) := by decide +kernel
theorem dX4_readClause_81 : decode cX4_readClause 81 = .ok (.istore_n 3, 1) := by decide +kernel
theorem dX4_readClause_82 : decode cX4_readClause 82 = .ok (.aload_n 0, 1) := by decide +kernel
theorem dX4_readClause_83 : decode cX4_readClause 83 = .ok (.bipush 40, 2) := by decide +kernel
theorem dX4_readClause_85 : decode cX4_readClause 85 = .ok (.invokevirtual 52, 3) := by decide +kernel
theorem dX4_readClause_88 : decode cX4_readClause 88 = .ok (.ifCond .eq 20, 3) := by decide +kernel
theorem dX4_readClause_91 : decode cX4_readClause 91 = .ok (.aload_n 0, 1) := by decide +kernel
theorem dX4_readClause_92 : decode cX4_readClause 92 = .ok (.iconst 1, 1) := by decide +kernel
theorem dX4_readClause_93 : decode cX4_readClause 93 = .ok (.invokevirtual 75, 3) := by decide +kernel
theorem dX4_readClause_96 : decode cX4_readClause 96 = .ok (.ifCond .eq 12, 3) := by decide +kernel
theorem dX4_readClause_99 : decode cX4_readClause 99 = .ok (.aload_n 0, 1) := by decide +kernel
theorem dX4_readClause_100 : decode cX4_readClause 100 = .ok (.bipush 41, 2) := by decide +kernel
theorem dX4_readClause_102 : decode cX4_readClause 102 = .ok (.invokevirtual 52, 3) := by decide +kernel
theorem dX4_readClause_105 : decode cX4_readClause 105 = .ok (.ifCond .ne 5, 3) := by decide +kernel
theorem dX4_readClause_108 : decode cX4_readClause 108 = .ok (.iconst 0, 1) := by decide +kernel
theorem dX4_readClause_109 : decode cX4_readClause 109 = .ok (.ireturn, 1) := by decide +kernel
theorem dX4_readClause_110 : decode cX4_readClause 110 = .ok (.aload_n 0, 1) := by decide +kernel
theorem dX4_readClause_111 : decode cX4_readClause 111 = .ok (.getfield 21, 3) := by decide +kernel
theorem dX4_readClause_114 : decode cX4_readClause 114 = .ok (.iconst 0, 1) := by decide +kernel
theorem dX4_readClause_115 : decode cX4_readClause 115 = .ok (.iconst 0, 1) := by decide +kernel
theorem dX4_readClause_116 : decode cX4_readClause 116 = .ok (.invokevirtual 71, 3) := by decide +kernel
theorem dX4_readClause_119 : decode cX4_readClause 119 = .ok (.pop, 1) := by decide +kernel
theorem dX4_readClause_120 : decode cX4_readClause 120 = .ok (.aload_n 0, 1) := by decide +kernel
theorem dX4_readClause_121 : decode cX4_readClause 121 = .ok (.getfield 21, 3) := by decide +kernel
theorem dX4_readClause_124 : decode cX4_readClause 124 = .ok (.iload_n 1, 1) := by decide +kernel
theorem dX4_readClause_125 : decode cX4_readClause 125 = .ok (.iload_n 2, 1) := by decide +kernel
theorem dX4_readClause_126 : decode cX4_readClause 126 = .ok (.iload_n 3, 1) := by decide +kernel
theorem dX4_readClause_127 : decode cX4_readClause 127 = .ok (.invokevirtual 78, 3) := by decide +kernel
theorem dX4_readClause_130 : decode cX4_readClause 130 = .ok (.iconst 1, 1) := by decide +kernel
theorem dX4_readClause_131 : decode cX4_readClause 131 = .ok (.ireturn, 1) := by decide +kernel
theorem dX4_readChoice_0 : decode cX4_readChoice 0 = .ok (.iconst (-1), 1) := by decide +kernel
theorem dX4_readChoice_1 : decode cX4_readChoice 1 = .ok (.istore_n 2, 1) := by decide +kernel
theorem dX4_readChoice_2 : decode cX4_readChoice 2 = .ok (.iconst 0, 1) := by decide +kernel
theorem dX4_readChoice_3 : decode cX4_readChoice 3 = .ok (.istore_n 3, 1) := by decide +kernel
theorem dX4_readChoice_4 : decode cX4_readChoice 4 = .ok (.iload_n 3, 1) := by decide +kernel
theorem dX4_readChoice_5 : decode cX4_readChoice 5 = .ok (.sipush 240, 3) := by decide +kernel
theorem dX4_readChoice_8 : decode cX4_readChoice 8 = .ok (.if_icmp .ge 58, 3) := by decide +kernel
theorem dX4_readChoice_11 : decode cX4_readChoice 11 = .ok (.aload_n 0, 1) := by decide +kernel
theorem dX4_readChoice_12 : decode cX4_readChoice 12 = .ok (.iload_n 1, 1) := by decide +kernel
theorem dX4_readChoice_13 : decode cX4_readChoice 13 = .ok (.invokevirtual 82, 3) := by decide +kernel
theorem dX4_readChoice_16 : decode cX4_readChoice 16 = .ok (.ifCond .ne 5, 3) := by decide +kernel
theorem dX4_readChoice_19 : decode cX4_readChoice 19 = .ok (.iconst 0, 1) := by decide +kernel
theorem dX4_readChoice_20 : decode cX4_readChoice 20 = .ok (.ireturn, 1) := by decide +kernel
theorem dX4_readChoice_21 : decode cX4_readChoice 21 = .ok (.aload_n 0, 1) := by decide +kernel
theorem dX4_readChoice_22 : decode cX4_readChoice 22 = .ok (.getfield 21, 3) := by decide +kernel
theorem dX4_readChoice_25 : decode cX4_readChoice 25 = .ok (.iload_n 2, 1) := by decide +kernel
theorem dX4_readChoice_26 : decode cX4_readChoice 26 = .ok (.invokevirtual 85, 3) := by decide +kernel
theorem dX4_readChoice_29 : decode cX4_readChoice 29 = .ok (.aload_n 0, 1) := by decide +kernel
theorem dX4_readChoice_30 : decode cX4_readChoice 30 = .ok (.getfield 32, 3) := by decide +kernel
theorem dX4_readChoice_33 : decode cX4_readChoice 33 = .ok (.bipush 124, 2) := by decide +kernel
theorem dX4_readChoice_35 : decode cX4_readChoice 35 = .ok (.if_icmp .eq 5, 3) := by decide +kernel
theorem dX4_readChoice_38 : decode cX4_readChoice 38 = .ok (.iconst 1, 1) := by decide +kernel
theorem dX4_readChoice_39 : decode cX4_readChoice 39 = .ok (.ireturn, 1) := by decide +kernel
theorem dX4_readChoice_40 : decode cX4_readChoice 40 = .ok (.aload_n 0, 1) := by decide +kernel
theorem dX4_readChoice_41 : decode cX4_readChoice 41 = .ok (.aload_n 0, 1) := by decide +kernel
theorem dX4_readChoice_42 : decode cX4_readChoice 42 = .ok (.getfield 25, 3) := by decide +kernel
theorem dX4_readChoice_45 : decode cX4_readChoice 45 = .ok (.iconst 1, 1) := by decide +kernel
theorem dX4_readChoice_46 : decode cX4_readChoice 46 = .ok (.iadd, 1) := by decide +kernel
theorem dX4_readChoice_47 : decode cX4_readChoice 47 = .ok (.invokevirtual 41, 3) := by decide +kernel
theorem dX4_readChoice_50 : decode cX4_readChoice 50 = .ok (.aload_n 0, 1) := by decide +kernel
theorem dX4_readChoice_51 : decode cX4_readChoice 51 = .ok (.getfield 21, 3) := by decide +kernel
theorem dX4_readChoice_54 : decode cX4_readChoice 54 = .ok (.iconst 4, 1) := by decide +kernel
theorem dX4_readChoice_55 : decode cX4_readChoice 55 = .ok (.iconst 0, 1) := by decide +kernel
theorem dX4_readChoice_56 : decode cX4_readChoice 56 = .ok (.invokevirtual 71, 3) := by decide +kernel
theorem dX4_readChoice_59 : decode cX4_readChoice 59 = .ok (.istore_n 2, 1) := by decide +kernel
theorem dX4_readChoice_60 : decode cX4_readChoice 60 = .ok (.iinc 3 1, 3) := by decide +kernel
theorem dX4_readChoice_63 : decode cX4_readChoice 63 = .ok (.goto (-59), 3) := by decide +kernel
theorem dX4_readChoice_66 : decode cX4_readChoice 66 = .ok (.aload_n 0, 1) := by decide +kernel
theorem dX4_readChoice_67 : decode cX4_readChoice 67 = .ok (.iconst 1, 1) := by decide +kernel
theorem dX4_readChoice_68 : decode cX4_readChoice 68 = .ok (.invokevirtual 62, 3) := by decide +kernel
theorem dX4_readChoice_71 : decode cX4_readChoice 71 = .ok (.ireturn, 1) := by decide +kernel
theorem dX4_readPart_0 : decode cX4_readPart 0 = .ok (.iconst (-1), 1) := by decide +kernel
theorem dX4_readPart_1 : decode cX4_readPart 1 = .ok (.istore_n 2, 1) := by decide +kernel
theorem dX4_readPart_2 : decode cX4_readPart 2 = .ok (.iconst 0, 1) := by decide +kernel
theorem dX4_readPart_3 : decode cX4_readPart 3 = .ok (.istore_n 3, 1) := by decide +kernel
theorem dX4_readPart_4 : decode cX4_readPart 4 = .ok (.iload_n 3, 1) := by decide +kernel
theorem dX4_readPart_5 : decode cX4_readPart 5 = .ok (.sipush 240, 3) := by decide +kernel
theorem dX4_readPart_8 : decode cX4_readPart 8 = .ok (.if_icmp .ge 58, 3) := by decide +kernel
theorem dX4_readPart_11 : decode cX4_readPart 11 = .ok (.aload_n 0, 1) := by decide +kernel
theorem dX4_readPart_12 : decode cX4_readPart 12 = .ok (.iload_n 1, 1) := by decide +kernel
theorem dX4_readPart_13 : decode cX4_readPart 13 = .ok (.invokevirtual 88, 3) := by decide +kernel
theorem dX4_readPart_16 : decode cX4_readPart 16 = .ok (.ifCond .ne 5, 3) := by decide +kernel
theorem dX4_readPart_19 : decode cX4_readPart 19 = .ok (.iconst 0, 1) := by decide +kernel
theorem dX4_readPart_20 : decode cX4_readPart 20 = .ok (.ireturn, 1) := by decide +kernel
theorem dX4_readPart_21 : decode cX4_readPart 21 = .ok (.aload_n 0, 1) := by decide +kernel
theorem dX4_readPart_22 : decode cX4_readPart 22 = .ok (.getfield 21, 3) := by decide +kernel
theorem dX4_readPart_25 : decode cX4_readPart 25 = .ok (.iload_n 2, 1) := by decide +kernel
theorem dX4_readPart_26 : decode cX4_readPart 26 = .ok (.invokevirtual 85, 3) := by decide +kernel
theorem dX4_readPart_29 : decode cX4_readPart 29 = .ok (.aload_n 0, 1) := by decide +kernel
theorem dX4_readPart_30 : decode cX4_readPart 30 = .ok (.getfield 32, 3) := by decide +kernel
theorem dX4_readPart_33 : decode cX4_readPart 33 = .ok (.bipush 38, 2) := by decide +kernel
theorem dX4_readPart_35 : decode cX4_readPart 35 = .ok (.if_icmp .eq 5, 3) := by decide +kernel
theorem dX4_readPart_38 : decode cX4_readPart 38 = .ok (.iconst 1, 1) := by decide +kernel
theorem dX4_readPart_39 : decode cX4_readPart 39 = .ok (.ireturn, 1) := by decide +kernel
theorem dX4_readPart_40 : decode cX4_readPart 40 = .ok (.aload_n 0, 1) := by decide +kernel
theorem dX4_readPart_41 : decode cX4_readPart 41 = .ok (.aload_n 0, 1) := by decide +kernel
theorem dX4_readPart_42 : decode cX4_readPart 42 = .ok (.getfield 25, 3) := by decide +kernel
theorem dX4_readPart_45 : decode cX4_readPart 45 = .ok (.iconst 1, 1) := by decide +kernel
theorem dX4_readPart_46 : decode cX4_readPart 46 = .ok (.iadd, 1) := by decide +kernel
theorem dX4_readPart_47 : decode cX4_readPart 47 = .ok (.invokevirtual 41, 3) := by decide +kernel
theorem dX4_readPart_50 : decode cX4_readPart 50 = .ok (.aload_n 0, 1) := by decide +kernel
theorem dX4_readPart_51 : decode cX4_readPart 51 = .ok (.getfield 21, 3) := by decide +kernel
theorem dX4_readPart_54 : decode cX4_readPart 54 = .ok (.iconst 5, 1) := by decide +kernel
theorem dX4_readPart_55 : decode cX4_readPart 55 = .ok (.iconst 0, 1) := by decide +kernel
theorem dX4_readPart_56 : decode cX4_readPart 56 = .ok (.invokevirtual 71, 3) := by decide +kernel
theorem dX4_readPart_59 : decode cX4_readPart 59 = .ok (.istore_n 2, 1) := by decide +kernel
theorem dX4_readPart_60 : decode cX4_readPart 60 = .ok (.iinc 3 1, 3) := by decide +kernel
theorem dX4_readPart_63 : decode cX4_readPart 63 = .ok (.goto (-59), 3) := by decide +kernel
theorem dX4_readPart_66 : decode cX4_readPart 66 = .ok (.aload_n 0, 1) := by decide +kernel
theorem dX4_readPart_67 : decode cX4_readPart 67 = .ok (.iconst 1, 1) := by decide +kernel
theorem dX4_readPart_68 : decode cX4_readPart 68 = .ok (.invokevirtual 62, 3) := by decide +kernel
theorem dX4_readPart_71 : decode cX4_readPart 71 = .ok (.ireturn, 1) := by decide +kernel
theorem dX4_readPiece_0 : decode cX4_readPiece 0 = .ok (.aload_n 0, 1) := by decide +kernel
theorem dX4_readPiece_1 : decode cX4_readPiece 1 = .ok (.getfield 32, 3) := by decide +kernel
theorem dX4_readPiece_4 : decode cX4_readPiece 4 = .ok (.bipush 33, 2) := by decide +kernel
theorem dX4_readPiece_6 : decode cX4_readPiece 6 = .ok (.if_icmp .eq 18, 3) := by decide +kernel
theorem dX4_readPiece_9 : decode cX4_readPiece 9 = .ok (.aload_n 0, 1) := by decide +kernel
theorem dX4_readPiece_10 : decode cX4_readPiece 10 = .ok (.getfield 32, 3) := by decide +kernel
theorem dX4_readPiece_13 : decode cX4_readPiece 13 = .ok (.bipush 40, 2) := by decide +kernel
theorem dX4_readPiece_15 : decode cX4_readPiece 15 = .ok (.if_icmp .eq 9, 3) := by decide +kernel
theorem dX4_readPiece_18 : decode cX4_readPiece 18 = .ok (.aload_n 0, 1) := by decide +kernel
theorem dX4_readPiece_19 : decode cX4_readPiece 19 = .ok (.iload_n 1, 1) := by decide +kernel
theorem dX4_readPiece_20 : decode cX4_readPiece 20 = .ok (.invokevirtual 91, 3) := by decide +kernel
theorem dX4_readPiece_23 : decode cX4_readPiece 23 = .ok (.ireturn, 1) := by decide +kernel
theorem dX4_readPiece_24 : decode cX4_readPiece 24 = .ok (.iload_n 1, 1) := by decide +kernel
theorem dX4_readPiece_25 : decode cX4_readPiece 25 = .ok (.bipush 6, 2) := by decide +kernel
theorem dX4_readPiece_27 : decode cX4_readPiece 27 = .ok (.if_icmp .lt 9, 3) := by decide +kernel
theorem dX4_readPiece_30 : decode cX4_readPiece 30 = .ok (.aload_n 0, 1) := by decide +kernel
theorem dX4_readPiece_31 : decode cX4_readPiece 31 = .ok (.iconst 5, 1) := by decide +kernel
theorem dX4_readPiece_32 : decode cX4_readPiece 32 = .ok (.invokevirtual 62, 3) := by decide +kernel
theorem dX4_readPiece_35 : decode cX4_readPiece 35 = .ok (.ireturn, 1) := by decide +kernel
theorem dX4_readPiece_36 : decode cX4_readPiece 36 = .ok (.aload_n 0, 1) := by decide +kernel
theorem dX4_readPiece_37 : decode cX4_readPiece 37 = .ok (.getfield 32, 3) := by decide +kernel
theorem dX4_readPiece_40 : decode cX4_readPiece 40 = .ok (.bipush 33, 2) := by decide +kernel
theorem dX4_readPiece_42 : decode cX4_readPiece 42 = .ok (.if_icmp .ne 7, 3) := by decide +kernel
theorem dX4_readPiece_45 : decode cX4_readPiece 45 = .ok (.iconst 1, 1) := by decide +kernel
theorem dX4_readPiece_46 : decode cX4_readPiece 46 = .ok (.goto 4, 3) := by decide +kernel
theorem dX4_readPiece_49 : decode cX4_readPiece 49 = .ok (.iconst 0, 1) := by decide +kernel
theorem dX4_readPiece_50 : decode cX4_readPiece 50 = .ok (.istore_n 2, 1) := by decide +kernel
theorem dX4_readPiece_51 : decode cX4_readPiece 51 = .ok (.aload_n 0, 1) := by decide +kernel
theorem dX4_readPiece_52 : decode cX4_readPiece 52 = .ok (.aload_n 0, 1) := by decide +kernel
theorem dX4_readPiece_53 : decode cX4_readPiece 53 = .ok (.getfield 25, 3) := by decide +kernel
theorem dX4_readPiece_56 : decode cX4_readPiece 56 = .ok (.iconst 1, 1) := by decide +kernel
theorem dX4_readPiece_57 : decode cX4_readPiece 57 = .ok (.iadd, 1) := by decide +kernel
theorem dX4_readPiece_58 : decode cX4_readPiece 58 = .ok (.invokevirtual 41, 3) := by decide +kernel
theorem dX4_readPiece_61 : decode cX4_readPiece 61 = .ok (.iload_n 2, 1) := by decide +kernel
theorem dX4_readPiece_62 : decode cX4_readPiece 62 = .ok (.ifCond .ne 28, 3) := by decide +kernel
theorem dX4_readPiece_65 : decode cX4_readPiece 65 = .ok (.aload_n 0, 1) := by decide +kernel
theorem dX4_readPiece_66 : decode cX4_readPiece 66 = .ok (.iload_n 1, 1) := by decide +kernel
theorem dX4_readPiece_67 : decode cX4_readPiece 67 = .ok (.iconst 1, 1) := by decide +kernel
theorem dX4_readPiece_68 : decode cX4_readPiece 68 = .ok (.iadd, 1) := by decide +kernel
theorem dX4_readPiece_69 : decode cX4_readPiece 69 = .ok (.invokevirtual 75, 3) := by decide +kernel
theorem dX4_readPiece_72 : decode cX4_readPiece 72 = .ok (.ifCond .eq 16, 3) := by decide +kernel
theorem dX4_readPiece_75 : decode cX4_readPiece 75 = .ok (.aload_n 0, 1) := by decide +kernel
theorem dX4_readPiece_76 : decode cX4_readPiece 76 = .ok (.bipush 41, 2) := by decide +kernel
theorem dX4_readPiece_78 : decode cX4_readPiece 78 = .ok (.invokevirtual 52, 3) := by decide +kernel
theorem dX4_readPiece_81 : decode cX4_readPiece 81 = .ok (.ifCond .eq 7, 3) := by decide +kernel
theorem dX4_readPiece_84 : decode cX4_readPiece 84 = .ok (.iconst 1, 1) := by decide +kernel
theorem dX4_readPiece_85 : decode cX4_readPiece 85 = .ok (.goto 4, 3) := by decide +kernel
theorem dX4_readPiece_88 : decode cX4_readPiece 88 = .ok (.iconst 0, 1) := by decide +kernel
theorem dX4_readPiece_89 : decode cX4_readPiece 89 = .ok (.ireturn, 1) := by decide +kernel
theorem dX4_readPiece_90 : decode cX4_readPiece 90 = .ok (.aload_n 0, 1) := by decide +kernel
theorem dX4_readPiece_91 : decode cX4_readPiece 91 = .ok (.iload_n 1, 1) := by decide +kernel
theorem dX4_readPiece_92 : decode cX4_readPiece 92 = .ok (.iconst 1, 1) := by decide +kernel
theorem dX4_readPiece_93 : decode cX4_readPiece 93 = .ok (.iadd, 1) := by decide +kernel
theorem dX4_readPiece_94 : decode cX4_readPiece 94 = .ok (.invokevirtual 88, 3) := by decide +kernel
theorem dX4_readPiece_97 : decode cX4_readPiece 97 = .ok (.ifCond .ne 5, 3) := by decide +kernel
theorem dX4_readPiece_100 : decode cX4_readPiece 100 = .ok (.iconst 0, 1) := by decide +kernel
theorem dX4_readPiece_101 : decode cX4_readPiece 101 = .ok (.ireturn, 1) := by decide +kernel
theorem dX4_readPiece_102 : decode cX4_readPiece 102 = .ok (.aload_n 0, 1) := by decide +kernel
theorem dX4_readPiece_103 : decode cX4_readPiece 103 = .ok (.getfield 21, 3) := by decide +kernel
theorem dX4_readPiece_106 : decode cX4_readPiece 106 = .ok (.iconst 3, 1) := by decide +kernel
theorem dX4_readPiece_107 : decode cX4_readPiece 107 = .ok (.iconst 0, 1) := by decide +kernel
theorem dX4_readPiece_108 : decode cX4_readPiece 108 = .ok (.invokevirtual 71, 3) := by decide +kernel
theorem dX4_readPiece_111 : decode cX4_readPiece 111 = .ok (.pop, 1) := by decide +kernel
theorem dX4_readPiece_112 : decode cX4_readPiece 112 = .ok (.iconst 1, 1) := by decide +kernel
theorem dX4_readPiece_113 : decode cX4_readPiece 113 = .ok (.ireturn, 1) := by decide +kernel
theorem dX4_readComparison_0 : decode cX4_readComparison 0 = .ok (.aload_n 0, 1) := by decide +kernel
theorem dX4_readComparison_1 : decode cX4_readComparison 1 = .ok (.iload_n 1, 1) := by decide +kernel
theorem dX4_readComparison_2 : decode cX4_readComparison 2 = .ok (.invokevirtual 68, 3) := by decide +kernel
theorem dX4_readComparison_5 : decode cX4_readComparison 5 = .ok (.ifCond .ne 5, 3) := by decide +kernel
theorem dX4_readComparison_8 : decode cX4_readComparison 8 = .ok (.iconst 0, 1) := by decide +kernel
theorem dX4_readComparison_9 : decode cX4_readComparison 9 = .ok (.ireturn, 1) := by decide +kernel
theorem dX4_readComparison_10 : decode cX4_readComparison 10 = .ok (.aload_n 0, 1) := by decide +kernel
theorem dX4_readComparison_11 : decode cX4_readComparison 11 = .ok (.getfield 32, 3) := by decide +kernel
theorem dX4_readComparison_14 : decode cX4_readComparison 14 = .ok (.bipush 60, 2) := by decide +kernel
theorem dX4_readComparison_16 : decode cX4_readComparison 16 = .ok (.if_icmp .ne 8, 3) := by decide +kernel
theorem dX4_readComparison_19 : decode cX4_readComparison 19 = .ok (.bipush 11, 2) := by decide +kernel
theorem dX4_readComparison_21 : decode cX4_readComparison 21 = .ok (.goto 32, 3) := by decide +kernel
theorem dX4_readComparison_24 : decode cX4_readComparison 24 = .ok (.aload_n 0, 1) := by decide +kernel
theorem dX4_readComparison_25 : decode cX4_readComparison 25 = .ok (.getfield 32, 3) := by decide +kernel
theorem dX4_readComparison_28 : decode cX4_readComparison 28 = .ok (.bipush 62, 2) := by decide +kernel
theorem dX4_readComparison_30 : decode cX4_readComparison 30 = .ok (.if_icmp .ne 8, 3) := by decide +kernel
theorem dX4_readComparison_33 : decode cX4_readComparison 33 = .ok (.bipush 12, 2) := by decide +kernel
theorem dX4_readComparison_35 : decode cX4_readComparison 35 = .ok (.goto 18, 3) := by decide +kernel
theorem dX4_readComparison_38 : decode cX4_readComparison 38 = .ok (.aload_n 0, 1) := by decide +kernel
theorem dX4_readComparison_39 : decode cX4_readComparison 39 = .ok (.getfield 32, 3) := by decide +kernel
theorem dX4_readComparison_42 : decode cX4_readComparison 42 = .ok (.bipush 61, 2) := by decide +kernel
theorem dX4_readComparison_44 : decode cX4_readComparison 44 = .ok (.if_icmp .ne 8, 3) := by decide +kernel
theorem dX4_readComparison_47 : decode cX4_readComparison 47 = .ok (.bipush 13, 2) := by decide +kernel
theorem dX4_readComparison_49 : decode cX4_readComparison 49 = .ok (.goto 4, 3) := by decide +kernel
theorem dX4_readComparison_52 : decode cX4_readComparison 52 = .ok (.iconst 0, 1) := by decide +kernel
theorem dX4_readComparison_53 : decode cX4_readComparison 53 = .ok (.istore_n 2, 1) := by decide +kernel
theorem dX4_readComparison_54 : decode cX4_readComparison 54 = .ok (.iload_n 2, 1) := by decide +kernel
theorem dX4_readComparison_55 : decode cX4_readComparison 55 = .ok (.ifCond .ne 9, 3) := by decide +kernel
theorem dX4_readComparison_58 : decode cX4_readComparison 58 = .ok (.aload_n 0, 1) := by decide +kernel
theorem dX4_readComparison_59 : decode cX4_readComparison 59 = .ok (.iconst 1, 1) := by decide +kernel
theorem dX4_readComparison_60 : decode cX4_readComparison 60 = .ok (.invokevirtual 62, 3) := by decide +kernel
theorem dX4_readComparison_63 : decode cX4_readComparison 63 = .ok (.ireturn, 1) := by decide +kernel
theorem dX4_readComparison_64 : decode cX4_readComparison 64 = .ok (.aload_n 0, 1) := by decide +kernel
theorem dX4_readComparison_65 : decode cX4_readComparison 65 = .ok (.aload_n 0, 1) := by decide +kernel
theorem dX4_readComparison_66 : decode cX4_readComparison 66 = .ok (.getfield 25, 3) := by decide +kernel
theorem dX4_readComparison_69 : decode cX4_readComparison 69 = .ok (.iconst 1, 1) := by decide +kernel
theorem dX4_readComparison_70 : decode cX4_readComparison 70 = .ok (.iadd, 1) := by decide +kernel
theorem dX4_readComparison_71 : decode cX4_readComparison 71 = .ok (.invokevirtual 41, 3) := by decide +kernel
theorem dX4_readComparison_74 : decode cX4_readComparison 74 = .ok (.aload_n 0, 1) := by decide +kernel
theorem dX4_readComparison_75 : decode cX4_readComparison 75 = .ok (.iload_n 1, 1) := by decide +kernel
theorem dX4_readComparison_76 : decode cX4_readComparison 76 = .ok (.invokevirtual 68, 3) := by decide +kernel
theorem dX4_readComparison_79 : decode cX4_readComparison 79 = .ok (.ifCond .ne 5, 3) := by decide +kernel
theorem dX4_readComparison_82 : decode cX4_readComparison 82 = .ok (.iconst 0, 1) := by decide +kernel
theorem dX4_readComparison_83 : decode cX4_readComparison 83 = .ok (.ireturn, 1) := by decide +kernel
theorem dX4_readComparison_84 : decode cX4_readComparison 84 = .ok (.aload_n 0, 1) := by decide +kernel
theorem dX4_readComparison_85 : decode cX4_readComparison 85 = .ok (.getfield 21, 3) := by decide +kernel
theorem dX4_readComparison_88 : decode cX4_readComparison 88 = .ok (.iload_n 2, 1) := by decide +kernel
theorem dX4_readComparison_89 : decode cX4_readComparison 89 = .ok (.iconst 0, 1) := by decide +kernel
theorem dX4_readComparison_90 : decode cX4_readComparison 90 = .ok (.invokevirtual 71, 3) := by decide +kernel
theorem dX4_readComparison_93 : decode cX4_readComparison 93 = .ok (.pop, 1) := by decide +kernel
theorem dX4_readComparison_94 : decode cX4_readComparison 94 = .ok (.iconst 1, 1) := by decide +kernel
theorem dX4_readComparison_95 : decode cX4_readComparison 95 = .ok (.ireturn, 1) := by decide +kernel
theorem dX4_readSum_0 : decode cX4_readSum 0 = .ok (.iconst 0, 1) := by decide +kernel
theorem dX4_readSum_1 : decode cX4_readSum 1 = .ok (.istore_n 2, 1) := by decide +kernel
theorem dX4_readSum_2 : decode cX4_readSum 2 = .ok (.iconst 0, 1) := by decide +kernel
theorem dX4_readSum_3 : decode cX4_readSum 3 = .ok (.istore_n 3, 1) := by decide +kernel
theorem dX4_readSum_4 : decode cX4_readSum 4 = .ok (.iload_n 3, 1) := by decide +kernel
theorem dX4_readSum_5 : decode cX4_readSum 5 = .ok (.sipush 240, 3) := by decide +kernel
theorem dX4_readSum_8 : decode cX4_readSum 8 = .ok (.if_icmp .ge 79, 3) := by decide +kernel
theorem dX4_readSum_11 : decode cX4_readSum 11 = .ok (.aload_n 0, 1) := by decide +kernel
theorem dX4_readSum_12 : decode cX4_readSum 12 = .ok (.iload_n 1, 1) := by decide +kernel
theorem dX4_readSum_13 : decode cX4_readSum 13 = .ok (.invokevirtual 94, 3) := by decide +kernel
theorem dX4_readSum_16 : decode cX4_readSum 16 = .ok (.ifCond .ne 5, 3) := by decide +kernel
theorem dX4_readSum_19 : decode cX4_readSum 19 = .ok (.iconst 0, 1) := by decide +kernel
theorem dX4_readSum_20 : decode cX4_readSum 20 = .ok (.ireturn, 1) := by decide +kernel
theorem dX4_readSum_21 : decode cX4_readSum 21 = .ok (.iload_n 2, 1) := by decide +kernel
theorem dX4_readSum_22 : decode cX4_readSum 22 = .ok (.ifCond .eq 13, 3) := by decide +kernel
theorem dX4_readSum_25 : decode cX4_readSum 25 = .ok (.aload_n 0, 1) := by decide +kernel
theorem dX4_readSum_26 : decode cX4_readSum 26 = .ok (.getfield 21, 3) := by decide +kernel
theorem dX4_readSum_29 : decode cX4_readSum 29 = .ok (.iload_n 2, 1) := by decide +kernel
theorem dX4_readSum_30 : decode cX4_readSum 30 = .ok (.iconst 0, 1) := by decide +kernel
theorem dX4_readSum_31 : decode cX4_readSum 31 = .ok (.invokevirtual 71, 3) := by decide +kernel
theorem dX4_readSum_34 : decode cX4_readSum 34 = .ok (.pop, 1) := by decide +kernel
theorem dX4_readSum_35 : decode cX4_readSum 35 = .ok (.aload_n 0, 1) := by decide +kernel
theorem dX4_readSum_36 : decode cX4_readSum 36 = .ok (.getfield 32, 3) := by decide +kernel
theorem dX4_readSum_39 : decode cX4_readSum 39 = .ok (.bipush 43, 2) := by decide +kernel
theorem dX4_readSum_41 : decode cX4_readSum 41 = .ok (.if_icmp .ne 8, 3) := by decide +kernel
theorem dX4_readSum_44 : decode cX4_readSum 44 = .ok (.bipush 6, 2) := by decide +kernel
theorem dX4_readSum_46 : decode cX4_readSum 46 = .ok (.goto 18, 3) := by decide +kernel
theorem dX4_readSum_49 : decode cX4_readSum 49 = .ok (.aload_n 0, 1) := by decide +kernel
theorem dX4_readSum_50 : decode cX4_readSum 50 = .ok (.getfield 32, 3) := by decide +kernel
theorem dX4_readSum_53 : decode cX4_readSum 53 = .ok (.bipush 45, 2) := by decide +kernel
theorem dX4_readSum_55 : decode cX4_readSum 55 = .ok (.if_icmp .ne 8, 3) := by decide +kernel
theorem dX4_readSum_58 : decode cX4_readSum 58 = .ok (.bipush 7, 2) := by decide +kernel
theorem dX4_readSum_60 : decode cX4_readSum 60 = .ok (.goto 4, 3) := by decide +kernel
theorem dX4_readSum_63 : decode cX4_readSum 63 = .ok (.iconst 0, 1) := by decide +kernel
theorem dX4_readSum_64 : decode cX4_readSum 64 = .ok (.istore_n 2, 1) := by decide +kernel
theorem dX4_readSum_65 : decode cX4_readSum 65 = .ok (.iload_n 2, 1) := by decide +kernel
theorem dX4_readSum_66 : decode cX4_readSum 66 = .ok (.ifCond .ne 5, 3) := by decide +kernel
theorem dX4_readSum_69 : decode cX4_readSum 69 = .ok (.iconst 1, 1) := by decide +kernel
theorem dX4_readSum_70 : decode cX4_readSum 70 = .ok (.ireturn, 1) := by decide +kernel
theorem dX4_readSum_71 : decode cX4_readSum 71 = .ok (.aload_n 0, 1) := by decide +kernel
theorem dX4_readSum_72 : decode cX4_readSum 72 = .ok (.aload_n 0, 1) := by decide +kernel
theorem dX4_readSum_73 : decode cX4_readSum 73 = .ok (.getfield 25, 3) := by decide +kernel
theorem dX4_readSum_76 : decode cX4_readSum 76 = .ok (.iconst 1, 1) := by decide +kernel
theorem dX4_readSum_77 : decode cX4_readSum 77 = .ok (.iadd, 1) := by decide +kernel
theorem dX4_readSum_78 : decode cX4_readSum 78 = .ok (.invokevirtual 41, 3) := by decide +kernel
theorem dX4_readSum_81 : decode cX4_readSum 81 = .ok (.iinc 3 1, 3) := by decide +kernel
theorem dX4_readSum_84 : decode cX4_readSum 84 = .ok (.goto (-80), 3) := by decide +kernel
theorem dX4_readSum_87 : decode cX4_readSum 87 = .ok (.aload_n 0, 1) := by decide +kernel
theorem dX4_readSum_88 : decode cX4_readSum 88 = .ok (.iconst 1, 1) := by decide +kernel
theorem dX4_readSum_89 : decode cX4_readSum 89 = .ok (.invokevirtual 62, 3) := by decide +kernel
theorem dX4_readSum_92 : decode cX4_readSum 92 = .ok (.ireturn, 1) := by decide +kernel
theorem dX4_readTerm_0 : decode cX4_readTerm 0 = .ok (.iconst 0, 1) := by decide +kernel
theorem dX4_readTerm_1 : decode cX4_readTerm 1 = .ok (.istore_n 2, 1) := by decide +kernel
theorem dX4_readTerm_2 : decode cX4_readTerm 2 = .ok (.iconst 0, 1) := by decide +kernel
theorem dX4_readTerm_3 : decode cX4_readTerm 3 = .ok (.istore_n 3, 1) := by decide +kernel
theorem dX4_readTerm_4 : decode cX4_readTerm 4 = .ok (.iload_n 3, 1) := by decide +kernel
theorem dX4_readTerm_5 : decode cX4_readTerm 5 = .ok (.sipush 240, 3) := by decide +kernel
theorem dX4_readTerm_8 : decode cX4_readTerm 8 = .ok (.if_icmp .ge 93, 3) := by decide +kernel
theorem dX4_readTerm_11 : decode cX4_readTerm 11 = .ok (.aload_n 0, 1) := by decide +kernel
theorem dX4_readTerm_12 : decode cX4_readTerm 12 = .ok (.iload_n 1, 1) := by decide +kernel
theorem dX4_readTerm_13 : decode cX4_readTerm 13 = .ok (.invokevirtual 97, 3) := by decide +kernel
theorem dX4_readTerm_16 : decode cX4_readTerm 16 = .ok (.ifCond .ne 5, 3) := by decide +kernel
theorem dX4_readTerm_19 : decode cX4_readTerm 19 = .ok (.iconst 0, 1) := by decide +kernel
theorem dX4_readTerm_20 : decode cX4_readTerm 20 = .ok (.ireturn, 1) := by decide +kernel
theorem dX4_readTerm_21 : decode cX4_readTerm 21 = .ok (.iload_n 2, 1) := by decide +kernel
theorem dX4_readTerm_22 : decode cX4_readTerm 22 = .ok (.ifCond .eq 13, 3) := by decide +kernel
theorem dX4_readTerm_25 : decode cX4_readTerm 25 = .ok (.aload_n 0, 1) := by decide +kernel
theorem dX4_readTerm_26 : decode cX4_readTerm 26 = .ok (.getfield 21, 3) := by decide +kernel
theorem dX4_readTerm_29 : decode cX4_readTerm 29 = .ok (.iload_n 2, 1) := by decide +kernel
theorem dX4_readTerm_30 : decode cX4_readTerm 30 = .ok (.iconst 0, 1) := by decide +kernel
theorem dX4_readTerm_31 : decode cX4_readTerm 31 = .ok (.invokevirtual 71, 3) := by decide +kernel
theorem dX4_readTerm_34 : decode cX4_readTerm 34 = .ok (.pop, 1) := by decide +kernel
theorem dX4_readTerm_35 : decode cX4_readTerm 35 = .ok (.aload_n 0, 1) := by decide +kernel
theorem dX4_readTerm_36 : decode cX4_readTerm 36 = .ok (.getfield 32, 3) := by decide +kernel
theorem dX4_readTerm_39 : decode cX4_readTerm 39 = .ok (.bipush 42, 2) := by decide +kernel
theorem dX4_readTerm_41 : decode cX4_readTerm 41 = .ok (.if_icmp .ne 8, 3) := by decide +kernel
theorem dX4_readTerm_44 : decode cX4_readTerm 44 = .ok (.bipush 8, 2) := by decide +kernel
theorem dX4_readTerm_46 : decode cX4_readTerm 46 = .ok (.goto 32, 3) := by decide +kernel
theorem dX4_readTerm_49 : decode cX4_readTerm 49 = .ok (.aload_n 0, 1) := by decide +kernel
theorem dX4_readTerm_50 : decode cX4_readTerm 50 = .ok (.getfield 32, 3) := by decide +kernel
theorem dX4_readTerm_53 : decode cX4_readTerm 53 = .ok (.bipush 47, 2) := by decide +kernel
theorem dX4_readTerm_55 : decode cX4_readTerm 55 = .ok (.if_icmp .ne 8, 3) := by decide +kernel
theorem dX4_readTerm_58 : decode cX4_readTerm 58 = .ok (.bipush 9, 2) := by decide +kernel
theorem dX4_readTerm_60 : decode cX4_readTerm 60 = .ok (.goto 18, 3) := by decide +kernel
theorem dX4_readTerm_63 : decode cX4_readTerm 63 = .ok (.aload_n 0, 1) := by decide +kernel
theorem dX4_readTerm_64 : decode cX4_readTerm 64 = .ok (.getfield 32, 3) := by decide +kernel
theorem dX4_readTerm_67 : decode cX4_readTerm 67 = .ok (.bipush 37, 2) := by decide +kernel
theorem dX4_readTerm_69 : decode cX4_readTerm 69 = .ok (.if_icmp .ne 8, 3) := by decide +kernel
theorem dX4_readTerm_72 : decode cX4_readTerm 72 = .ok (.bipush 10, 2) := by decide +kernel
theorem dX4_readTerm_74 : decode cX4_readTerm 74 = .ok (.goto 4, 3) := by decide +kernel
theorem dX4_readTerm_77 : decode cX4_readTerm 77 = .ok (.iconst 0, 1) := by decide +kernel
theorem dX4_readTerm_78 : decode cX4_readTerm 78 = .ok (.istore_n 2, 1) := by decide +kernel
theorem dX4_readTerm_79 : decode cX4_readTerm 79 = .ok (.iload_n 2, 1) := by decide +kernel
theorem dX4_readTerm_80 : decode cX4_readTerm 80 = .ok (.ifCond .ne 5, 3) := by decide +kernel
theorem dX4_readTerm_83 : decode cX4_readTerm 83 = .ok (.iconst 1, 1) := by decide +kernel
theorem dX4_readTerm_84 : decode cX4_readTerm 84 = .ok (.ireturn, 1) := by decide +kernel
theorem dX4_readTerm_85 : decode cX4_readTerm 85 = .ok (.aload_n 0, 1) := by decide +kernel
theorem dX4_readTerm_86 : decode cX4_readTerm 86 = .ok (.aload_n 0, 1) := by decide +kernel
theorem dX4_readTerm_87 : decode cX4_readTerm 87 = .ok (.getfield 25, 3) := by decide +kernel
theorem dX4_readTerm_90 : decode cX4_readTerm 90 = .ok (.iconst 1, 1) := by decide +kernel
theorem dX4_readTerm_91 : decode cX4_readTerm 91 = .ok (.iadd, 1) := by decide +kernel
theorem dX4_readTerm_92 : decode cX4_readTerm 92 = .ok (.invokevirtual 41, 3) := by decide +kernel
theorem dX4_readTerm_95 : decode cX4_readTerm 95 = .ok (.iinc 3 1, 3) := by decide +kernel
theorem dX4_readTerm_98 : decode cX4_readTerm 98 = .ok (.goto (-94), 3) := by decide +kernel
theorem dX4_readTerm_101 : decode cX4_readTerm 101 = .ok (.aload_n 0, 1) := by decide +kernel
theorem dX4_readTerm_102 : decode cX4_readTerm 102 = .ok (.iconst 1, 1) := by decide +kernel
theorem dX4_readTerm_103 : decode cX4_readTerm 103 = .ok (.invokevirtual 62, 3) := by decide +kernel
theorem dX4_readTerm_106 : decode cX4_readTerm 106 = .ok (.ireturn, 1) := by decide +kernel
theorem dX4_readFactor_0 : decode cX4_readFactor 0 = .ok (.aload_n 0, 1) := by decide +kernel
theorem dX4_readFactor_1 : decode cX4_readFactor 1 = .ok (.getfield 32, 3) := by decide +kernel
theorem dX4_readFactor_4 : decode cX4_readFactor 4 = .ok (.bipush 48, 2) := by decide +kernel
theorem dX4_readFactor_6 : decode cX4_readFactor 6 = .ok (.if_icmp .lt 17, 3) := by decide +kernel
theorem dX4_readFactor_9 : decode cX4_readFactor 9 = .ok (.aload_n 0, 1) := by decide +kernel
theorem dX4_readFactor_10 : decode cX4_readFactor 10 = .ok (.getfield 32, 3) := by decide +kernel
theorem dX4_readFactor_13 : decode cX4_readFactor 13 = .ok (.bipush 57, 2) := by decide +kernel
theorem dX4_readFactor_15 : decode cX4_readFactor 15 = .ok (.if_icmp .gt 8, 3) := by decide +kernel
theorem dX4_readFactor_18 : decode cX4_readFactor 18 = .ok (.aload_n 0, 1) := by decide +kernel
theorem dX4_readFactor_19 : decode cX4_readFactor 19 = .ok (.invokevirtual 100, 3) := by decide +kernel
theorem dX4_readFactor_22 : decode cX4_readFactor 22 = .ok (.ireturn, 1) := by decide +kernel
theorem dX4_readFactor_23 : decode cX4_readFactor 23 = .ok (.aload_n 0, 1) := by decide +kernel
theorem dX4_readFactor_24 : decode cX4_readFactor 24 = .ok (.getfield 32, 3) := by decide +kernel
theorem dX4_readFactor_27 : decode cX4_readFactor 27 = .ok (.bipush 91, 2) := by decide +kernel
theorem dX4_readFactor_29 : decode cX4_readFactor 29 = .ok (.if_icmp .ne 50, 3) := by decide +kernel
theorem dX4_readFactor_32 : decode cX4_readFactor 32 = .ok (.iload_n 1, 1) := by decide +kernel
theorem dX4_readFactor_33 : decode cX4_readFactor 33 = .ok (.bipush 6, 2) := by decide +kernel
theorem dX4_readFactor_35 : decode cX4_readFactor 35 = .ok (.if_icmp .lt 9, 3) := by decide +kernel
theorem dX4_readFactor_38 : decode cX4_readFactor 38 = .ok (.aload_n 0, 1) := by decide +kernel
theorem dX4_readFactor_39 : decode cX4_readFactor 39 = .ok (.iconst 5, 1) := by decide +kernel
theorem dX4_readFactor_40 : decode cX4_readFactor 40 = .ok (.invokevirtual 62, 3) := by decide +kernel
theorem dX4_readFactor_43 : decode cX4_readFactor 43 = .ok (.ireturn, 1) := by decide +kernel
theorem dX4_readFactor_44 : decode cX4_readFactor 44 = .ok (.aload_n 0, 1) := by decide +kernel
theorem dX4_readFactor_45 : decode cX4_readFactor 45 = .ok (.aload_n 0, 1) := by decide +kernel
theorem dX4_readFactor_46 : decode cX4_readFactor 46 = .ok (.getfield 25, 3) := by decide +kernel
theorem dX4_readFactor_49 : decode cX4_readFactor 49 = .ok (.iconst 1, 1) := by decide +kernel
theorem dX4_readFactor_50 : decode cX4_readFactor 50 = .ok (.iadd, 1) := by decide +kernel
theorem dX4_readFactor_51 : decode cX4_readFactor 51 = .ok (.invokevirtual 41, 3) := by decide +kernel
theorem dX4_readFactor_54 : decode cX4_readFactor 54 = .ok (.aload_n 0, 1) := by decide +kernel
theorem dX4_readFactor_55 : decode cX4_readFactor 55 = .ok (.iload_n 1, 1) := by decide +kernel
theorem dX4_readFactor_56 : decode cX4_readFactor 56 = .ok (.iconst 1, 1) := by decide +kernel
theorem dX4_readFactor_57 : decode cX4_readFactor 57 = .ok (.iadd, 1) := by decide +kernel
theorem dX4_readFactor_58 : decode cX4_readFactor 58 = .ok (.invokevirtual 68, 3) := by decide +kernel
theorem dX4_readFactor_61 : decode cX4_readFactor 61 = .ok (.ifCond .eq 16, 3) := by decide +kernel
theorem dX4_readFactor_64 : decode cX4_readFactor 64 = .ok (.aload_n 0, 1) := by decide +kernel
theorem dX4_readFactor_65 : decode cX4_readFactor 65 = .ok (.bipush 93, 2) := by decide +kernel
theorem dX4_readFactor_67 : decode cX4_readFactor 67 = .ok (.invokevirtual 52, 3) := by decide +kernel
theorem dX4_readFactor_70 : decode cX4_readFactor 70 = .ok (.ifCond .eq 7, 3) := by decide +kernel
theorem dX4_readFactor_73 : decode cX4_readFactor 73 = .ok (.iconst 1, 1) := by decide +kernel
theorem dX4_readFactor_74 : decode cX4_readFactor 74 = .ok (.goto 4, 3) := by decide +kernel
theorem dX4_readFactor_77 : decode cX4_readFactor 77 = .ok (.iconst 0, 1) := by decide +kernel
theorem dX4_readFactor_78 : decode cX4_readFactor 78 = .ok (.ireturn, 1) := by decide +kernel
theorem dX4_readFactor_79 : decode cX4_readFactor 79 = .ok (.aload_n 0, 1) := by decide +kernel
theorem dX4_readFactor_80 : decode cX4_readFactor 80 = .ok (.ldc 103, 2) := by decide +kernel
theorem dX4_readFactor_82 : decode cX4_readFactor 82 = .ok (.invokevirtual 58, 3) := by decide +kernel
theorem dX4_readFactor_85 : decode cX4_readFactor 85 = .ok (.istore_n 2, 1) := by decide +kernel
theorem dX4_readFactor_86 : decode cX4_readFactor 86 = .ok (.iload_n 2, 1) := by decide +kernel
theorem dX4_readFactor_87 : decode cX4_readFactor 87 = .ok (.iconst (-1), 1) := by decide +kernel
theorem dX4_readFactor_88 : decode cX4_readFactor 88 = .ok (.if_icmp .ne 9, 3) := by decide +kernel
theorem dX4_readFactor_91 : decode cX4_readFactor 91 = .ok (.aload_n 0, 1) := by decide +kernel
theorem dX4_readFactor_92 : decode cX4_readFactor 92 = .ok (.iconst 1, 1) := by decide +kernel
theorem dX4_readFactor_93 : decode cX4_readFactor 93 = .ok (.invokevirtual 62, 3) := by decide +kernel
theorem dX4_readFactor_96 : decode cX4_readFactor 96 = .ok (.ireturn, 1) := by decide +kernel
theorem dX4_readFactor_97 : decode cX4_readFactor 97 = .ok (.aload_n 0, 1) := by decide +kernel
theorem dX4_readFactor_98 : decode cX4_readFactor 98 = .ok (.aload_n 0, 1) := by decide +kernel
theorem dX4_readFactor_99 : decode cX4_readFactor 99 = .ok (.getfield 25, 3) := by decide +kernel
theorem dX4_readFactor_102 : decode cX4_readFactor 102 = .ok (.iconst 1, 1) := by decide +kernel
theorem dX4_readFactor_103 : decode cX4_readFactor 103 = .ok (.iadd, 1) := by decide +kernel
theorem dX4_readFactor_104 : decode cX4_readFactor 104 = .ok (.invokevirtual 41, 3) := by decide +kernel
theorem dX4_readFactor_107 : decode cX4_readFactor 107 = .ok (.aload_n 0, 1) := by decide +kernel
theorem dX4_readFactor_108 : decode cX4_readFactor 108 = .ok (.getfield 21, 3) := by decide +kernel
theorem dX4_readFactor_111 : decode cX4_readFactor 111 = .ok (.iconst 2, 1) := by decide +kernel
theorem dX4_readFactor_112 : decode cX4_readFactor 112 = .ok (.iload_n 2, 1) := by decide +kernel
theorem dX4_readFactor_113 : decode cX4_readFactor 113 = .ok (.invokevirtual 71, 3) := by decide +kernel
theorem dX4_readFactor_116 : decode cX4_readFactor 116 = .ok (.pop, 1) := by decide +kernel
theorem dX4_readFactor_117 : decode cX4_readFactor 117 = .ok (.iconst 1, 1) := by decide +kernel
theorem dX4_readFactor_118 : decode cX4_readFactor 118 = .ok (.ireturn, 1) := by decide +kernel
theorem dX4_readNumber_0 : decode cX4_readNumber 0 = .ok (.iconst 0, 1) := by decide +kernel
theorem dX4_readNumber_1 : decode cX4_readNumber 1 = .ok (.istore_n 1, 1) := by decide +kernel
theorem dX4_readNumber_2 : decode cX4_readNumber 2 = .ok (.iconst 0, 1) := by decide +kernel
theorem dX4_readNumber_3 : decode cX4_readNumber 3 = .ok (.istore_n 2, 1) := by decide +kernel
theorem dX4_readNumber_4 : decode cX4_readNumber 4 = .ok (.aload_n 0, 1) := by decide +kernel
theorem dX4_readNumber_5 : decode cX4_readNumber 5 = .ok (.getfield 32, 3) := by decide +kernel
theorem dX4_readNumber_8 : decode cX4_readNumber 8 = .ok (.bipush 48, 2) := by decide +kernel
theorem dX4_readNumber_10 : decode cX4_readNumber 10 = .ok (.if_icmp .lt 52, 3) := by decide +kernel
theorem dX4_readNumber_13 : decode cX4_readNumber 13 = .ok (.aload_n 0, 1) := by decide +kernel
theorem dX4_readNumber_14 : decode cX4_readNumber 14 = .ok (.getfield 32, 3) := by decide +kernel
theorem dX4_readNumber_17 : decode cX4_readNumber 17 = .ok (.bipush 57, 2) := by decide +kernel
theorem dX4_readNumber_19 : decode cX4_readNumber 19 = .ok (.if_icmp .gt 43, 3) := by decide +kernel
theorem dX4_readNumber_22 : decode cX4_readNumber 22 = .ok (.iload_n 2, 1) := by decide +kernel
theorem dX4_readNumber_23 : decode cX4_readNumber 23 = .ok (.iconst 5, 1) := by decide +kernel
theorem dX4_readNumber_24 : decode cX4_readNumber 24 = .ok (.if_icmp .lt 9, 3) := by decide +kernel
theorem dX4_readNumber_27 : decode cX4_readNumber 27 = .ok (.aload_n 0, 1) := by decide +kernel
theorem dX4_readNumber_28 : decode cX4_readNumber 28 = .ok (.iconst 2, 1) := by decide +kernel
theorem dX4_readNumber_29 : decode cX4_readNumber 29 = .ok (.invokevirtual 62, 3) := by decide +kernel
theorem dX4_readNumber_32 : decode cX4_readNumber 32 = .ok (.ireturn, 1) := by decide +kernel
theorem dX4_readNumber_33 : decode cX4_readNumber 33 = .ok (.bipush 10, 2) := by decide +kernel
theorem dX4_readNumber_35 : decode cX4_readNumber 35 = .ok (.iload_n 1, 1) := by decide +kernel
theorem dX4_readNumber_36 : decode cX4_readNumber 36 = .ok (.imul, 1) := by decide +kernel
theorem dX4_readNumber_37 : decode cX4_readNumber 37 = .ok (.aload_n 0, 1) := by decide +kernel
theorem dX4_readNumber_38 : decode cX4_readNumber 38 = .ok (.getfield 32, 3) := by decide +kernel
theorem dX4_readNumber_41 : decode cX4_readNumber 41 = .ok (.iadd, 1) := by decide +kernel
theorem dX4_readNumber_42 : decode cX4_readNumber 42 = .ok (.bipush 48, 2) := by decide +kernel
theorem dX4_readNumber_44 : decode cX4_readNumber 44 = .ok (.isub, 1) := by decide +kernel
theorem dX4_readNumber_45 : decode cX4_readNumber 45 = .ok (.istore_n 1, 1) := by decide +kernel
theorem dX4_readNumber_46 : decode cX4_readNumber 46 = .ok (.aload_n 0, 1) := by decide +kernel
theorem dX4_readNumber_47 : decode cX4_readNumber 47 = .ok (.aload_n 0, 1) := by decide +kernel
theorem dX4_readNumber_48 : decode cX4_readNumber 48 = .ok (.getfield 25, 3) := by decide +kernel
theorem dX4_readNumber_51 : decode cX4_readNumber 51 = .ok (.iconst 1, 1) := by decide +kernel
theorem dX4_readNumber_52 : decode cX4_readNumber 52 = .ok (.iadd, 1) := by decide +kernel
theorem dX4_readNumber_53 : decode cX4_readNumber 53 = .ok (.invokevirtual 41, 3) := by decide +kernel
theorem dX4_readNumber_56 : decode cX4_readNumber 56 = .ok (.iinc 2 1, 3) := by decide +kernel
theorem dX4_readNumber_59 : decode cX4_readNumber 59 = .ok (.goto (-55), 3) := by decide +kernel
theorem dX4_readNumber_62 : decode cX4_readNumber 62 = .ok (.aload_n 0, 1) := by decide +kernel
theorem dX4_readNumber_63 : decode cX4_readNumber 63 = .ok (.getfield 21, 3) := by decide +kernel
theorem dX4_readNumber_66 : decode cX4_readNumber 66 = .ok (.iconst 1, 1) := by decide +kernel
theorem dX4_readNumber_67 : decode cX4_readNumber 67 = .ok (.iload_n 1, 1) := by decide +kernel
theorem dX4_readNumber_68 : decode cX4_readNumber 68 = .ok (.invokevirtual 71, 3) := by decide +kernel
theorem dX4_readNumber_71 : decode cX4_readNumber 71 = .ok (.pop, 1) := by decide +kernel
theorem dX4_readNumber_72 : decode cX4_readNumber 72 = .ok (.iconst 1, 1) := by decide +kernel
theorem dX4_readNumber_73 : decode cX4_readNumber 73 = .ok (.ireturn, 1) := by decide +kernel
theorem dX4_goTo_0 : decode cX4_goTo 0 = .ok (.aload_n 0, 1) := by decide +kernel
theorem dX4_goTo_1 : decode cX4_goTo 1 = .ok (.iload_n 1, 1) := by decide +kernel
theorem dX4_goTo_2 : decode cX4_goTo 2 = .ok (.putfield 25, 3) := by decide +kernel
theorem dX4_goTo_5 : decode cX4_goTo 5 = .ok (.aload_n 0, 1) := by decide +kernel
theorem dX4_goTo_6 : decode cX4_goTo 6 = .ok (.iload_n 1, 1) := by decide +kernel
theorem dX4_goTo_7 : decode cX4_goTo 7 = .ok (.ifCond .lt 30, 3) := by decide +kernel
theorem dX4_goTo_10 : decode cX4_goTo 10 = .ok (.iload_n 1, 1) := by decide +kernel
theorem dX4_goTo_11 : decode cX4_goTo 11 = .ok (.aload_n 0, 1) := by decide +kernel
theorem dX4_goTo_12 : decode cX4_goTo 12 = .ok (.getfield 29, 3) := by decide +kernel
theorem dX4_goTo_15 : decode cX4_goTo 15 = .ok (.if_icmp .ge 22, 3) := by decide +kernel
theorem dX4_goTo_18 : decode cX4_goTo 18 = .ok (.iload_n 1, 1) := by decide +kernel
theorem dX4_goTo_19 : decode cX4_goTo 19 = .ok (.sipush 260, 3) := by decide +kernel
theorem dX4_goTo_22 : decode cX4_goTo 22 = .ok (.if_icmp .ge 15, 3) := by decide +kernel
theorem dX4_goTo_25 : decode cX4_goTo 25 = .ok (.aload_n 0, 1) := by decide +kernel
theorem dX4_goTo_26 : decode cX4_goTo 26 = .ok (.getfield 12, 3) := by decide +kernel
theorem dX4_goTo_29 : decode cX4_goTo 29 = .ok (.getfield 105, 3) := by decide +kernel
theorem dX4_goTo_32 : decode cX4_goTo 32 = .ok (.iload_n 1, 1) := by decide +kernel
theorem dX4_goTo_33 : decode cX4_goTo 33 = .ok (.iaload, 1) := by decide +kernel
theorem dX4_goTo_34 : decode cX4_goTo 34 = .ok (.goto 4, 3) := by decide +kernel
theorem dX4_goTo_37 : decode cX4_goTo 37 = .ok (.iconst (-1), 1) := by decide +kernel
theorem dX4_goTo_38 : decode cX4_goTo 38 = .ok (.putfield 32, 3) := by decide +kernel
theorem dX4_goTo_41 : decode cX4_goTo 41 = .ok (.return_, 1) := by decide +kernel
theorem dX4_placeIn_0 : decode cX4_placeIn 0 = .ok (.aload_n 0, 1) := by decide +kernel
theorem dX4_placeIn_1 : decode cX4_placeIn 1 = .ok (.getfield 32, 3) := by decide +kernel
theorem dX4_placeIn_4 : decode cX4_placeIn 4 = .ok (.iconst (-1), 1) := by decide +kernel
theorem dX4_placeIn_5 : decode cX4_placeIn 5 = .ok (.if_icmp .ne 7, 3) := by decide +kernel
theorem dX4_placeIn_8 : decode cX4_placeIn 8 = .ok (.iconst (-1), 1) := by decide +kernel
theorem dX4_placeIn_9 : decode cX4_placeIn 9 = .ok (.goto 12, 3) := by decide +kernel
theorem dX4_placeIn_12 : decode cX4_placeIn 12 = .ok (.aload_n 1, 1) := by decide +kernel
theorem dX4_placeIn_13 : decode cX4_placeIn 13 = .ok (.aload_n 0, 1) := by decide +kernel
theorem dX4_placeIn_14 : decode cX4_placeIn 14 = .ok (.getfield 32, 3) := by decide +kernel
theorem dX4_placeIn_17 : decode cX4_placeIn 17 = .ok (.i2c, 1) := by decide +kernel
theorem dX4_placeIn_18 : decode cX4_placeIn 18 = .ok (.invokevirtual 109, 3) := by decide +kernel
theorem dX4_placeIn_21 : decode cX4_placeIn 21 = .ok (.ireturn, 1) := by decide +kernel
theorem dX4_take_0 : decode cX4_take 0 = .ok (.aload_n 0, 1) := by decide +kernel
theorem dX4_take_1 : decode cX4_take 1 = .ok (.getfield 32, 3) := by decide +kernel
theorem dX4_take_4 : decode cX4_take 4 = .ok (.iload_n 1, 1) := by decide +kernel
theorem dX4_take_5 : decode cX4_take 5 = .ok (.if_icmp .eq 9, 3) := by decide +kernel
theorem dX4_take_8 : decode cX4_take 8 = .ok (.aload_n 0, 1) := by decide +kernel
theorem dX4_take_9 : decode cX4_take 9 = .ok (.iconst 1, 1) := by decide +kernel
theorem dX4_take_10 : decode cX4_take 10 = .ok (.invokevirtual 62, 3) := by decide +kernel
theorem dX4_take_13 : decode cX4_take 13 = .ok (.ireturn, 1) := by decide +kernel
theorem dX4_take_14 : decode cX4_take 14 = .ok (.aload_n 0, 1) := by decide +kernel
theorem dX4_take_15 : decode cX4_take 15 = .ok (.aload_n 0, 1) := by decide +kernel
theorem dX4_take_16 : decode cX4_take 16 = .ok (.getfield 25, 3) := by decide +kernel
theorem dX4_take_19 : decode cX4_take 19 = .ok (.iconst 1, 1) := by decide +kernel
theorem dX4_take_20 : decode cX4_take 20 = .ok (.iadd, 1) := by decide +kernel
theorem dX4_take_21 : decode cX4_take 21 = .ok (.invokevirtual 41, 3) := by decide +kernel
theorem dX4_take_24 : decode cX4_take 24 = .ok (.iconst 1, 1) := by decide +kernel
theorem dX4_take_25 : decode cX4_take 25 = .ok (.ireturn, 1) := by decide +kernel
theorem dX4_fail_0 : decode cX4_fail 0 = .ok (.aload_n 0, 1) := by decide +kernel
theorem dX4_fail_1 : decode cX4_fail 1 = .ok (.sipush (-1000), 3) := by decide +kernel
theorem dX4_fail_4 : decode cX4_fail 4 = .ok (.iload_n 1, 1) := by decide +kernel
theorem dX4_fail_5 : decode cX4_fail 5 = .ok (.imul, 1) := by decide +kernel
theorem dX4_fail_6 : decode cX4_fail 6 = .ok (.aload_n 0, 1) := by decide +kernel
theorem dX4_fail_7 : decode cX4_fail 7 = .ok (.getfield 25, 3) := by decide +kernel
theorem dX4_fail_10 : decode cX4_fail 10 = .ok (.isub, 1) := by decide +kernel
theorem dX4_fail_11 : decode cX4_fail 11 = .ok (.putfield 35, 3) := by decide +kernel
theorem dX4_fail_14 : decode cX4_fail 14 = .ok (.iconst 0, 1) := by decide +kernel
theorem dX4_fail_15 : decode cX4_fail 15 = .ok (.ireturn, 1) := by decide +kernel
theorem dX6_init_0 : decode cX6_init 0 = .ok (.aload_n 0, 1) := by decide +kernel
theorem dX6_init_1 : decode cX6_init 1 = .ok (.invokespecial 3, 3) := by decide +kernel
theorem dX6_init_4 : decode cX6_init 4 = .ok (.aload_n 0, 1) := by decide +kernel
theorem dX6_init_5 : decode cX6_init 5 = .ok (.sipush 196, 3) := by decide +kernel
theorem dX6_init_8 : decode cX6_init 8 = .ok (.newarray .int, 2) := by decide +kernel
theorem dX6_init_10 : decode cX6_init 10 = .ok (.putfield 9, 3) := by decide +kernel
theorem dX6_init_13 : decode cX6_init 13 = .ok (.aload_n 0, 1) := by decide +kernel
theorem dX6_init_14 : decode cX6_init 14 = .ok (.new 15, 3) := by decide +kernel
theorem dX6_init_17 : decode cX6_init 17 = .ok (.dup, 1) := by decide +kernel
theorem dX6_init_18 : decode cX6_init 18 = .ok (.invokespecial 17, 3) := by decide +kernel
theorem dX6_init_21 : decode cX6_init 21 = .ok (.putfield 18, 3) := by decide +kernel
theorem dX6_init_24 : decode cX6_init 24 = .ok (.aload_n 0, 1) := by decide +kernel
theorem dX6_init_25 : decode cX6_init 25 = .ok (.new 22, 3) := by decide +kernel
theorem dX6_init_28 : decode cX6_init 28 = .ok (.dup, 1) := by decide +kernel
theorem dX6_init_29 : decode cX6_init 29 = .ok (.invokespecial 24, 3) := by decide +kernel
theorem dX6_init_32 : decode cX6_init 32 = .ok (.putfield 25, 3) := by decide +kernel
theorem dX6_init_35 : decode cX6_init 35 = .ok (.aload_n 0, 1) := by decide +kernel
theorem dX6_init_36 : decode cX6_init 36 = .ok (.iconst 4, 1) := by decide +kernel
theorem dX6_init_37 : decode cX6_init 37 = .ok (.newarray .int, 2) := by decide +kernel
theorem dX6_init_39 : decode cX6_init 39 = .ok (.putfield 29, 3) := by decide +kernel
theorem dX6_init_42 : decode cX6_init 42 = .ok (.aload_n 0, 1) := by decide +kernel
theorem dX6_init_43 : decode cX6_init 43 = .ok (.bipush 19, 2) := by decide +kernel
theorem dX6_init_45 : decode cX6_init 45 = .ok (.newarray .int, 2) := by decide +kernel
theorem dX6_init_47 : decode cX6_init 47 = .ok (.putfield 32, 3) := by decide +kernel
theorem dX6_init_50 : decode cX6_init 50 = .ok (.aload_n 0, 1) := by decide +kernel
theorem dX6_init_51 : decode cX6_init 51 = .ok (.iconst 0, 1) := by decide +kernel
theorem dX6_init_52 : decode cX6_init 52 = .ok (.putfield 35, 3) := by decide +kernel
theorem dX6_init_55 : decode cX6_init 55 = .ok (.aload_n 0, 1) := by decide +kernel
theorem dX6_init_56 : decode cX6_init 56 = .ok (.iconst 0, 1) := by decide +kernel
theorem dX6_init_57 : decode cX6_init 57 = .ok (.putfield 39, 3) := by decide +kernel
theorem dX6_init_60 : decode cX6_init 60 = .ok (.aload_n 0, 1) := by decide +kernel
theorem dX6_init_61 : decode cX6_init 61 = .ok (.iconst 0, 1) := by decide +kernel
theorem dX6_init_62 : decode cX6_init 62 = .ok (.putfield 42, 3) := by decide +kernel
theorem dX6_init_65 : decode cX6_init 65 = .ok (.aload_n 0, 1) := by decide +kernel
theorem dX6_init_66 : decode cX6_init 66 = .ok (.iconst 1, 1) := by decide +kernel
theorem dX6_init_67 : decode cX6_init 67 = .ok (.putfield 45, 3) := by decide +kernel
theorem dX6_init_70 : decode cX6_init 70 = .ok (.return_, 1) := by decide +kernel
theorem dX6_become_0 : decode cX6_become 0 = .ok (.aload_n 1, 1) := by decide +kernel
theorem dX6_become_1 : decode cX6_become 1 = .ok (.getfield 9, 3) := by decide +kernel
theorem dX6_become_4 : decode cX6_become 4 = .ok (.iconst 0, 1) := by decide +kernel
theorem dX6_become_5 : decode cX6_become 5 = .ok (.aload_n 0, 1) := by decide +kernel
theorem dX6_become_6 : decode cX6_become 6 = .ok (.getfield 9, 3) := by decide +kernel
theorem dX6_become_9 : decode cX6_become 9 = .ok (.iconst 0, 1) := by decide +kernel
theorem dX6_become_10 : decode cX6_become 10 = .ok (.sipush 196, 3) := by decide +kernel
theorem dX6_become_13 : decode cX6_become 13 = .ok (.invokestatic 48, 3) := by decide +kernel
theorem dX6_become_16 : decode cX6_become 16 = .ok (.aload_n 0, 1) := by decide +kernel
theorem dX6_become_17 : decode cX6_become 17 = .ok (.getfield 18, 3) := by decide +kernel
theorem dX6_become_20 : decode cX6_become 20 = .ok (.aload_n 1, 1) := by decide +kernel
theorem dX6_become_21 : decode cX6_become 21 = .ok (.getfield 18, 3) := by decide +kernel
theorem dX6_become_24 : decode cX6_become 24 = .ok (.invokevirtual 54, 3) := by decide +kernel
theorem dX6_become_27 : decode cX6_become 27 = .ok (.aload_n 0, 1) := by decide +kernel
theorem dX6_become_28 : decode cX6_become 28 = .ok (.getfield 25, 3) := by decide +kernel
theorem dX6_become_31 : decode cX6_become 31 = .ok (.aload_n 1, 1) := by decide +kernel
theorem dX6_become_32 : decode cX6_become 32 = .ok (.getfield 25, 3) := by decide +kernel
theorem dX6_become_35 : decode cX6_become 35 = .ok (.invokevirtual 58, 3) := by decide +kernel
theorem dX6_become_38 : decode cX6_become 38 = .ok (.aload_n 1, 1) := by decide +kernel
theorem dX6_become_39 : decode cX6_become 39 = .ok (.getfield 29, 3) := by decide +kernel
theorem dX6_become_42 : decode cX6_become 42 = .ok (.iconst 0, 1) := by decide +kernel
theorem dX6_become_43 : decode cX6_become 43 = .ok (.aload_n 0, 1) := by decide +kernel
theorem dX6_become_44 : decode cX6_become 44 = .ok (.getfield 29, 3) := by decide +kernel
theorem dX6_become_47 : decode cX6_become 47 = .ok (.iconst 0, 1) := by decide +kernel
theorem dX6_become_48 : decode cX6_become 48 = .ok (.iconst 4, 1) := by decide +kernel
theorem dX6_become_49 : decode cX6_become 49 = .ok (.invokestatic 48, 3) := by decide +kernel
theorem dX6_become_52 : decode cX6_become 52 = .ok (.aload_n 1, 1) := by decide +kernel
theorem dX6_become_53 : decode cX6_become 53 = .ok (.getfield 32, 3) := by decide +kernel
theorem dX6_become_56 : decode cX6_become 56 = .ok (.iconst 0, 1) := by decide +kernel
theorem dX6_become_57 : decode cX6_become 57 = .ok (.aload_n 0, 1) := by decide +kernel
theorem dX6_become_58 : decode cX6_become 58 = .ok (.getfield 32, 3) := by decide +kernel
theorem dX6_become_61 : decode cX6_become 61 = .ok (.iconst 0, 1) := by decide +kernel
theorem dX6_become_62 : decode cX6_become 62 = .ok (.bipush 19, 2) := by decide +kernel
theorem dX6_become_64 : decode cX6_become 64 = .ok (.invokestatic 48, 3) := by decide +kernel
theorem dX6_become_67 : decode cX6_become 67 = .ok (.aload_n 0, 1) := by decide +kernel
theorem dX6_become_68 : decode cX6_become 68 = .ok (.aload_n 1, 1) := by decide +kernel
theorem dX6_become_69 : decode cX6_become 69 = .ok (.getfield 35, 3) := by decide +kernel
theorem dX6_become_72 : decode cX6_become 72 = .ok (.putfield 35, 3) := by decide +kernel
theorem dX6_become_75 : decode cX6_become 75 = .ok (.aload_n 0, 1) := by decide +kernel
theorem dX6_become_76 : decode cX6_become 76 = .ok (.aload_n 1, 1) := by decide +kernel
theorem dX6_become_77 : decode cX6_become 77 = .ok (.getfield 39, 3) := by decide +kernel
theorem dX6_become_80 : decode cX6_become 80 = .ok (.putfield 39, 3) := by decide +kernel
theorem dX6_become_83 : decode cX6_become 83 = .ok (.aload_n 0, 1) := by decide +kernel
theorem dX6_become_84 : decode cX6_become 84 = .ok (.aload_n 1, 1) := by decide +kernel
theorem dX6_become_85 : decode cX6_become 85 = .ok (.getfield 42, 3) := by decide +kernel
theorem dX6_become_88 : decode cX6_become 88 = .ok (.putfield 42, 3) := by decide +kernel
theorem dX6_become_91 : decode cX6_become 91 = .ok (.aload_n 0, 1) := by decide +kernel
theorem dX6_become_92 : decode cX6_become 92 = .ok (.aload_n 1, 1) := by decide +kernel
theorem dX6_become_93 : decode cX6_become 93 = .ok (.getfield 45, 3) := by decide +kernel
theorem dX6_become_96 : decode cX6_become 96 = .ok (.putfield 45, 3) := by decide +kernel
theorem dX6_become_99 : decode cX6_become 99 = .ok (.return_, 1) := by decide +kernel
theorem dX6_sortAt_0 : decode cX6_sortAt 0 = .ok (.iload_n 1, 1) := by decide +kernel
theorem dX6_sortAt_1 : decode cX6_sortAt 1 = .ok (.ifCond .lt 19, 3) := by decide +kernel
theorem dX6_sortAt_4 : decode cX6_sortAt 4 = .ok (.iload_n 1, 1) := by decide +kernel
theorem dX6_sortAt_5 : decode cX6_sortAt 5 = .ok (.sipush 196, 3) := by decide +kernel
theorem dX6_sortAt_8 : decode cX6_sortAt 8 = .ok (.if_icmp .ge 12, 3) := by decide +kernel
theorem dX6_sortAt_11 : decode cX6_sortAt 11 = .ok (.aload_n 0, 1) := by decide +kernel
theorem dX6_sortAt_12 : decode cX6_sortAt 12 = .ok (.getfield 9, 3) := by decide +kernel
theorem dX6_sortAt_15 : decode cX6_sortAt 15 = .ok (.iload_n 1, 1) := by decide +kernel
theorem dX6_sortAt_16 : decode cX6_sortAt 16 = .ok (.iaload, 1) := by decide +kernel
theorem dX6_sortAt_17 : decode cX6_sortAt 17 = .ok (.goto 4, 3) := by decide +kernel
theorem dX6_sortAt_20 : decode cX6_sortAt 20 = .ok (.iconst 3, 1) := by decide +kernel
theorem dX6_sortAt_21 : decode cX6_sortAt 21 = .ok (.ireturn, 1) := by decide +kernel
theorem dX6_isTaken_0 : decode cX6_isTaken 0 = .ok (.iconst 0, 1) := by decide +kernel
theorem dX6_isTaken_1 : decode cX6_isTaken 1 = .ok (.istore_n 2, 1) := by decide +kernel
theorem dX6_isTaken_2 : decode cX6_isTaken 2 = .ok (.iload_n 2, 1) := by decide +kernel
theorem dX6_isTaken_3 : decode cX6_isTaken 3 = .ok (.bipush 12, 2) := by decide +kernel
theorem dX6_isTaken_5 : decode cX6_isTaken 5 = .ok (.if_icmp .ge 35, 3) := by decide +kernel
theorem dX6_isTaken_8 : decode cX6_isTaken 8 = .ok (.aload_n 0, 1) := by decide +kernel
theorem dX6_isTaken_9 : decode cX6_isTaken 9 = .ok (.getfield 18, 3) := by decide +kernel
theorem dX6_isTaken_12 : decode cX6_isTaken 12 = .ok (.iload_n 2, 1) := by decide +kernel
theorem dX6_isTaken_13 : decode cX6_isTaken 13 = .ok (.invokevirtual 61, 3) := by decide +kernel
theorem dX6_isTaken_16 : decode cX6_isTaken 16 = .ok (.ifCond .eq 18, 3) := by decide +kernel
theorem dX6_isTaken_19 : decode cX6_isTaken 19 = .ok (.aload_n 0, 1) := by decide +kernel
theorem dX6_isTaken_20 : decode cX6_isTaken 20 = .ok (.getfield 18, 3) := by decide +kernel
theorem dX6_isTaken_23 : decode cX6_isTaken 23 = .ok (.getfield 65, 3) := by decide +kernel
theorem dX6_isTaken_26 : decode cX6_isTaken 26 = .ok (.iload_n 2, 1) := by decide +kernel
theorem dX6_isTaken_27 : decode cX6_isTaken 27 = .ok (.iaload, 1) := by decide +kernel
theorem dX6_isTaken_28 : decode cX6_isTaken 28 = .ok (.iload_n 1, 1) := by decide +kernel
theorem dX6_isTaken_29 : decode cX6_isTaken 29 = .ok (.if_icmp .ne 5, 3) := by decide +kernel
theorem dX6_isTaken_32 : decode cX6_isTaken 32 = .ok (.iconst 1, 1) := by decide +kernel
theorem dX6_isTaken_33 : decode cX6_isTaken 33 = .ok (.ireturn, 1) := by decide +kernel
theorem dX6_isTaken_34 : decode cX6_isTaken 34 = .ok (.iinc 2 1, 3) := by decide +kernel
theorem dX6_isTaken_37 : decode cX6_isTaken 37 = .ok (.goto (-35), 3) := by decide +kernel
theorem dX6_isTaken_40 : decode cX6_isTaken 40 = .ok (.iconst 0, 1) := by decide +kernel
theorem dX6_isTaken_41 : decode cX6_isTaken 41 = .ok (.istore_n 2, 1) := by decide +kernel
theorem dX6_isTaken_42 : decode cX6_isTaken 42 = .ok (.iload_n 2, 1) := by decide +kernel
theorem dX6_isTaken_43 : decode cX6_isTaken 43 = .ok (.bipush 6, 2) := by decide +kernel
theorem dX6_isTaken_45 : decode cX6_isTaken 45 = .ok (.if_icmp .ge 35, 3) := by decide +kernel
theorem dX6_isTaken_48 : decode cX6_isTaken 48 = .ok (.aload_n 0, 1) := by decide +kernel
theorem dX6_isTaken_49 : decode cX6_isTaken 49 = .ok (.getfield 25, 3) := by decide +kernel
theorem dX6_isTaken_52 : decode cX6_isTaken 52 = .ok (.iload_n 2, 1) := by decide +kernel
theorem dX6_isTaken_53 : decode cX6_isTaken 53 = .ok (.invokevirtual 68, 3) := by decide +kernel
theorem dX6_isTaken_56 : decode cX6_isTaken 56 = .ok (.ifCond .eq 18, 3) := by decide +kernel
theorem dX6_isTaken_59 : decode cX6_isTaken 59 = .ok (.aload_n 0, 1) := by decide +kernel
theorem dX6_isTaken_60 : decode cX6_isTaken 60 = .ok (.getfield 25, 3) := by decide +kernel
theorem dX6_isTaken_63 : decode cX6_isTaken 63 = .ok (.getfield 71, 3) := by decide +kernel
theorem dX6_isTaken_66 : decode cX6_isTaken 66 = .ok (.iload_n 2, 1) := by decide +kernel
theorem dX6_isTaken_67 : decode cX6_isTaken 67 = .ok (.iaload, 1) := by decide +kernel
theorem dX6_isTaken_68 : decode cX6_isTaken 68 = .ok (.iload_n 1, 1) := by decide +kernel
theorem dX6_isTaken_69 : decode cX6_isTaken 69 = .ok (.if_icmp .ne 5, 3) := by decide +kernel
theorem dX6_isTaken_72 : decode cX6_isTaken 72 = .ok (.iconst 1, 1) := by decide +kernel
theorem dX6_isTaken_73 : decode cX6_isTaken 73 = .ok (.ireturn, 1) := by decide +kernel
theorem dX6_isTaken_74 : decode cX6_isTaken 74 = .ok (.iinc 2 1, 3) := by decide +kernel
theorem dX6_isTaken_77 : decode cX6_isTaken 77 = .ok (.goto (-35), 3) := by decide +kernel
theorem dX6_isTaken_80 : decode cX6_isTaken 80 = .ok (.iconst 0, 1) := by decide +kernel
theorem dX6_isTaken_81 : decode cX6_isTaken 81 = .ok (.ireturn, 1) := by decide +kernel
theorem dX6_isThere_0 : decode cX6_isThere 0 = .ok (.iload_n 1, 1) := by decide +kernel
theorem dX6_isThere_1 : decode cX6_isThere 1 = .ok (.bipush 12, 2) := by decide +kernel
theorem dX6_isThere_3 : decode cX6_isThere 3 = .ok (.if_icmp .ge 14, 3) := by decide +kernel
theorem dX6_isThere_6 : decode cX6_isThere 6 = .ok (.aload_n 0, 1) := by decide +kernel
theorem dX6_isThere_7 : decode cX6_isThere 7 = .ok (.getfield 18, 3) := by decide +kernel
theorem dX6_isThere_10 : decode cX6_isThere 10 = .ok (.iload_n 1, 1) := by decide +kernel
theorem dX6_isThere_11 : decode cX6_isThere 11 = .ok (.invokevirtual 61, 3) := by decide +kernel
theorem dX6_isThere_14 : decode cX6_isThere 14 = .ok (.goto 14, 3) := by decide +kernel
theorem dX6_isThere_17 : decode cX6_isThere 17 = .ok (.aload_n 0, 1) := by decide +kernel
theorem dX6_isThere_18 : decode cX6_isThere 18 = .ok (.getfield 25, 3) := by decide +kernel
theorem dX6_isThere_21 : decode cX6_isThere 21 = .ok (.iload_n 1, 1) := by decide +kernel
theorem dX6_isThere_22 : decode cX6_isThere 22 = .ok (.bipush 12, 2) := by decide +kernel
theorem dX6_isThere_24 : decode cX6_isThere 24 = .ok (.isub, 1) := by decide +kernel
theorem dX6_isThere_25 : decode cX6_isThere 25 = .ok (.invokevirtual 68, 3) := by decide +kernel
theorem dX6_isThere_28 : decode cX6_isThere 28 = .ok (.ireturn, 1) := by decide +kernel
theorem dX6_isLit_0 : decode cX6_isLit 0 = .ok (.iload_n 1, 1) := by decide +kernel
theorem dX6_isLit_1 : decode cX6_isLit 1 = .ok (.bipush 12, 2) := by decide +kernel
theorem dX6_isLit_3 : decode cX6_isLit 3 = .ok (.if_icmp .ge 12, 3) := by decide +kernel
theorem dX6_isLit_6 : decode cX6_isLit 6 = .ok (.aload_n 0, 1) := by decide +kernel
theorem dX6_isLit_7 : decode cX6_isLit 7 = .ok (.getfield 18, 3) := by decide +kernel
theorem dX6_isLit_10 : decode cX6_isLit 10 = .ok (.iload_n 1, 1) := by decide +kernel
theorem dX6_isLit_11 : decode cX6_isLit 11 = .ok (.invokevirtual 72, 3) := by decide +kernel
theorem dX6_isLit_14 : decode cX6_isLit 14 = .ok (.ireturn, 1) := by decide +kernel
theorem dX6_isLit_15 : decode cX6_isLit 15 = .ok (.aload_n 0, 1) := by decide +kernel
theorem dX6_isLit_16 : decode cX6_isLit 16 = .ok (.getfield 25, 3) := by decide +kernel
theorem dX6_isLit_19 : decode cX6_isLit 19 = .ok (.iload_n 1, 1) := by decide +kernel
theorem dX6_isLit_20 : decode cX6_isLit 20 = .ok (.bipush 12, 2) := by decide +kernel
theorem dX6_isLit_22 : decode cX6_isLit 22 = .ok (.isub, 1) := by decide +kernel
theorem dX6_isLit_23 : decode cX6_isLit 23 = .ok (.invokevirtual 68, 3) := by decide +kernel
theorem dX6_isLit_26 : decode cX6_isLit 26 = .ok (.ifCond .eq 22, 3) := by decide +kernel
theorem dX6_isLit_29 : decode cX6_isLit 29 = .ok (.aload_n 0, 1) := by decide +kernel
theorem dX6_isLit_30 : decode cX6_isLit 30 = .ok (.getfield 25, 3) := by decide +kernel
theorem dX6_isLit_33 : decode cX6_isLit 33 = .ok (.getfield 75, 3) := by decide +kernel
theorem dX6_isLit_36 : decode cX6_isLit 36 = .ok (.iload_n 1, 1) := by decide +kernel
theorem dX6_isLit_37 : decode cX6_isLit 37 = .ok (.bipush 12, 2) := by decide +kernel
theorem dX6_isLit_39 : decode cX6_isLit 39 = .ok (.isub, 1) := by decide +kernel
theorem dX6_isLit_40 : decode cX6_isLit 40 = .ok (.baload, 1) := by decide +kernel
theorem dX6_isLit_41 : decode cX6_isLit 41 = .ok (.ifCond .eq 7, 3) := by decide +kernel
theorem dX6_isLit_44 : decode cX6_isLit 44 = .ok (.iconst 1, 1) := by decide +kernel
theorem dX6_isLit_45 : decode cX6_isLit 45 = .ok (.goto 4, 3) := by decide +kernel
theorem dX6_isLit_48 : decode cX6_isLit 48 = .ok (.iconst 0, 1) := by decide +kernel
theorem dX6_isLit_49 : decode cX6_isLit 49 = .ok (.ireturn, 1) := by decide +kernel
theorem dX6_litBits_0 : decode cX6_litBits 0 = .ok (.iconst 0, 1) := by decide +kernel
theorem dX6_litBits_1 : decode cX6_litBits 1 = .ok (.istore_n 1, 1) := by decide +kernel
theorem dX6_litBits_2 : decode cX6_litBits 2 = .ok (.iconst 0, 1) := by decide +kernel
theorem dX6_litBits_3 : decode cX6_litBits 3 = .ok (.istore_n 2, 1) := by decide +kernel
theorem dX6_litBits_4 : decode cX6_litBits 4 = .ok (.iload_n 2, 1) := by decide +kernel
theorem dX6_litBits_5 : decode cX6_litBits 5 = .ok (.bipush 18, 2) := by decide +kernel
theorem dX6_litBits_7 : decode cX6_litBits 7 = .ok (.if_icmp .ge 27, 3) := by decide +kernel
theorem dX6_litBits_10 : decode cX6_litBits 10 = .ok (.iload_n 1, 1) := by decide +kernel
theorem dX6_litBits_11 : decode cX6_litBits 11 = .ok (.aload_n 0, 1) := by decide +kernel
theorem dX6_litBits_12 : decode cX6_litBits 12 = .ok (.iload_n 2, 1) := by decide +kernel
theorem dX6_litBits_13 : decode cX6_litBits 13 = .ok (.invokevirtual 79, 3) := by decide +kernel
theorem dX6_litBits_16 : decode cX6_litBits 16 = .ok (.ifCond .eq 9, 3) := by decide +kernel
theorem dX6_litBits_19 : decode cX6_litBits 19 = .ok (.iconst 1, 1) := by decide +kernel
theorem dX6_litBits_20 : decode cX6_litBits 20 = .ok (.iload_n 2, 1) := by decide +kernel
theorem dX6_litBits_21 : decode cX6_litBits 21 = .ok (.ishl, 1) := by decide +kernel
theorem dX6_litBits_22 : decode cX6_litBits 22 = .ok (.goto 4, 3) := by decide +kernel
theorem dX6_litBits_25 : decode cX6_litBits 25 = .ok (.iconst 0, 1) := by decide +kernel
theorem dX6_litBits_26 : decode cX6_litBits 26 = .ok (.ior, 1) := by decide +kernel
theorem dX6_litBits_27 : decode cX6_litBits 27 = .ok (.istore_n 1, 1) := by decide +kernel
theorem dX6_litBits_28 : decode cX6_litBits 28 = .ok (.iinc 2 1, 3) := by decide +kernel
theorem dX6_litBits_31 : decode cX6_litBits 31 = .ok (.goto (-27), 3) := by decide +kernel
theorem dX6_litBits_34 : decode cX6_litBits 34 = .ok (.iload_n 1, 1) := by decide +kernel
theorem dX6_litBits_35 : decode cX6_litBits 35 = .ok (.ireturn, 1) := by decide +kernel
theorem dX6_squareOfLamp_0 : decode cX6_squareOfLamp 0 = .ok (.iload_n 1, 1) := by decide +kernel
theorem dX6_squareOfLamp_1 : decode cX6_squareOfLamp 1 = .ok (.ifCond .lt 9, 3) := by decide +kernel
theorem dX6_squareOfLamp_4 : decode cX6_squareOfLamp 4 = .ok (.iload_n 1, 1) := by decide +kernel
theorem dX6_squareOfLamp_5 : decode cX6_squareOfLamp 5 = .ok (.bipush 18, 2) := by decide +kernel
theorem dX6_squareOfLamp_7 : decode cX6_squareOfLamp 7 = .ok (.if_icmp .lt 5, 3) := by decide +kernel
theorem dX6_squareOfLamp_10 : decode cX6_squareOfLamp 10 = .ok (.iconst 0, 1) := by decide +kernel
theorem dX6_squareOfLamp_11 : decode cX6_squareOfLamp 11 = .ok (.ireturn, 1) := by decide +kernel
theorem dX6_squareOfLamp_12 : decode cX6_squareOfLamp 12 = .ok (.iload_n 1, 1) := by decide +kernel
theorem dX6_squareOfLamp_13 : decode cX6_squareOfLamp 13 = .ok (.bipush 12, 2) := by decide +kernel
theorem dX6_squareOfLamp_15 : decode cX6_squareOfLamp 15 = .ok (.if_icmp .ge 15, 3) := by decide +kernel
theorem dX6_squareOfLamp_18 : decode cX6_squareOfLamp 18 = .ok (.aload_n 0, 1) := by decide +kernel
theorem dX6_squareOfLamp_19 : decode cX6_squareOfLamp 19 = .ok (.getfield 18, 3) := by decide +kernel
theorem dX6_squareOfLamp_22 : decode cX6_squareOfLamp 22 = .ok (.getfield 65, 3) := by decide +kernel
theorem dX6_squareOfLamp_25 : decode cX6_squareOfLamp 25 = .ok (.iload_n 1, 1) := by decide +kernel
theorem dX6_squareOfLamp_26 : decode cX6_squareOfLamp 26 = .ok (.iaload, 1) := by decide +kernel
theorem dX6_squareOfLamp_27 : decode cX6_squareOfLamp 27 = .ok (.goto 15, 3) := by decide +kernel
theorem dX6_squareOfLamp_30 : decode cX6_squareOfLamp 30 = .ok (.aload_n 0, 1) := by decide +kernel
theorem dX6_squareOfLamp_31 : decode cX6_squareOfLamp 31 = .ok (.getfield 25, 3) := by decide +kernel
theorem dX6_squareOfLamp_34 : decode cX6_squareOfLamp 34 = .ok (.getfield 71, 3) := by decide +kernel
theorem dX6_squareOfLamp_37 : decode cX6_squareOfLamp 37 = .ok (.iload_n 1, 1) := by decide +kernel
theorem dX6_squareOfLamp_38 : decode cX6_squareOfLamp 38 = .ok (.bipush 12, 2) := by decide +kernel
theorem dX6_squareOfLamp_40 : decode cX6_squareOfLamp 40 = .ok (.isub, 1) := by decide +kernel
theorem dX6_squareOfLamp_41 : decode cX6_squareOfLamp 41 = .ok (.iaload, 1) := by decide +kernel
theorem dX6_squareOfLamp_42 : decode cX6_squareOfLamp 42 = .ok (.ireturn, 1) := by decide +kernel
theorem dX6_kindOfLamp_0 : decode cX6_kindOfLamp 0 = .ok (.iload_n 1, 1) := by decide +kernel
theorem dX6_kindOfLamp_1 : decode cX6_kindOfLamp 1 = .ok (.ifCond .lt 21, 3) := by decide +kernel
theorem dX6_kindOfLamp_4 : decode cX6_kindOfLamp 4 = .ok (.iload_n 1, 1) := by decide +kernel
theorem dX6_kindOfLamp_5 : decode cX6_kindOfLamp 5 = .ok (.bipush 12, 2) := by decide +kernel
theorem dX6_kindOfLamp_7 : decode cX6_kindOfLamp 7 = .ok (.if_icmp .ge 15, 3) := by decide +kernel
theorem dX6_kindOfLamp_10 : decode cX6_kindOfLamp 10 = .ok (.aload_n 0, 1) := by decide +kernel
theorem dX6_kindOfLamp_11 : decode cX6_kindOfLamp 11 = .ok (.getfield 18, 3) := by decide +kernel
theorem dX6_kindOfLamp_14 : decode cX6_kindOfLamp 14 = .ok (.getfield 80, 3) := by decide +kernel
theorem dX6_kindOfLamp_17 : decode cX6_kindOfLamp 17 = .ok (.iload_n 1, 1) := by decide +kernel
theorem dX6_kindOfLamp_18 : decode cX6_kindOfLamp 18 = .ok (.iaload, 1) := by decide +kernel
theorem dX6_kindOfLamp_19 : decode cX6_kindOfLamp 19 = .ok (.goto 4, 3) := by decide +kernel
theorem dX6_kindOfLamp_22 : decode cX6_kindOfLamp 22 = .ok (.iconst 5, 1) := by decide +kernel
theorem dX6_kindOfLamp_23 : decode cX6_kindOfLamp 23 = .ok (.ireturn, 1) := by decide +kernel
theorem dX6_isClouded_0 : decode cX6_isClouded 0 = .ok (.aload_n 0, 1) := by decide +kernel
theorem dX6_isClouded_1 : decode cX6_isClouded 1 = .ok (.getfield 42, 3) := by decide +kernel
theorem dX6_isClouded_4 : decode cX6_isClouded 4 = .ok (.aload_n 0, 1) := by decide +kernel
theorem dX6_isClouded_5 : decode cX6_isClouded 5 = .ok (.getfield 39, 3) := by decide +kernel
theorem dX6_isClouded_8 : decode cX6_isClouded 8 = .ok (.ishr, 1) := by decide +kernel
theorem dX6_isClouded_9 : decode cX6_isClouded 9 = .ok (.iconst 1, 1) := by decide +kernel
theorem dX6_isClouded_10 : decode cX6_isClouded 10 = .ok (.iand, 1) := by decide +kernel
theorem dX6_isClouded_11 : decode cX6_isClouded 11 = .ok (.iconst 1, 1) := by decide +kernel
theorem dX6_isClouded_12 : decode cX6_isClouded 12 = .ok (.if_icmp .ne 7, 3) := by decide +kernel
theorem dX6_isClouded_15 : decode cX6_isClouded 15 = .ok (.iconst 1, 1) := by decide +kernel
theorem dX6_isClouded_16 : decode cX6_isClouded 16 = .ok (.goto 4, 3) := by decide +kernel
theorem dX6_isClouded_19 : decode cX6_isClouded 19 = .ok (.iconst 0, 1) := by decide +kernel
theorem dX6_isClouded_20 : decode cX6_isClouded 20 = .ok (.ireturn, 1) := by decide +kernel
theorem dX6_draw_0 : decode cX6_draw 0 = .ok (.aload_n 0, 1) := by decide +kernel
theorem dX6_draw_1 : decode cX6_draw 1 = .ok (.sipush 25173, 3) := by decide +kernel
theorem dX6_draw_4 : decode cX6_draw 4 = .ok (.aload_n 0, 1) := by decide +kernel
theorem dX6_draw_5 : decode cX6_draw 5 = .ok (.getfield 45, 3) := by decide +kernel
theorem dX6_draw_8 : decode cX6_draw 8 = .ok (.imul, 1) := by decide +kernel
theorem dX6_draw_9 : decode cX6_draw 9 = .ok (.sipush 13849, 3) := by decide +kernel
theorem dX6_draw_12 : decode cX6_draw 12 = .ok (.iadd, 1) := by decide +kernel
theorem dX6_draw_13 : decode cX6_draw 13 = .ok (.ldc 83, 2) := by decide +kernel
theorem dX6_draw_15 : decode cX6_draw 15 = .ok (.iand, 1) := by decide +kernel
theorem dX6_draw_16 : decode cX6_draw 16 = .ok (.putfield 45, 3) := by decide +kernel
theorem dX6_draw_19 : decode cX6_draw 19 = .ok (.aload_n 0, 1) := by decide +kernel
theorem dX6_draw_20 : decode cX6_draw 20 = .ok (.getfield 45, 3) := by decide +kernel
theorem dX6_draw_23 : decode cX6_draw 23 = .ok (.bipush 10, 2) := by decide +kernel
theorem dX6_draw_25 : decode cX6_draw 25 = .ok (.irem, 1) := by decide +kernel
theorem dX6_draw_26 : decode cX6_draw 26 = .ok (.ireturn, 1) := by decide +kernel
theorem dX6_hoursLeft_0 : decode cX6_hoursLeft 0 = .ok (.bipush 8, 2) := by decide +kernel
theorem dX6_hoursLeft_2 : decode cX6_hoursLeft 2 = .ok (.aload_n 0, 1) := by decide +kernel
theorem dX6_hoursLeft_3 : decode cX6_hoursLeft 3 = .ok (.getfield 39, 3) := by decide +kernel
theorem dX6_hoursLeft_6 : decode cX6_hoursLeft 6 = .ok (.isub, 1) := by decide +kernel
theorem dX6_hoursLeft_7 : decode cX6_hoursLeft 7 = .ok (.ireturn, 1) := by decide +kernel
theorem dX6_endHour_0 : decode cX6_endHour 0 = .ok (.aload_n 0, 1) := by decide +kernel
theorem dX6_endHour_1 : decode cX6_endHour 1 = .ok (.dup, 1) := by decide +kernel
theorem dX6_endHour_2 : decode cX6_endHour 2 = .ok (.getfield 39, 3) := by decide +kernel
theorem dX6_endHour_5 : decode cX6_endHour 5 = .ok (.iconst 1, 1) := by decide +kernel
theorem dX6_endHour_6 : decode cX6_endHour 6 = .ok (.iadd, 1) := by decide +kernel
theorem dX6_endHour_7 : decode cX6_endHour 7 = .ok (.putfield 39, 3) := by decide +kernel
theorem dX6_endHour_10 : decode cX6_endHour 10 = .ok (.aload_n 0, 1) := by decide +kernel
theorem dX6_endHour_11 : decode cX6_endHour 11 = .ok (.getfield 39, 3) := by decide +kernel
theorem dX6_endHour_14 : decode cX6_endHour 14 = .ok (.bipush 8, 2) := by decide +kernel
theorem dX6_endHour_16 : decode cX6_endHour 16 = .ok (.if_icmp .lt 30, 3) := by decide +kernel
theorem dX6_endHour_19 : decode cX6_endHour 19 = .ok (.aload_n 0, 1) := by decide +kernel
theorem dX6_endHour_20 : decode cX6_endHour 20 = .ok (.iconst 0, 1) := by decide +kernel
theorem dX6_endHour_21 : decode cX6_endHour 21 = .ok (.putfield 39, 3) := by decide +kernel
theorem dX6_endHour_24 : decode cX6_endHour 24 = .ok (.aload_n 0, 1) := by decide +kernel
theorem dX6_endHour_25 : decode cX6_endHour 25 = .ok (.dup, 1) := by decide +kernel
theorem dX6_endHour_26 : decode cX6_endHour 26 = .ok (.getfield 35, 3) := by decide +kernel
theorem dX6_endHour_29 : decode cX6_endHour 29 = .ok (.iconst 1, 1) := by decide +kernel
theorem dX6_endHour_30 : decode cX6_endHour 30 = .ok (.iadd, 1) := by decide +kernel
theorem dX6_endHour_31 : decode cX6_endHour 31 = .ok (.putfield 35, 3) := by decide +kernel
theorem dX6_endHour_34 : decode cX6_endHour 34 = .ok (.aload_n 0, 1) := by decide +kernel
theorem dX6_endHour_35 : decode cX6_endHour 35 = .ok (.iconst 0, 1) := by decide +kernel
theorem dX6_endHour_36 : decode cX6_endHour 36 = .ok (.putfield 42, 3) := by decide +kernel
theorem dX6_endHour_39 : decode cX6_endHour 39 = .ok (.aload_n 0, 1) := by decide +kernel
theorem dX6_endHour_40 : decode cX6_endHour 40 = .ok (.getfield 18, 3) := by decide +kernel
theorem dX6_endHour_43 : decode cX6_endHour 43 = .ok (.invokevirtual 84, 3) := by decide +kernel
theorem dX6_endHour_46 : decode cX6_endHour 46 = .ok (.return_, 1) := by decide +kernel
theorem dX7_init_0 : decode cX7_init 0 = .ok (.aload_n 0, 1) := by decide +kernel
theorem dX7_init_1 : decode cX7_init 1 = .ok (.invokespecial 3, 3) := by decide +kernel
theorem dX7_init_4 : decode cX7_init 4 = .ok (.aload_n 0, 1) := by decide +kernel
theorem dX7_init_5 : decode cX7_init 5 = .ok (.sipush 260, 3) := by decide +kernel
theorem dX7_init_8 : decode cX7_init 8 = .ok (.newarray .int, 2) := by decide +kernel
theorem dX7_init_10 : decode cX7_init 10 = .ok (.putfield 9, 3) := by decide +kernel
theorem dX7_init_13 : decode cX7_init 13 = .ok (.aload_n 0, 1) := by decide +kernel
theorem dX7_init_14 : decode cX7_init 14 = .ok (.iconst 0, 1) := by decide +kernel
theorem dX7_init_15 : decode cX7_init 15 = .ok (.putfield 15, 3) := by decide +kernel
theorem dX7_init_18 : decode cX7_init 18 = .ok (.return_, 1) := by decide +kernel
theorem dX7_add_0 : decode cX7_add 0 = .ok (.bipush 24, 2) := by decide +kernel
theorem dX7_add_2 : decode cX7_add 2 = .ok (.istore_n 2, 1) := by decide +kernel
theorem dX7_add_3 : decode cX7_add 3 = .ok (.iload_n 2, 1) := by decide +kernel
theorem dX7_add_4 : decode cX7_add 4 = .ok (.ifCond .lt 45, 3) := by decide +kernel
theorem dX7_add_7 : decode cX7_add 7 = .ok (.aload_n 0, 1) := by decide +kernel
theorem dX7_add_8 : decode cX7_add 8 = .ok (.getfield 15, 3) := by decide +kernel
theorem dX7_add_11 : decode cX7_add 11 = .ok (.sipush 260, 3) := by decide +kernel
theorem dX7_add_14 : decode cX7_add 14 = .ok (.if_icmp .ge 35, 3) := by decide +kernel
theorem dX7_add_17 : decode cX7_add 17 = .ok (.aload_n 0, 1) := by decide +kernel
theorem dX7_add_18 : decode cX7_add 18 = .ok (.getfield 9, 3) := by decide +kernel
theorem dX7_add_21 : decode cX7_add 21 = .ok (.aload_n 0, 1) := by decide +kernel
theorem dX7_add_22 : decode cX7_add 22 = .ok (.getfield 15, 3) := by decide +kernel
theorem dX7_add_25 : decode cX7_add 25 = .ok (.iload_n 1, 1) := by decide +kernel
theorem dX7_add_26 : decode cX7_add 26 = .ok (.iload_n 2, 1) := by decide +kernel
theorem dX7_add_27 : decode cX7_add 27 = .ok (.iushr, 1) := by decide +kernel
theorem dX7_add_28 : decode cX7_add 28 = .ok (.sipush 255, 3) := by decide +kernel
theorem dX7_add_31 : decode cX7_add 31 = .ok (.iand, 1) := by decide +kernel
theorem dX7_add_32 : decode cX7_add 32 = .ok (.iastore, 1) := by decide +kernel
theorem dX7_add_33 : decode cX7_add 33 = .ok (.aload_n 0, 1) := by decide +kernel
theorem dX7_add_34 : decode cX7_add 34 = .ok (.dup, 1) := by decide +kernel
theorem dX7_add_35 : decode cX7_add 35 = .ok (.getfield 15, 3) := by decide +kernel
theorem dX7_add_38 : decode cX7_add 38 = .ok (.iconst 1, 1) := by decide +kernel
theorem dX7_add_39 : decode cX7_add 39 = .ok (.iadd, 1) := by decide +kernel
theorem dX7_add_40 : decode cX7_add 40 = .ok (.putfield 15, 3) := by decide +kernel
theorem dX7_add_43 : decode cX7_add 43 = .ok (.iinc 2 (-8), 3) := by decide +kernel
theorem dX7_add_46 : decode cX7_add 46 = .ok (.goto (-43), 3) := by decide +kernel
theorem dX7_add_49 : decode cX7_add 49 = .ok (.return_, 1) := by decide +kernel
theorem dX7_byteAt_0 : decode cX7_byteAt 0 = .ok (.iload_n 1, 1) := by decide +kernel
theorem dX7_byteAt_1 : decode cX7_byteAt 1 = .ok (.ifCond .lt 19, 3) := by decide +kernel
theorem dX7_byteAt_4 : decode cX7_byteAt 4 = .ok (.iload_n 1, 1) := by decide +kernel
theorem dX7_byteAt_5 : decode cX7_byteAt 5 = .ok (.sipush 260, 3) := by decide +kernel
theorem dX7_byteAt_8 : decode cX7_byteAt 8 = .ok (.if_icmp .ge 12, 3) := by decide +kernel
theorem dX7_byteAt_11 : decode cX7_byteAt 11 = .ok (.aload_n 0, 1) := by decide +kernel
theorem dX7_byteAt_12 : decode cX7_byteAt 12 = .ok (.getfield 9, 3) := by decide +kernel
theorem dX7_byteAt_15 : decode cX7_byteAt 15 = .ok (.iload_n 1, 1) := by decide +kernel
theorem dX7_byteAt_16 : decode cX7_byteAt 16 = .ok (.iaload, 1) := by decide +kernel
theorem dX7_byteAt_17 : decode cX7_byteAt 17 = .ok (.goto 4, 3) := by decide +kernel
theorem dX7_byteAt_20 : decode cX7_byteAt 20 = .ok (.iconst 0, 1) := by decide +kernel
theorem dX7_byteAt_21 : decode cX7_byteAt 21 = .ok (.ireturn, 1) := by decide +kernel
theorem dX7_numberAt_0 : decode cX7_numberAt 0 = .ok (.aload_n 0, 1) := by decide +kernel
theorem dX7_numberAt_1 : decode cX7_numberAt 1 = .ok (.iload_n 1, 1) := by decide +kernel
theorem dX7_numberAt_2 : decode cX7_numberAt 2 = .ok (.invokevirtual 19, 3) := by decide +kernel
theorem dX7_numberAt_5 : decode cX7_numberAt 5 = .ok (.bipush 24, 2) := by decide +kernel
theorem dX7_numberAt_7 : decode cX7_numberAt 7 = .ok (.ishl, 1) := by decide +kernel
theorem dX7_numberAt_8 : decode cX7_numberAt 8 = .ok (.aload_n 0, 1) := by decide +kernel
theorem dX7_numberAt_9 : decode cX7_numberAt 9 = .ok (.iload_n 1, 1) := by decide +kernel
theorem dX7_numberAt_10 : decode cX7_numberAt 10 = .ok (.iconst 1, 1) := by decide +kernel
theorem dX7_numberAt_11 : decode cX7_numberAt 11 = .ok (.iadd, 1) := by decide +kernel
theorem dX7_numberAt_12 : decode cX7_numberAt 12 = .ok (.invokevirtual 19, 3) := by decide +kernel
theorem dX7_numberAt_15 : decode cX7_numberAt 15 = .ok (.bipush 16, 2) := by decide +kernel
theorem dX7_numberAt_17 : decode cX7_numberAt 17 = .ok (.ishl, 1) := by decide +kernel
theorem dX7_numberAt_18 : decode cX7_numberAt 18 = .ok (.ior, 1) := by decide +kernel
theorem dX7_numberAt_19 : decode cX7_numberAt 19 = .ok (.aload_n 0, 1) := by decide +kernel
theorem dX7_numberAt_20 : decode cX7_numberAt 20 = .ok (.iload_n 1, 1) := by decide +kernel
theorem dX7_numberAt_21 : decode cX7_numberAt 21 = .ok (.iconst 2, 1) := by decide +kernel
theorem dX7_numberAt_22 : decode cX7_numberAt 22 = .ok (.iadd, 1) := by decide +kernel
theorem dX7_numberAt_23 : decode cX7_numberAt 23 = .ok (.invokevirtual 19, 3) := by decide +kernel
theorem dX7_numberAt_26 : decode cX7_numberAt 26 = .ok (.bipush 8, 2) := by decide +kernel
theorem dX7_numberAt_28 : decode cX7_numberAt 28 = .ok (.ishl, 1) := by decide +kernel
theorem dX7_numberAt_29 : decode cX7_numberAt 29 = .ok (.ior, 1) := by decide +kernel
theorem dX7_numberAt_30 : decode cX7_numberAt 30 = .ok (.aload_n 0, 1) := by decide +kernel
theorem dX7_numberAt_31 : decode cX7_numberAt 31 = .ok (.iload_n 1, 1) := by decide +kernel
theorem dX7_numberAt_32 : decode cX7_numberAt 32 = .ok (.iconst 3, 1) := by decide +kernel
theorem dX7_numberAt_33 : decode cX7_numberAt 33 = .ok (.iadd, 1) := by decide +kernel
theorem dX7_numberAt_34 : decode cX7_numberAt 34 = .ok (.invokevirtual 19, 3) := by decide +kernel
theorem dX7_numberAt_37 : decode cX7_numberAt 37 = .ok (.ior, 1) := by decide +kernel
theorem dX7_numberAt_38 : decode cX7_numberAt 38 = .ok (.ireturn, 1) := by decide +kernel
theorem dJ6_compare_7cf53_0 : decode cJ6_compare_7cf53 0 = .ok (.iload_n 0, 1) := by decide +kernel
theorem dJ6_compare_7cf53_1 : decode cJ6_compare_7cf53 1 = .ok (.iload_n 1, 1) := by decide +kernel
theorem dJ6_compare_7cf53_2 : decode cJ6_compare_7cf53 2 = .ok (.if_icmp .ge 7, 3) := by decide +kernel
theorem dJ6_compare_7cf53_5 : decode cJ6_compare_7cf53 5 = .ok (.iconst (-1), 1) := by decide +kernel
theorem dJ6_compare_7cf53_6 : decode cJ6_compare_7cf53 6 = .ok (.goto 13, 3) := by decide +kernel
theorem dJ6_compare_7cf53_9 : decode cJ6_compare_7cf53 9 = .ok (.iload_n 0, 1) := by decide +kernel
theorem dJ6_compare_7cf53_10 : decode cJ6_compare_7cf53 10 = .ok (.iload_n 1, 1) := by decide +kernel
theorem dJ6_compare_7cf53_11 : decode cJ6_compare_7cf53 11 = .ok (.if_icmp .ne 7, 3) := by decide +kernel
theorem dJ6_compare_7cf53_14 : decode cJ6_compare_7cf53 14 = .ok (.iconst 0, 1) := by decide +kernel
theorem dJ6_compare_7cf53_15 : decode cJ6_compare_7cf53 15 = .ok (.goto 4, 3) := by decide +kernel
theorem dJ6_compare_7cf53_18 : decode cJ6_compare_7cf53 18 = .ok (.iconst 1, 1) := by decide +kernel
theorem dJ6_compare_7cf53_19 : decode cJ6_compare_7cf53 19 = .ok (.ireturn, 1) := by decide +kernel
theorem dJ6_numberOfTrailingZeros_0f7a4_0 : decode cJ6_numberOfTrailingZeros_0f7a4 0 = .ok (.iload_n 0, 1) := by decide +kernel
theorem dJ6_numberOfTrailingZeros_0f7a4_1 : decode cJ6_numberOfTrailingZeros_0f7a4 1 = .ok (.iconst (-1), 1) := by decide +kernel
theorem dJ6_numberOfTrailingZeros_0f7a4_2 : decode cJ6_numberOfTrailingZeros_0f7a4 2 = .ok (.ixor, 1) := by decide +kernel
theorem dJ6_numberOfTrailingZeros_0f7a4_3 : decode cJ6_numberOfTrailingZeros_0f7a4 3 = .ok (.iload_n 0, 1) := by decide +kernel
theorem dJ6_numberOfTrailingZeros_0f7a4_4 : decode cJ6_numberOfTrailingZeros_0f7a4 4 = .ok (.iconst 1, 1) := by decide +kernel
theorem dJ6_numberOfTrailingZeros_0f7a4_5 : decode cJ6_numberOfTrailingZeros_0f7a4 5 = .ok (.isub, 1) := by decide +kernel
theorem dJ6_numberOfTrailingZeros_0f7a4_6 : decode cJ6_numberOfTrailingZeros_0f7a4 6 = .ok (.iand, 1) := by decide +kernel
theorem dJ6_numberOfTrailingZeros_0f7a4_7 : decode cJ6_numberOfTrailingZeros_0f7a4 7 = .ok (.istore_n 0, 1) := by decide +kernel
theorem dJ6_numberOfTrailingZeros_0f7a4_8 : decode cJ6_numberOfTrailingZeros_0f7a4 8 = .ok (.iload_n 0, 1) := by decide +kernel
theorem dJ6_numberOfTrailingZeros_0f7a4_9 : decode cJ6_numberOfTrailingZeros_0f7a4 9 = .ok (.ifCond .gt 8, 3) := by decide +kernel
theorem dJ6_numberOfTrailingZeros_0f7a4_12 : decode cJ6_numberOfTrailingZeros_0f7a4 12 = .ok (.iload_n 0, 1) := by decide +kernel
theorem dJ6_numberOfTrailingZeros_0f7a4_13 : decode cJ6_numberOfTrailingZeros_0f7a4 13 = .ok (.bipush 32, 2) := by decide +kernel
theorem dJ6_numberOfTrailingZeros_0f7a4_15 : decode cJ6_numberOfTrailingZeros_0f7a4 15 = .ok (.iand, 1) := by decide +kernel
theorem dJ6_numberOfTrailingZeros_0f7a4_16 : decode cJ6_numberOfTrailingZeros_0f7a4 16 = .ok (.ireturn, 1) := by decide +kernel
theorem dJ6_numberOfTrailingZeros_0f7a4_17 : decode cJ6_numberOfTrailingZeros_0f7a4 17 = .ok (.iconst 1, 1) := by decide +kernel
theorem dJ6_numberOfTrailingZeros_0f7a4_18 : decode cJ6_numberOfTrailingZeros_0f7a4 18 = .ok (.istore_n 1, 1) := by decide +kernel
theorem dJ6_numberOfTrailingZeros_0f7a4_19 : decode cJ6_numberOfTrailingZeros_0f7a4 19 = .ok (.iload_n 0, 1) := by decide +kernel
theorem dJ6_numberOfTrailingZeros_0f7a4_20 : decode cJ6_numberOfTrailingZeros_0f7a4 20 = .ok (.ldc_w 264, 3) := by decide +kernel
theorem dJ6_numberOfTrailingZeros_0f7a4_23 : decode cJ6_numberOfTrailingZeros_0f7a4 23 = .ok (.if_icmp .le 11, 3) := by decide +kernel
theorem dJ6_numberOfTrailingZeros_0f7a4_26 : decode cJ6_numberOfTrailingZeros_0f7a4 26 = .ok (.iinc 1 16, 3) := by decide +kernel
theorem dJ6_numberOfTrailingZeros_0f7a4_29 : decode cJ6_numberOfTrailingZeros_0f7a4 29 = .ok (.iload_n 0, 1) := by decide +kernel
theorem dJ6_numberOfTrailingZeros_0f7a4_30 : decode cJ6_numberOfTrailingZeros_0f7a4 30 = .ok (.bipush 16, 2) := by decide +kernel
theorem dJ6_numberOfTrailingZeros_0f7a4_32 : decode cJ6_numberOfTrailingZeros_0f7a4 32 = .ok (.iushr, 1) := by decide +kernel
theorem dJ6_numberOfTrailingZeros_0f7a4_33 : decode cJ6_numberOfTrailingZeros_0f7a4 33 = .ok (.istore_n 0, 1) := by decide +kernel
theorem dJ6_numberOfTrailingZeros_0f7a4_34 : decode cJ6_numberOfTrailingZeros_0f7a4 34 = .ok (.iload_n 0, 1) := by decide +kernel
theorem dJ6_numberOfTrailingZeros_0f7a4_35 : decode cJ6_numberOfTrailingZeros_0f7a4 35 = .ok (.sipush 256, 3) := by decide +kernel
theorem dJ6_numberOfTrailingZeros_0f7a4_38 : decode cJ6_numberOfTrailingZeros_0f7a4 38 = .ok (.if_icmp .le 11, 3) := by decide +kernel
theorem dJ6_numberOfTrailingZeros_0f7a4_41 : decode cJ6_numberOfTrailingZeros_0f7a4 41 = .ok (.iinc 1 8, 3) := by decide +kernel
theorem dJ6_numberOfTrailingZeros_0f7a4_44 : decode cJ6_numberOfTrailingZeros_0f7a4 44 = .ok (.iload_n 0, 1) := by decide +kernel
theorem dJ6_numberOfTrailingZeros_0f7a4_45 : decode cJ6_numberOfTrailingZeros_0f7a4 45 = .ok (.bipush 8, 2) := by decide +kernel
theorem dJ6_numberOfTrailingZeros_0f7a4_47 : decode cJ6_numberOfTrailingZeros_0f7a4 47 = .ok (.iushr, 1) := by decide +kernel
theorem dJ6_numberOfTrailingZeros_0f7a4_48 : decode cJ6_numberOfTrailingZeros_0f7a4 48 = .ok (.istore_n 0, 1) := by decide +kernel
theorem dJ6_numberOfTrailingZeros_0f7a4_49 : decode cJ6_numberOfTrailingZeros_0f7a4 49 = .ok (.iload_n 0, 1) := by decide +kernel
theorem dJ6_numberOfTrailingZeros_0f7a4_50 : decode cJ6_numberOfTrailingZeros_0f7a4 50 = .ok (.bipush 16, 2) := by decide +kernel
theorem dJ6_numberOfTrailingZeros_0f7a4_52 : decode cJ6_numberOfTrailingZeros_0f7a4 52 = .ok (.if_icmp .le 10, 3) := by decide +kernel
theorem dJ6_numberOfTrailingZeros_0f7a4_55 : decode cJ6_numberOfTrailingZeros_0f7a4 55 = .ok (.iinc 1 4, 3) := by decide +kernel
theorem dJ6_numberOfTrailingZeros_0f7a4_58 : decode cJ6_numberOfTrailingZeros_0f7a4 58 = .ok (.iload_n 0, 1) := by decide +kernel
theorem dJ6_numberOfTrailingZeros_0f7a4_59 : decode cJ6_numberOfTrailingZeros_0f7a4 59 = .ok (.iconst 4, 1) := by decide +kernel
theorem dJ6_numberOfTrailingZeros_0f7a4_60 : decode cJ6_numberOfTrailingZeros_0f7a4 60 = .ok (.iushr, 1) := by decide +kernel
theorem dJ6_numberOfTrailingZeros_0f7a4_61 : decode cJ6_numberOfTrailingZeros_0f7a4 61 = .ok (.istore_n 0, 1) := by decide +kernel
theorem dJ6_numberOfTrailingZeros_0f7a4_62 : decode cJ6_numberOfTrailingZeros_0f7a4 62 = .ok (.iload_n 0, 1) := by decide +kernel
theorem dJ6_numberOfTrailingZeros_0f7a4_63 : decode cJ6_numberOfTrailingZeros_0f7a4 63 = .ok (.iconst 4, 1) := by decide +kernel
theorem dJ6_numberOfTrailingZeros_0f7a4_64 : decode cJ6_numberOfTrailingZeros_0f7a4 64 = .ok (.if_icmp .le 10, 3) := by decide +kernel
theorem dJ6_numberOfTrailingZeros_0f7a4_67 : decode cJ6_numberOfTrailingZeros_0f7a4 67 = .ok (.iinc 1 2, 3) := by decide +kernel
theorem dJ6_numberOfTrailingZeros_0f7a4_70 : decode cJ6_numberOfTrailingZeros_0f7a4 70 = .ok (.iload_n 0, 1) := by decide +kernel
theorem dJ6_numberOfTrailingZeros_0f7a4_71 : decode cJ6_numberOfTrailingZeros_0f7a4 71 = .ok (.iconst 2, 1) := by decide +kernel
theorem dJ6_numberOfTrailingZeros_0f7a4_72 : decode cJ6_numberOfTrailingZeros_0f7a4 72 = .ok (.iushr, 1) := by decide +kernel
theorem dJ6_numberOfTrailingZeros_0f7a4_73 : decode cJ6_numberOfTrailingZeros_0f7a4 73 = .ok (.istore_n 0, 1) := by decide +kernel
theorem dJ6_numberOfTrailingZeros_0f7a4_74 : decode cJ6_numberOfTrailingZeros_0f7a4 74 = .ok (.iload_n 1, 1) := by decide +kernel
theorem dJ6_numberOfTrailingZeros_0f7a4_75 : decode cJ6_numberOfTrailingZeros_0f7a4 75 = .ok (.iload_n 0, 1) := by decide +kernel
theorem dJ6_numberOfTrailingZeros_0f7a4_76 : decode cJ6_numberOfTrailingZeros_0f7a4 76 = .ok (.iconst 1, 1) := by decide +kernel
theorem dJ6_numberOfTrailingZeros_0f7a4_77 : decode cJ6_numberOfTrailingZeros_0f7a4 77 = .ok (.iushr, 1) := by decide +kernel
theorem dJ6_numberOfTrailingZeros_0f7a4_78 : decode cJ6_numberOfTrailingZeros_0f7a4 78 = .ok (.iadd, 1) := by decide +kernel
theorem dJ6_numberOfTrailingZeros_0f7a4_79 : decode cJ6_numberOfTrailingZeros_0f7a4 79 = .ok (.ireturn, 1) := by decide +kernel
theorem dJ6_bitCount_0f7a4_0 : decode cJ6_bitCount_0f7a4 0 = .ok (.iload_n 0, 1) := by decide +kernel
theorem dJ6_bitCount_0f7a4_1 : decode cJ6_bitCount_0f7a4 1 = .ok (.iload_n 0, 1) := by decide +kernel
theorem dJ6_bitCount_0f7a4_2 : decode cJ6_bitCount_0f7a4 2 = .ok (.iconst 1, 1) := by decide +kernel
theorem dJ6_bitCount_0f7a4_3 : decode cJ6_bitCount_0f7a4 3 = .ok (.iushr, 1) := by decide +kernel
theorem dJ6_bitCount_0f7a4_4 : decode cJ6_bitCount_0f7a4 4 = .ok (.ldc_w 265, 3) := by decide +kernel
theorem dJ6_bitCount_0f7a4_7 : decode cJ6_bitCount_0f7a4 7 = .ok (.iand, 1) := by decide +kernel
theorem dJ6_bitCount_0f7a4_8 : decode cJ6_bitCount_0f7a4 8 = .ok (.isub, 1) := by decide +kernel
theorem dJ6_bitCount_0f7a4_9 : decode cJ6_bitCount_0f7a4 9 = .ok (.istore_n 0, 1) := by decide +kernel
theorem dJ6_bitCount_0f7a4_10 : decode cJ6_bitCount_0f7a4 10 = .ok (.iload_n 0, 1) := by decide +kernel
theorem dJ6_bitCount_0f7a4_11 : decode cJ6_bitCount_0f7a4 11 = .ok (.ldc_w 266, 3) := by decide +kernel
theorem dJ6_bitCount_0f7a4_14 : decode cJ6_bitCount_0f7a4 14 = .ok (.iand, 1) := by decide +kernel
theorem dJ6_bitCount_0f7a4_15 : decode cJ6_bitCount_0f7a4 15 = .ok (.iload_n 0, 1) := by decide +kernel
theorem dJ6_bitCount_0f7a4_16 : decode cJ6_bitCount_0f7a4 16 = .ok (.iconst 2, 1) := by decide +kernel
theorem dJ6_bitCount_0f7a4_17 : decode cJ6_bitCount_0f7a4 17 = .ok (.iushr, 1) := by decide +kernel
theorem dJ6_bitCount_0f7a4_18 : decode cJ6_bitCount_0f7a4 18 = .ok (.ldc_w 266, 3) := by decide +kernel
theorem dJ6_bitCount_0f7a4_21 : decode cJ6_bitCount_0f7a4 21 = .ok (.iand, 1) := by decide +kernel
theorem dJ6_bitCount_0f7a4_22 : decode cJ6_bitCount_0f7a4 22 = .ok (.iadd, 1) := by decide +kernel
theorem dJ6_bitCount_0f7a4_23 : decode cJ6_bitCount_0f7a4 23 = .ok (.istore_n 0, 1) := by decide +kernel
theorem dJ6_bitCount_0f7a4_24 : decode cJ6_bitCount_0f7a4 24 = .ok (.iload_n 0, 1) := by decide +kernel
theorem dJ6_bitCount_0f7a4_25 : decode cJ6_bitCount_0f7a4 25 = .ok (.iload_n 0, 1) := by decide +kernel
theorem dJ6_bitCount_0f7a4_26 : decode cJ6_bitCount_0f7a4 26 = .ok (.iconst 4, 1) := by decide +kernel
theorem dJ6_bitCount_0f7a4_27 : decode cJ6_bitCount_0f7a4 27 = .ok (.iushr, 1) := by decide +kernel
theorem dJ6_bitCount_0f7a4_28 : decode cJ6_bitCount_0f7a4 28 = .ok (.iadd, 1) := by decide +kernel
theorem dJ6_bitCount_0f7a4_29 : decode cJ6_bitCount_0f7a4 29 = .ok (.ldc_w 267, 3) := by decide +kernel
theorem dJ6_bitCount_0f7a4_32 : decode cJ6_bitCount_0f7a4 32 = .ok (.iand, 1) := by decide +kernel
theorem dJ6_bitCount_0f7a4_33 : decode cJ6_bitCount_0f7a4 33 = .ok (.istore_n 0, 1) := by decide +kernel
theorem dJ6_bitCount_0f7a4_34 : decode cJ6_bitCount_0f7a4 34 = .ok (.iload_n 0, 1) := by decide +kernel
theorem dJ6_bitCount_0f7a4_35 : decode cJ6_bitCount_0f7a4 35 = .ok (.iload_n 0, 1) := by decide +kernel
theorem dJ6_bitCount_0f7a4_36 : decode cJ6_bitCount_0f7a4 36 = .ok (.bipush 8, 2) := by decide +kernel
theorem dJ6_bitCount_0f7a4_38 : decode cJ6_bitCount_0f7a4 38 = .ok (.iushr, 1) := by decide +kernel
theorem dJ6_bitCount_0f7a4_39 : decode cJ6_bitCount_0f7a4 39 = .ok (.iadd, 1) := by decide +kernel
theorem dJ6_bitCount_0f7a4_40 : decode cJ6_bitCount_0f7a4 40 = .ok (.istore_n 0, 1) := by decide +kernel
theorem dJ6_bitCount_0f7a4_41 : decode cJ6_bitCount_0f7a4 41 = .ok (.iload_n 0, 1) := by decide +kernel
theorem dJ6_bitCount_0f7a4_42 : decode cJ6_bitCount_0f7a4 42 = .ok (.iload_n 0, 1) := by decide +kernel
theorem dJ6_bitCount_0f7a4_43 : decode cJ6_bitCount_0f7a4 43 = .ok (.bipush 16, 2) := by decide +kernel
theorem dJ6_bitCount_0f7a4_45 : decode cJ6_bitCount_0f7a4 45 = .ok (.iushr, 1) := by decide +kernel
theorem dJ6_bitCount_0f7a4_46 : decode cJ6_bitCount_0f7a4 46 = .ok (.iadd, 1) := by decide +kernel
theorem dJ6_bitCount_0f7a4_47 : decode cJ6_bitCount_0f7a4 47 = .ok (.istore_n 0, 1) := by decide +kernel
theorem dJ6_bitCount_0f7a4_48 : decode cJ6_bitCount_0f7a4 48 = .ok (.iload_n 0, 1) := by decide +kernel
theorem dJ6_bitCount_0f7a4_49 : decode cJ6_bitCount_0f7a4 49 = .ok (.bipush 63, 2) := by decide +kernel
theorem dJ6_bitCount_0f7a4_51 : decode cJ6_bitCount_0f7a4 51 = .ok (.iand, 1) := by decide +kernel
theorem dJ6_bitCount_0f7a4_52 : decode cJ6_bitCount_0f7a4 52 = .ok (.ireturn, 1) := by decide +kernel
theorem dJ0_length_8abf5_0 : decode cJ0_length_8abf5 0 = .ok (.aload_n 0, 1) := by decide +kernel
theorem dJ0_length_8abf5_1 : decode cJ0_length_8abf5 1 = .ok (.getfield 9, 3) := by decide +kernel
theorem dJ0_length_8abf5_4 : decode cJ0_length_8abf5 4 = .ok (.arraylength, 1) := by decide +kernel
theorem dJ0_length_8abf5_5 : decode cJ0_length_8abf5 5 = .ok (.aload_n 0, 1) := by decide +kernel
theorem dJ0_length_8abf5_6 : decode cJ0_length_8abf5 6 = .ok (.invokevirtual 335, 3) := by decide +kernel
theorem dJ0_length_8abf5_9 : decode cJ0_length_8abf5 9 = .ok (.ishr, 1) := by decide +kernel
theorem dJ0_length_8abf5_10 : decode cJ0_length_8abf5 10 = .ok (.ireturn, 1) := by decide +kernel
theorem dJ0_indexOf_0f7a4_0 : decode cJ0_indexOf_0f7a4 0 = .ok (.aload_n 0, 1) := by decide +kernel
theorem dJ0_indexOf_0f7a4_1 : decode cJ0_indexOf_0f7a4 1 = .ok (.iload_n 1, 1) := by decide +kernel
theorem dJ0_indexOf_0f7a4_2 : decode cJ0_indexOf_0f7a4 2 = .ok (.iconst 0, 1) := by decide +kernel
theorem dJ0_indexOf_0f7a4_3 : decode cJ0_indexOf_0f7a4 3 = .ok (.invokevirtual 633, 3) := by decide +kernel
theorem dJ0_indexOf_0f7a4_6 : decode cJ0_indexOf_0f7a4 6 = .ok (.ireturn, 1) := by decide +kernel
theorem dJ0_indexOf_7cf53_0 : decode cJ0_indexOf_7cf53 0 = .ok (.aload_n 0, 1) := by decide +kernel
theorem dJ0_indexOf_7cf53_1 : decode cJ0_indexOf_7cf53 1 = .ok (.invokevirtual 492, 3) := by decide +kernel
theorem dJ0_indexOf_7cf53_4 : decode cJ0_indexOf_7cf53 4 = .ok (.ifCond .eq 19, 3) := by decide +kernel
theorem dJ0_indexOf_7cf53_7 : decode cJ0_indexOf_7cf53 7 = .ok (.aload_n 0, 1) := by decide +kernel
theorem dJ0_indexOf_7cf53_8 : decode cJ0_indexOf_7cf53 8 = .ok (.getfield 9, 3) := by decide +kernel
theorem dJ0_indexOf_7cf53_11 : decode cJ0_indexOf_7cf53 11 = .ok (.iload_n 1, 1) := by decide +kernel
theorem dJ0_indexOf_7cf53_12 : decode cJ0_indexOf_7cf53 12 = .ok (.iload_n 2, 1) := by decide +kernel
theorem dJ0_indexOf_7cf53_13 : decode cJ0_indexOf_7cf53 13 = .ok (.aload_n 0, 1) := by decide +kernel
theorem dJ0_indexOf_7cf53_14 : decode cJ0_indexOf_7cf53 14 = .ok (.invokevirtual 505, 3) := by decide +kernel
theorem dJ0_indexOf_7cf53_17 : decode cJ0_indexOf_7cf53 17 = .ok (.invokestatic 637, 3) := by decide +kernel
theorem dJ0_indexOf_7cf53_20 : decode cJ0_indexOf_7cf53 20 = .ok (.goto 16, 3) := by decide +kernel
theorem dJ0_indexOf_7cf53_23 : decode cJ0_indexOf_7cf53 23 = .ok (.aload_n 0, 1) := by decide +kernel
theorem dJ0_indexOf_7cf53_24 : decode cJ0_indexOf_7cf53 24 = .ok (.getfield 9, 3) := by decide +kernel
theorem dJ0_indexOf_7cf53_27 : decode cJ0_indexOf_7cf53 27 = .ok (.iload_n 1, 1) := by decide +kernel
theorem dJ0_indexOf_7cf53_28 : decode cJ0_indexOf_7cf53 28 = .ok (.iload_n 2, 1) := by decide +kernel
theorem dJ0_indexOf_7cf53_29 : decode cJ0_indexOf_7cf53 29 = .ok (.aload_n 0, 1) := by decide +kernel
theorem dJ0_indexOf_7cf53_30 : decode cJ0_indexOf_7cf53 30 = .ok (.invokevirtual 505, 3) := by decide +kernel
theorem dJ0_indexOf_7cf53_33 : decode cJ0_indexOf_7cf53 33 = .ok (.invokestatic 640, 3) := by decide +kernel
theorem dJ0_indexOf_7cf53_36 : decode cJ0_indexOf_7cf53 36 = .ok (.ireturn, 1) := by decide +kernel
theorem dJ0_coder_7d493_0 : decode cJ0_coder_7d493 0 = .ok (.getstatic 38, 3) := by decide +kernel
theorem dJ0_coder_7d493_3 : decode cJ0_coder_7d493 3 = .ok (.ifCond .eq 10, 3) := by decide +kernel
theorem dJ0_coder_7d493_6 : decode cJ0_coder_7d493 6 = .ok (.aload_n 0, 1) := by decide +kernel
theorem dJ0_coder_7d493_7 : decode cJ0_coder_7d493 7 = .ok (.getfield 15, 3) := by decide +kernel
theorem dJ0_coder_7d493_10 : decode cJ0_coder_7d493 10 = .ok (.goto 4, 3) := by decide +kernel
theorem dJ0_coder_7d493_13 : decode cJ0_coder_7d493 13 = .ok (.iconst 1, 1) := by decide +kernel
theorem dJ0_coder_7d493_14 : decode cJ0_coder_7d493 14 = .ok (.ireturn, 1) := by decide +kernel
theorem dJ0_isLatin1_aae02_0 : decode cJ0_isLatin1_aae02 0 = .ok (.getstatic 38, 3) := by decide +kernel
theorem dJ0_isLatin1_aae02_3 : decode cJ0_isLatin1_aae02 3 = .ok (.ifCond .eq 14, 3) := by decide +kernel
theorem dJ0_isLatin1_aae02_6 : decode cJ0_isLatin1_aae02 6 = .ok (.aload_n 0, 1) := by decide +kernel
theorem dJ0_isLatin1_aae02_7 : decode cJ0_isLatin1_aae02 7 = .ok (.getfield 15, 3) := by decide +kernel
theorem dJ0_isLatin1_aae02_10 : decode cJ0_isLatin1_aae02 10 = .ok (.ifCond .ne 7, 3) := by decide +kernel
theorem dJ0_isLatin1_aae02_13 : decode cJ0_isLatin1_aae02 13 = .ok (.iconst 1, 1) := by decide +kernel
theorem dJ0_isLatin1_aae02_14 : decode cJ0_isLatin1_aae02 14 = .ok (.goto 4, 3) := by decide +kernel
theorem dJ0_isLatin1_aae02_17 : decode cJ0_isLatin1_aae02 17 = .ok (.iconst 0, 1) := by decide +kernel
theorem dJ0_isLatin1_aae02_18 : decode cJ0_isLatin1_aae02 18 = .ok (.ireturn, 1) := by decide +kernel
theorem dJ1_canEncode_9a6ad_0 : decode cJ1_canEncode_9a6ad 0 = .ok (.iload_n 0, 1) := by decide +kernel
theorem dJ1_canEncode_9a6ad_1 : decode cJ1_canEncode_9a6ad 1 = .ok (.ifCond .lt 14, 3) := by decide +kernel
theorem dJ1_canEncode_9a6ad_4 : decode cJ1_canEncode_9a6ad 4 = .ok (.iload_n 0, 1) := by decide +kernel
theorem dJ1_canEncode_9a6ad_5 : decode cJ1_canEncode_9a6ad 5 = .ok (.sipush 255, 3) := by decide +kernel
theorem dJ1_canEncode_9a6ad_8 : decode cJ1_canEncode_9a6ad 8 = .ok (.if_icmp .gt 7, 3) := by decide +kernel
theorem dJ1_canEncode_9a6ad_11 : decode cJ1_canEncode_9a6ad 11 = .ok (.iconst 1, 1) := by decide +kernel
theorem dJ1_canEncode_9a6ad_12 : decode cJ1_canEncode_9a6ad 12 = .ok (.goto 4, 3) := by decide +kernel
theorem dJ1_canEncode_9a6ad_15 : decode cJ1_canEncode_9a6ad 15 = .ok (.iconst 0, 1) := by decide +kernel
theorem dJ1_canEncode_9a6ad_16 : decode cJ1_canEncode_9a6ad 16 = .ok (.ireturn, 1) := by decide +kernel
theorem dJ1_indexOf_4cfef_0 : decode cJ1_indexOf_4cfef 0 = .ok (.iload_n 1, 1) := by decide +kernel
theorem dJ1_indexOf_4cfef_1 : decode cJ1_indexOf_4cfef 1 = .ok (.invokestatic 88, 3) := by decide +kernel
theorem dJ1_indexOf_4cfef_4 : decode cJ1_indexOf_4cfef 4 = .ok (.ifCond .ne 5, 3) := by decide +kernel
theorem dJ1_indexOf_4cfef_7 : decode cJ1_indexOf_4cfef 7 = .ok (.iconst (-1), 1) := by decide +kernel
theorem dJ1_indexOf_4cfef_8 : decode cJ1_indexOf_4cfef 8 = .ok (.ireturn, 1) := by decide +kernel
theorem dJ1_indexOf_4cfef_9 : decode cJ1_indexOf_4cfef 9 = .ok (.iload_n 2, 1) := by decide +kernel
theorem dJ1_indexOf_4cfef_10 : decode cJ1_indexOf_4cfef 10 = .ok (.iconst 0, 1) := by decide +kernel
theorem dJ1_indexOf_4cfef_11 : decode cJ1_indexOf_4cfef 11 = .ok (.invokestatic 92, 3) := by decide +kernel
theorem dJ1_indexOf_4cfef_14 : decode cJ1_indexOf_4cfef 14 = .ok (.istore_n 2, 1) := by decide +kernel
theorem dJ1_indexOf_4cfef_15 : decode cJ1_indexOf_4cfef 15 = .ok (.iload_n 3, 1) := by decide +kernel
theorem dJ1_indexOf_4cfef_16 : decode cJ1_indexOf_4cfef 16 = .ok (.aload_n 0, 1) := by decide +kernel
theorem dJ1_indexOf_4cfef_17 : decode cJ1_indexOf_4cfef 17 = .ok (.arraylength, 1) := by decide +kernel
theorem dJ1_indexOf_4cfef_18 : decode cJ1_indexOf_4cfef 18 = .ok (.invokestatic 38, 3) := by decide +kernel
theorem dJ1_indexOf_4cfef_21 : decode cJ1_indexOf_4cfef 21 = .ok (.istore_n 3, 1) := by decide +kernel
theorem dJ1_indexOf_4cfef_22 : decode cJ1_indexOf_4cfef 22 = .ok (.iload_n 2, 1) := by decide +kernel
theorem dJ1_indexOf_4cfef_23 : decode cJ1_indexOf_4cfef 23 = .ok (.iload_n 3, 1) := by decide +kernel
theorem dJ1_indexOf_4cfef_24 : decode cJ1_indexOf_4cfef 24 = .ok (.if_icmp .lt 5, 3) := by decide +kernel
theorem dJ1_indexOf_4cfef_27 : decode cJ1_indexOf_4cfef 27 = .ok (.iconst (-1), 1) := by decide +kernel
theorem dJ1_indexOf_4cfef_28 : decode cJ1_indexOf_4cfef 28 = .ok (.ireturn, 1) := by decide +kernel
theorem dJ1_indexOf_4cfef_29 : decode cJ1_indexOf_4cfef 29 = .ok (.aload_n 0, 1) := by decide +kernel
theorem dJ1_indexOf_4cfef_30 : decode cJ1_indexOf_4cfef 30 = .ok (.iload_n 1, 1) := by decide +kernel
theorem dJ1_indexOf_4cfef_31 : decode cJ1_indexOf_4cfef 31 = .ok (.iload_n 2, 1) := by decide +kernel
theorem dJ1_indexOf_4cfef_32 : decode cJ1_indexOf_4cfef 32 = .ok (.iload_n 3, 1) := by decide +kernel
theorem dJ1_indexOf_4cfef_33 : decode cJ1_indexOf_4cfef 33 = .ok (.invokestatic 95, 3) := by decide +kernel
theorem dJ1_indexOf_4cfef_36 : decode cJ1_indexOf_4cfef 36 = .ok (.ireturn, 1) := by decide +kernel
theorem dJ1_indexOfChar_4cfef_0 : decode cJ1_indexOfChar_4cfef 0 = .ok (.iload_n 1, 1) := by decide +kernel
theorem dJ1_indexOfChar_4cfef_1 : decode cJ1_indexOfChar_4cfef 1 = .ok (.i2b, 1) := by decide +kernel
theorem dJ1_indexOfChar_4cfef_2 : decode cJ1_indexOfChar_4cfef 2 = .ok (.istore 4, 2) := by decide +kernel
theorem dJ1_indexOfChar_4cfef_4 : decode cJ1_indexOfChar_4cfef 4 = .ok (.iload_n 2, 1) := by decide +kernel
theorem dJ1_indexOfChar_4cfef_5 : decode cJ1_indexOfChar_4cfef 5 = .ok (.istore 5, 2) := by decide +kernel
theorem dJ1_indexOfChar_4cfef_7 : decode cJ1_indexOfChar_4cfef 7 = .ok (.iload 5, 2) := by decide +kernel
theorem dJ1_indexOfChar_4cfef_9 : decode cJ1_indexOfChar_4cfef 9 = .ok (.iload_n 3, 1) := by decide +kernel
theorem dJ1_indexOfChar_4cfef_10 : decode cJ1_indexOfChar_4cfef 10 = .ok (.if_icmp .ge 21, 3) := by decide +kernel
theorem dJ1_indexOfChar_4cfef_13 : decode cJ1_indexOfChar_4cfef 13 = .ok (.aload_n 0, 1) := by decide +kernel
theorem dJ1_indexOfChar_4cfef_14 : decode cJ1_indexOfChar_4cfef 14 = .ok (.iload 5, 2) := by decide +kernel
theorem dJ1_indexOfChar_4cfef_16 : decode cJ1_indexOfChar_4cfef 16 = .ok (.baload, 1) := by decide +kernel
theorem dJ1_indexOfChar_4cfef_17 : decode cJ1_indexOfChar_4cfef 17 = .ok (.iload 4, 2) := by decide +kernel
theorem dJ1_indexOfChar_4cfef_19 : decode cJ1_indexOfChar_4cfef 19 = .ok (.if_icmp .ne 6, 3) := by decide +kernel
theorem dJ1_indexOfChar_4cfef_22 : decode cJ1_indexOfChar_4cfef 22 = .ok (.iload 5, 2) := by decide +kernel
theorem dJ1_indexOfChar_4cfef_24 : decode cJ1_indexOfChar_4cfef 24 = .ok (.ireturn, 1) := by decide +kernel
theorem dJ1_indexOfChar_4cfef_25 : decode cJ1_indexOfChar_4cfef 25 = .ok (.iinc 5 1, 3) := by decide +kernel
theorem dJ1_indexOfChar_4cfef_28 : decode cJ1_indexOfChar_4cfef 28 = .ok (.goto (-21), 3) := by decide +kernel
theorem dJ1_indexOfChar_4cfef_31 : decode cJ1_indexOfChar_4cfef 31 = .ok (.iconst (-1), 1) := by decide +kernel
theorem dJ1_indexOfChar_4cfef_32 : decode cJ1_indexOfChar_4cfef 32 = .ok (.ireturn, 1) := by decide +kernel
theorem dJ2_length_9d52b_0 : decode cJ2_length_9d52b 0 = .ok (.aload_n 0, 1) := by decide +kernel
theorem dJ2_length_9d52b_1 : decode cJ2_length_9d52b 1 = .ok (.arraylength, 1) := by decide +kernel
theorem dJ2_length_9d52b_2 : decode cJ2_length_9d52b 2 = .ok (.iconst 1, 1) := by decide +kernel
theorem dJ2_length_9d52b_3 : decode cJ2_length_9d52b 3 = .ok (.ishr, 1) := by decide +kernel
theorem dJ2_length_9d52b_4 : decode cJ2_length_9d52b 4 = .ok (.ireturn, 1) := by decide +kernel
theorem dJ2_indexOf_4cfef_0 : decode cJ2_indexOf_4cfef 0 = .ok (.iload_n 2, 1) := by decide +kernel
theorem dJ2_indexOf_4cfef_1 : decode cJ2_indexOf_4cfef 1 = .ok (.iconst 0, 1) := by decide +kernel
theorem dJ2_indexOf_4cfef_2 : decode cJ2_indexOf_4cfef 2 = .ok (.invokestatic 224, 3) := by decide +kernel
theorem dJ2_indexOf_4cfef_5 : decode cJ2_indexOf_4cfef 5 = .ok (.istore_n 2, 1) := by decide +kernel
theorem dJ2_indexOf_4cfef_6 : decode cJ2_indexOf_4cfef 6 = .ok (.iload_n 3, 1) := by decide +kernel
theorem dJ2_indexOf_4cfef_7 : decode cJ2_indexOf_4cfef 7 = .ok (.aload_n 0, 1) := by decide +kernel
theorem dJ2_indexOf_4cfef_8 : decode cJ2_indexOf_4cfef 8 = .ok (.arraylength, 1) := by decide +kernel
theorem dJ2_indexOf_4cfef_9 : decode cJ2_indexOf_4cfef 9 = .ok (.iconst 1, 1) := by decide +kernel
theorem dJ2_indexOf_4cfef_10 : decode cJ2_indexOf_4cfef 10 = .ok (.ishr, 1) := by decide +kernel
theorem dJ2_indexOf_4cfef_11 : decode cJ2_indexOf_4cfef 11 = .ok (.invokestatic 183, 3) := by decide +kernel
theorem dJ2_indexOf_4cfef_14 : decode cJ2_indexOf_4cfef 14 = .ok (.istore_n 3, 1) := by decide +kernel
theorem dJ2_indexOf_4cfef_15 : decode cJ2_indexOf_4cfef 15 = .ok (.iload_n 2, 1) := by decide +kernel
theorem dJ2_indexOf_4cfef_16 : decode cJ2_indexOf_4cfef 16 = .ok (.iload_n 3, 1) := by decide +kernel
theorem dJ2_indexOf_4cfef_17 : decode cJ2_indexOf_4cfef 17 = .ok (.if_icmp .lt 5, 3) := by decide +kernel
theorem dJ2_indexOf_4cfef_20 : decode cJ2_indexOf_4cfef 20 = .ok (.iconst (-1), 1) := by decide +kernel
theorem dJ2_indexOf_4cfef_21 : decode cJ2_indexOf_4cfef 21 = .ok (.ireturn, 1) := by decide +kernel
theorem dJ2_indexOf_4cfef_22 : decode cJ2_indexOf_4cfef 22 = .ok (.iload_n 1, 1) := by decide +kernel
theorem dJ2_indexOf_4cfef_23 : decode cJ2_indexOf_4cfef 23 = .ok (.ldc 227, 2) := by decide +kernel
theorem dJ2_indexOf_4cfef_25 : decode cJ2_indexOf_4cfef 25 = .ok (.if_icmp .ge 11, 3) := by decide +kernel
theorem dJ2_indexOf_4cfef_28 : decode cJ2_indexOf_4cfef 28 = .ok (.aload_n 0, 1) := by decide +kernel
theorem dJ2_indexOf_4cfef_29 : decode cJ2_indexOf_4cfef 29 = .ok (.iload_n 1, 1) := by decide +kernel
theorem dJ2_indexOf_4cfef_30 : decode cJ2_indexOf_4cfef 30 = .ok (.iload_n 2, 1) := by decide +kernel
theorem dJ2_indexOf_4cfef_31 : decode cJ2_indexOf_4cfef 31 = .ok (.iload_n 3, 1) := by decide +kernel
theorem dJ2_indexOf_4cfef_32 : decode cJ2_indexOf_4cfef 32 = .ok (.invokestatic 228, 3) := by decide +kernel
theorem dJ2_indexOf_4cfef_35 : decode cJ2_indexOf_4cfef 35 = .ok (.ireturn, 1) := by decide +kernel
theorem dJ2_indexOf_4cfef_36 : decode cJ2_indexOf_4cfef 36 = .ok (.aload_n 0, 1) := by decide +kernel
theorem dJ2_indexOf_4cfef_37 : decode cJ2_indexOf_4cfef 37 = .ok (.iload_n 1, 1) := by decide +kernel
theorem dJ2_indexOf_4cfef_38 : decode cJ2_indexOf_4cfef 38 = .ok (.iload_n 2, 1) := by decide +kernel
theorem dJ2_indexOf_4cfef_39 : decode cJ2_indexOf_4cfef 39 = .ok (.iload_n 3, 1) := by decide +kernel
theorem dJ2_indexOf_4cfef_40 : decode cJ2_indexOf_4cfef 40 = .ok (.invokestatic 232, 3) := by decide +kernel
theorem dJ2_indexOf_4cfef_43 : decode cJ2_indexOf_4cfef 43 = .ok (.ireturn, 1) := by decide +kernel
theorem dJ2_indexOfChar_4cfef_0 : decode cJ2_indexOfChar_4cfef 0 = .ok (.iload_n 2, 1) := by decide +kernel
theorem dJ2_indexOfChar_4cfef_1 : decode cJ2_indexOfChar_4cfef 1 = .ok (.iload_n 3, 1) := by decide +kernel
theorem dJ2_indexOfChar_4cfef_2 : decode cJ2_indexOfChar_4cfef 2 = .ok (.aload_n 0, 1) := by decide +kernel
theorem dJ2_indexOfChar_4cfef_3 : decode cJ2_indexOfChar_4cfef 3 = .ok (.invokestatic 96, 3) := by decide +kernel
theorem dJ2_indexOfChar_4cfef_6 : decode cJ2_indexOfChar_4cfef 6 = .ok (.aload_n 0, 1) := by decide +kernel
theorem dJ2_indexOfChar_4cfef_7 : decode cJ2_indexOfChar_4cfef 7 = .ok (.iload_n 1, 1) := by decide +kernel
theorem dJ2_indexOfChar_4cfef_8 : decode cJ2_indexOfChar_4cfef 8 = .ok (.iload_n 2, 1) := by decide +kernel
theorem dJ2_indexOfChar_4cfef_9 : decode cJ2_indexOfChar_4cfef 9 = .ok (.iload_n 3, 1) := by decide +kernel
theorem dJ2_indexOfChar_4cfef_10 : decode cJ2_indexOfChar_4cfef 10 = .ok (.invokestatic 244, 3) := by decide +kernel
theorem dJ2_indexOfChar_4cfef_13 : decode cJ2_indexOfChar_4cfef 13 = .ok (.ireturn, 1) := by decide +kernel
theorem dJ2_indexOfCharUnsafe_4cfef_0 : decode cJ2_indexOfCharUnsafe_4cfef 0 = .ok (.iload_n 2, 1) := by decide +kernel
theorem dJ2_indexOfCharUnsafe_4cfef_1 : decode cJ2_indexOfCharUnsafe_4cfef 1 = .ok (.istore 4, 2) := by decide +kernel
theorem dJ2_indexOfCharUnsafe_4cfef_3 : decode cJ2_indexOfCharUnsafe_4cfef 3 = .ok (.iload 4, 2) := by decide +kernel
theorem dJ2_indexOfCharUnsafe_4cfef_5 : decode cJ2_indexOfCharUnsafe_4cfef 5 = .ok (.iload_n 3, 1) := by decide +kernel
theorem dJ2_indexOfCharUnsafe_4cfef_6 : decode cJ2_indexOfCharUnsafe_4cfef 6 = .ok (.if_icmp .ge 22, 3) := by decide +kernel
theorem dJ2_indexOfCharUnsafe_4cfef_9 : decode cJ2_indexOfCharUnsafe_4cfef 9 = .ok (.aload_n 0, 1) := by decide +kernel
theorem dJ2_indexOfCharUnsafe_4cfef_10 : decode cJ2_indexOfCharUnsafe_4cfef 10 = .ok (.iload 4, 2) := by decide +kernel
theorem dJ2_indexOfCharUnsafe_4cfef_12 : decode cJ2_indexOfCharUnsafe_4cfef 12 = .ok (.invokestatic 71, 3) := by decide +kernel
theorem dJ2_indexOfCharUnsafe_4cfef_15 : decode cJ2_indexOfCharUnsafe_4cfef 15 = .ok (.iload_n 1, 1) := by decide +kernel
theorem dJ2_indexOfCharUnsafe_4cfef_16 : decode cJ2_indexOfCharUnsafe_4cfef 16 = .ok (.if_icmp .ne 6, 3) := by decide +kernel
theorem dJ2_indexOfCharUnsafe_4cfef_19 : decode cJ2_indexOfCharUnsafe_4cfef 19 = .ok (.iload 4, 2) := by decide +kernel
theorem dJ2_indexOfCharUnsafe_4cfef_21 : decode cJ2_indexOfCharUnsafe_4cfef 21 = .ok (.ireturn, 1) := by decide +kernel
theorem dJ2_indexOfCharUnsafe_4cfef_22 : decode cJ2_indexOfCharUnsafe_4cfef 22 = .ok (.iinc 4 1, 3) := by decide +kernel
theorem dJ2_indexOfCharUnsafe_4cfef_25 : decode cJ2_indexOfCharUnsafe_4cfef 25 = .ok (.goto (-22), 3) := by decide +kernel
theorem dJ2_indexOfCharUnsafe_4cfef_28 : decode cJ2_indexOfCharUnsafe_4cfef 28 = .ok (.iconst (-1), 1) := by decide +kernel
theorem dJ2_indexOfCharUnsafe_4cfef_29 : decode cJ2_indexOfCharUnsafe_4cfef 29 = .ok (.ireturn, 1) := by decide +kernel
theorem dJ2_indexOfSupplementary_4cfef_0 : decode cJ2_indexOfSupplementary_4cfef 0 = .ok (.iload_n 1, 1) := by decide +kernel
theorem dJ2_indexOfSupplementary_4cfef_1 : decode cJ2_indexOfSupplementary_4cfef 1 = .ok (.invokestatic 164, 3) := by decide +kernel
theorem dJ2_indexOfSupplementary_4cfef_4 : decode cJ2_indexOfSupplementary_4cfef 4 = .ok (.ifCond .eq 65, 3) := by decide +kernel
theorem dJ2_indexOfSupplementary_4cfef_7 : decode cJ2_indexOfSupplementary_4cfef 7 = .ok (.iload_n 1, 1) := by decide +kernel
theorem dJ2_indexOfSupplementary_4cfef_8 : decode cJ2_indexOfSupplementary_4cfef 8 = .ok (.invokestatic 157, 3) := by decide +kernel
theorem dJ2_indexOfSupplementary_4cfef_11 : decode cJ2_indexOfSupplementary_4cfef 11 = .ok (.istore 4, 2) := by decide +kernel
theorem dJ2_indexOfSupplementary_4cfef_13 : decode cJ2_indexOfSupplementary_4cfef 13 = .ok (.iload_n 1, 1) := by decide +kernel
theorem dJ2_indexOfSupplementary_4cfef_14 : decode cJ2_indexOfSupplementary_4cfef 14 = .ok (.invokestatic 161, 3) := by decide +kernel
theorem dJ2_indexOfSupplementary_4cfef_17 : decode cJ2_indexOfSupplementary_4cfef 17 = .ok (.istore 5, 2) := by decide +kernel
theorem dJ2_indexOfSupplementary_4cfef_19 : decode cJ2_indexOfSupplementary_4cfef 19 = .ok (.iload_n 2, 1) := by decide +kernel
theorem dJ2_indexOfSupplementary_4cfef_20 : decode cJ2_indexOfSupplementary_4cfef 20 = .ok (.iload_n 3, 1) := by decide +kernel
theorem dJ2_indexOfSupplementary_4cfef_21 : decode cJ2_indexOfSupplementary_4cfef 21 = .ok (.aload_n 0, 1) := by decide +kernel
theorem dJ2_indexOfSupplementary_4cfef_22 : decode cJ2_indexOfSupplementary_4cfef 22 = .ok (.invokestatic 96, 3) := by decide +kernel
theorem dJ2_indexOfSupplementary_4cfef_25 : decode cJ2_indexOfSupplementary_4cfef 25 = .ok (.iload_n 2, 1) := by decide +kernel
theorem dJ2_indexOfSupplementary_4cfef_26 : decode cJ2_indexOfSupplementary_4cfef 26 = .ok (.istore 6, 2) := by decide +kernel
theorem dJ2_indexOfSupplementary_4cfef_28 : decode cJ2_indexOfSupplementary_4cfef 28 = .ok (.iload 6, 2) := by decide +kernel
theorem dJ2_indexOfSupplementary_4cfef_30 : decode cJ2_indexOfSupplementary_4cfef 30 = .ok (.iload_n 3, 1) := by decide +kernel
theorem dJ2_indexOfSupplementary_4cfef_31 : decode cJ2_indexOfSupplementary_4cfef 31 = .ok (.iconst 1, 1) := by decide +kernel
theorem dJ2_indexOfSupplementary_4cfef_32 : decode cJ2_indexOfSupplementary_4cfef 32 = .ok (.isub, 1) := by decide +kernel
theorem dJ2_indexOfSupplementary_4cfef_33 : decode cJ2_indexOfSupplementary_4cfef 33 = .ok (.if_icmp .ge 36, 3) := by decide +kernel
theorem dJ2_indexOfSupplementary_4cfef_36 : decode cJ2_indexOfSupplementary_4cfef 36 = .ok (.aload_n 0, 1) := by decide +kernel
theorem dJ2_indexOfSupplementary_4cfef_37 : decode cJ2_indexOfSupplementary_4cfef 37 = .ok (.iload 6, 2) := by decide +kernel
theorem dJ2_indexOfSupplementary_4cfef_39 : decode cJ2_indexOfSupplementary_4cfef 39 = .ok (.invokestatic 71, 3) := by decide +kernel
theorem dJ2_indexOfSupplementary_4cfef_42 : decode cJ2_indexOfSupplementary_4cfef 42 = .ok (.iload 4, 2) := by decide +kernel
theorem dJ2_indexOfSupplementary_4cfef_44 : decode cJ2_indexOfSupplementary_4cfef 44 = .ok (.if_icmp .ne 19, 3) := by decide +kernel
theorem dJ2_indexOfSupplementary_4cfef_47 : decode cJ2_indexOfSupplementary_4cfef 47 = .ok (.aload_n 0, 1) := by decide +kernel
theorem dJ2_indexOfSupplementary_4cfef_48 : decode cJ2_indexOfSupplementary_4cfef 48 = .ok (.iload 6, 2) := by decide +kernel
theorem dJ2_indexOfSupplementary_4cfef_50 : decode cJ2_indexOfSupplementary_4cfef 50 = .ok (.iconst 1, 1) := by decide +kernel
theorem dJ2_indexOfSupplementary_4cfef_51 : decode cJ2_indexOfSupplementary_4cfef 51 = .ok (.iadd, 1) := by decide +kernel
theorem dJ2_indexOfSupplementary_4cfef_52 : decode cJ2_indexOfSupplementary_4cfef 52 = .ok (.invokestatic 71, 3) := by decide +kernel
theorem dJ2_indexOfSupplementary_4cfef_55 : decode cJ2_indexOfSupplementary_4cfef 55 = .ok (.iload 5, 2) := by decide +kernel
theorem dJ2_indexOfSupplementary_4cfef_57 : decode cJ2_indexOfSupplementary_4cfef 57 = .ok (.if_icmp .ne 6, 3) := by decide +kernel
theorem dJ2_indexOfSupplementary_4cfef_60 : decode cJ2_indexOfSupplementary_4cfef 60 = .ok (.iload 6, 2) := by decide +kernel
theorem dJ2_indexOfSupplementary_4cfef_62 : decode cJ2_indexOfSupplementary_4cfef 62 = .ok (.ireturn, 1) := by decide +kernel
theorem dJ2_indexOfSupplementary_4cfef_63 : decode cJ2_indexOfSupplementary_4cfef 63 = .ok (.iinc 6 1, 3) := by decide +kernel
theorem dJ2_indexOfSupplementary_4cfef_66 : decode cJ2_indexOfSupplementary_4cfef 66 = .ok (.goto (-38), 3) := by decide +kernel
theorem dJ2_indexOfSupplementary_4cfef_69 : decode cJ2_indexOfSupplementary_4cfef 69 = .ok (.iconst (-1), 1) := by decide +kernel
theorem dJ2_indexOfSupplementary_4cfef_70 : decode cJ2_indexOfSupplementary_4cfef 70 = .ok (.ireturn, 1) := by decide +kernel
theorem dJ7_fill_53178_0 : decode cJ7_fill_53178 0 = .ok (.iconst 0, 1) := by decide +kernel
theorem dJ7_fill_53178_1 : decode cJ7_fill_53178 1 = .ok (.istore_n 2, 1) := by decide +kernel
theorem dJ7_fill_53178_2 : decode cJ7_fill_53178 2 = .ok (.aload_n 0, 1) := by decide +kernel
theorem dJ7_fill_53178_3 : decode cJ7_fill_53178 3 = .ok (.arraylength, 1) := by decide +kernel
theorem dJ7_fill_53178_4 : decode cJ7_fill_53178 4 = .ok (.istore_n 3, 1) := by decide +kernel
theorem dJ7_fill_53178_5 : decode cJ7_fill_53178 5 = .ok (.iload_n 2, 1) := by decide +kernel
theorem dJ7_fill_53178_6 : decode cJ7_fill_53178 6 = .ok (.iload_n 3, 1) := by decide +kernel
theorem dJ7_fill_53178_7 : decode cJ7_fill_53178 7 = .ok (.if_icmp .ge 13, 3) := by decide +kernel
theorem dJ7_fill_53178_10 : decode cJ7_fill_53178 10 = .ok (.aload_n 0, 1) := by decide +kernel
theorem dJ7_fill_53178_11 : decode cJ7_fill_53178 11 = .ok (.iload_n 2, 1) := by decide +kernel
theorem dJ7_fill_53178_12 : decode cJ7_fill_53178 12 = .ok (.iload_n 1, 1) := by decide +kernel
theorem dJ7_fill_53178_13 : decode cJ7_fill_53178 13 = .ok (.iastore, 1) := by decide +kernel
theorem dJ7_fill_53178_14 : decode cJ7_fill_53178 14 = .ok (.iinc 2 1, 3) := by decide +kernel
theorem dJ7_fill_53178_17 : decode cJ7_fill_53178 17 = .ok (.goto (-12), 3) := by decide +kernel
theorem dJ7_fill_53178_20 : decode cJ7_fill_53178 20 = .ok (.return_, 1) := by decide +kernel
