-- decode rows, from the printed names
theorem dX9_init_0 : decode cX9_init 0 = .ok (.aload_n 0, 1) := by decide +kernel
theorem dX9_init_1 : decode cX9_init 1 = .ok (.invokespecial 1, 3) := by decide +kernel
theorem dX9_init_4 : decode cX9_init 4 = .ok (.aload_n 0, 1) := by decide +kernel
theorem dX9_init_5 : decode cX9_init 5 = .ok (.sipush 331, 3) := by decide +kernel
theorem dX9_init_8 : decode cX9_init 8 = .ok (.newarray .int, 2) := by decide +kernel
theorem dX9_init_10 : decode cX9_init 10 = .ok (.putfield 7, 3) := by decide +kernel
theorem dX9_init_13 : decode cX9_init 13 = .ok (.aload_n 0, 1) := by decide +kernel
theorem dX9_init_14 : decode cX9_init 14 = .ok (.sipush 331, 3) := by decide +kernel
theorem dX9_init_17 : decode cX9_init 17 = .ok (.newarray .int, 2) := by decide +kernel
theorem dX9_init_19 : decode cX9_init 19 = .ok (.putfield 13, 3) := by decide +kernel
theorem dX9_init_22 : decode cX9_init 22 = .ok (.aload_n 0, 1) := by decide +kernel
theorem dX9_init_23 : decode cX9_init 23 = .ok (.sipush 331, 3) := by decide +kernel
theorem dX9_init_26 : decode cX9_init 26 = .ok (.newarray .int, 2) := by decide +kernel
theorem dX9_init_28 : decode cX9_init 28 = .ok (.putfield 16, 3) := by decide +kernel
theorem dX9_init_31 : decode cX9_init 31 = .ok (.aload_n 0, 1) := by decide +kernel
theorem dX9_init_32 : decode cX9_init 32 = .ok (.sipush 260, 3) := by decide +kernel
theorem dX9_init_35 : decode cX9_init 35 = .ok (.newarray .byte, 2) := by decide +kernel
theorem dX9_init_37 : decode cX9_init 37 = .ok (.putfield 19, 3) := by decide +kernel
theorem dX9_init_40 : decode cX9_init 40 = .ok (.aload_n 0, 1) := by decide +kernel
theorem dX9_init_41 : decode cX9_init 41 = .ok (.sipush 260, 3) := by decide +kernel
theorem dX9_init_44 : decode cX9_init 44 = .ok (.newarray .int, 2) := by decide +kernel
theorem dX9_init_46 : decode cX9_init 46 = .ok (.putfield 23, 3) := by decide +kernel
theorem dX9_init_49 : decode cX9_init 49 = .ok (.aload_n 0, 1) := by decide +kernel
theorem dX9_init_50 : decode cX9_init 50 = .ok (.sipush 260, 3) := by decide +kernel
theorem dX9_init_53 : decode cX9_init 53 = .ok (.newarray .int, 2) := by decide +kernel
theorem dX9_init_55 : decode cX9_init 55 = .ok (.putfield 26, 3) := by decide +kernel
theorem dX9_init_58 : decode cX9_init 58 = .ok (.aload_n 0, 1) := by decide +kernel
theorem dX9_init_59 : decode cX9_init 59 = .ok (.bipush 16, 2) := by decide +kernel
theorem dX9_init_61 : decode cX9_init 61 = .ok (.newarray .int, 2) := by decide +kernel
theorem dX9_init_63 : decode cX9_init 63 = .ok (.putfield 29, 3) := by decide +kernel
theorem dX9_init_66 : decode cX9_init 66 = .ok (.aload_n 0, 1) := by decide +kernel
theorem dX9_init_67 : decode cX9_init 67 = .ok (.bipush 16, 2) := by decide +kernel
theorem dX9_init_69 : decode cX9_init 69 = .ok (.newarray .int, 2) := by decide +kernel
theorem dX9_init_71 : decode cX9_init 71 = .ok (.putfield 32, 3) := by decide +kernel
theorem dX9_init_74 : decode cX9_init 74 = .ok (.aload_n 0, 1) := by decide +kernel
theorem dX9_init_75 : decode cX9_init 75 = .ok (.bipush 16, 2) := by decide +kernel
theorem dX9_init_77 : decode cX9_init 77 = .ok (.newarray .int, 2) := by decide +kernel
theorem dX9_init_79 : decode cX9_init 79 = .ok (.putfield 35, 3) := by decide +kernel
theorem dX9_init_82 : decode cX9_init 82 = .ok (.aload_n 0, 1) := by decide +kernel
theorem dX9_init_83 : decode cX9_init 83 = .ok (.bipush 16, 2) := by decide +kernel
theorem dX9_init_85 : decode cX9_init 85 = .ok (.newarray .int, 2) := by decide +kernel
theorem dX9_init_87 : decode cX9_init 87 = .ok (.putfield 38, 3) := by decide +kernel
theorem dX9_init_90 : decode cX9_init 90 = .ok (.aload_n 0, 1) := by decide +kernel
theorem dX9_init_91 : decode cX9_init 91 = .ok (.sipush 260, 3) := by decide +kernel
theorem dX9_init_94 : decode cX9_init 94 = .ok (.newarray .int, 2) := by decide +kernel
theorem dX9_init_96 : decode cX9_init 96 = .ok (.putfield 41, 3) := by decide +kernel
theorem dX9_init_99 : decode cX9_init 99 = .ok (.aload_n 0, 1) := by decide +kernel
theorem dX9_init_100 : decode cX9_init 100 = .ok (.bipush 16, 2) := by decide +kernel
theorem dX9_init_102 : decode cX9_init 102 = .ok (.newarray .int, 2) := by decide +kernel
theorem dX9_init_104 : decode cX9_init 104 = .ok (.putfield 44, 3) := by decide +kernel
theorem dX9_init_107 : decode cX9_init 107 = .ok (.aload_n 0, 1) := by decide +kernel
theorem dX9_init_108 : decode cX9_init 108 = .ok (.bipush 16, 2) := by decide +kernel
theorem dX9_init_110 : decode cX9_init 110 = .ok (.newarray .int, 2) := by decide +kernel
theorem dX9_init_112 : decode cX9_init 112 = .ok (.putfield 47, 3) := by decide +kernel
theorem dX9_init_115 : decode cX9_init 115 = .ok (.aload_n 0, 1) := by decide +kernel
theorem dX9_init_116 : decode cX9_init 116 = .ok (.bipush 16, 2) := by decide +kernel
theorem dX9_init_118 : decode cX9_init 118 = .ok (.newarray .int, 2) := by decide +kernel
theorem dX9_init_120 : decode cX9_init 120 = .ok (.putfield 50, 3) := by decide +kernel
theorem dX9_init_123 : decode cX9_init 123 = .ok (.aload_n 0, 1) := by decide +kernel
theorem dX9_init_124 : decode cX9_init 124 = .ok (.bipush 16, 2) := by decide +kernel
theorem dX9_init_126 : decode cX9_init 126 = .ok (.newarray .int, 2) := by decide +kernel
theorem dX9_init_128 : decode cX9_init 128 = .ok (.putfield 53, 3) := by decide +kernel
theorem dX9_init_131 : decode cX9_init 131 = .ok (.aload_n 0, 1) := by decide +kernel
theorem dX9_init_132 : decode cX9_init 132 = .ok (.sipush 260, 3) := by decide +kernel
theorem dX9_init_135 : decode cX9_init 135 = .ok (.newarray .int, 2) := by decide +kernel
theorem dX9_init_137 : decode cX9_init 137 = .ok (.putfield 56, 3) := by decide +kernel
theorem dX9_init_140 : decode cX9_init 140 = .ok (.aload_n 0, 1) := by decide +kernel
theorem dX9_init_141 : decode cX9_init 141 = .ok (.bipush 15, 2) := by decide +kernel
theorem dX9_init_143 : decode cX9_init 143 = .ok (.newarray .int, 2) := by decide +kernel
theorem dX9_init_145 : decode cX9_init 145 = .ok (.putfield 59, 3) := by decide +kernel
theorem dX9_init_148 : decode cX9_init 148 = .ok (.aload_n 0, 1) := by decide +kernel
theorem dX9_init_149 : decode cX9_init 149 = .ok (.sipush 512, 3) := by decide +kernel
theorem dX9_init_152 : decode cX9_init 152 = .ok (.newarray .int, 2) := by decide +kernel
theorem dX9_init_154 : decode cX9_init 154 = .ok (.putfield 62, 3) := by decide +kernel
theorem dX9_init_157 : decode cX9_init 157 = .ok (.aload_n 0, 1) := by decide +kernel
theorem dX9_init_158 : decode cX9_init 158 = .ok (.bipush 9, 2) := by decide +kernel
theorem dX9_init_160 : decode cX9_init 160 = .ok (.newarray .int, 2) := by decide +kernel
theorem dX9_init_162 : decode cX9_init 162 = .ok (.putfield 65, 3) := by decide +kernel
theorem dX9_init_165 : decode cX9_init 165 = .ok (.aload_n 0, 1) := by decide +kernel
theorem dX9_init_166 : decode cX9_init 166 = .ok (.bipush 25, 2) := by decide +kernel
theorem dX9_init_168 : decode cX9_init 168 = .ok (.newarray .int, 2) := by decide +kernel
theorem dX9_init_170 : decode cX9_init 170 = .ok (.putfield 68, 3) := by decide +kernel
theorem dX9_init_173 : decode cX9_init 173 = .ok (.aload_n 0, 1) := by decide +kernel
theorem dX9_init_174 : decode cX9_init 174 = .ok (.bipush 25, 2) := by decide +kernel
theorem dX9_init_176 : decode cX9_init 176 = .ok (.newarray .int, 2) := by decide +kernel
theorem dX9_init_178 : decode cX9_init 178 = .ok (.putfield 71, 3) := by decide +kernel
theorem dX9_init_181 : decode cX9_init 181 = .ok (.aload_n 0, 1) := by decide +kernel
theorem dX9_init_182 : decode cX9_init 182 = .ok (.bipush 6, 2) := by decide +kernel
theorem dX9_init_184 : decode cX9_init 184 = .ok (.newarray .int, 2) := by decide +kernel
theorem dX9_init_186 : decode cX9_init 186 = .ok (.putfield 74, 3) := by decide +kernel
theorem dX9_init_189 : decode cX9_init 189 = .ok (.aload_n 0, 1) := by decide +kernel
theorem dX9_init_190 : decode cX9_init 190 = .ok (.getfield 7, 3) := by decide +kernel
theorem dX9_init_193 : decode cX9_init 193 = .ok (.sipush 330, 3) := by decide +kernel
theorem dX9_init_196 : decode cX9_init 196 = .ok (.iconst 1, 1) := by decide +kernel
theorem dX9_init_197 : decode cX9_init 197 = .ok (.iastore, 1) := by decide +kernel
theorem dX9_init_198 : decode cX9_init 198 = .ok (.return_, 1) := by decide +kernel
theorem dX9_in_0 : decode cX9_in 0 = .ok (.iload_n 0, 1) := by decide +kernel
theorem dX9_in_1 : decode cX9_in 1 = .ok (.iload_n 1, 1) := by decide +kernel
theorem dX9_in_2 : decode cX9_in 2 = .ok (.if_icmp .lt 12, 3) := by decide +kernel
theorem dX9_in_5 : decode cX9_in 5 = .ok (.iload_n 0, 1) := by decide +kernel
theorem dX9_in_6 : decode cX9_in 6 = .ok (.iload_n 2, 1) := by decide +kernel
theorem dX9_in_7 : decode cX9_in 7 = .ok (.if_icmp .gt 7, 3) := by decide +kernel
theorem dX9_in_10 : decode cX9_in 10 = .ok (.iconst 1, 1) := by decide +kernel
theorem dX9_in_11 : decode cX9_in 11 = .ok (.goto 4, 3) := by decide +kernel
theorem dX9_in_14 : decode cX9_in 14 = .ok (.iconst 0, 1) := by decide +kernel
theorem dX9_in_15 : decode cX9_in 15 = .ok (.ireturn, 1) := by decide +kernel
theorem dX9_min_0 : decode cX9_min 0 = .ok (.iload_n 0, 1) := by decide +kernel
theorem dX9_min_1 : decode cX9_min 1 = .ok (.iload_n 1, 1) := by decide +kernel
theorem dX9_min_2 : decode cX9_min 2 = .ok (.if_icmp .ge 7, 3) := by decide +kernel
theorem dX9_min_5 : decode cX9_min 5 = .ok (.iload_n 0, 1) := by decide +kernel
theorem dX9_min_6 : decode cX9_min 6 = .ok (.goto 4, 3) := by decide +kernel
theorem dX9_min_9 : decode cX9_min 9 = .ok (.iload_n 1, 1) := by decide +kernel
theorem dX9_min_10 : decode cX9_min 10 = .ok (.ireturn, 1) := by decide +kernel
theorem dX9_held_0 : decode cX9_held 0 = .ok (.iload_n 0, 1) := by decide +kernel
theorem dX9_held_1 : decode cX9_held 1 = .ok (.ifCond .ge 7, 3) := by decide +kernel
theorem dX9_held_4 : decode cX9_held 4 = .ok (.iconst 0, 1) := by decide +kernel
theorem dX9_held_5 : decode cX9_held 5 = .ok (.goto 13, 3) := by decide +kernel
theorem dX9_held_8 : decode cX9_held 8 = .ok (.iload_n 0, 1) := by decide +kernel
theorem dX9_held_9 : decode cX9_held 9 = .ok (.iload_n 1, 1) := by decide +kernel
theorem dX9_held_10 : decode cX9_held 10 = .ok (.if_icmp .le 7, 3) := by decide +kernel
theorem dX9_held_13 : decode cX9_held 13 = .ok (.iload_n 1, 1) := by decide +kernel
theorem dX9_held_14 : decode cX9_held 14 = .ok (.goto 4, 3) := by decide +kernel
theorem dX9_held_17 : decode cX9_held 17 = .ok (.iload_n 0, 1) := by decide +kernel
theorem dX9_held_18 : decode cX9_held 18 = .ok (.ireturn, 1) := by decide +kernel
theorem dX9_size_0 : decode cX9_size 0 = .ok (.iload_n 0, 1) := by decide +kernel
theorem dX9_size_1 : decode cX9_size 1 = .ok (.ifCond .ge 8, 3) := by decide +kernel
theorem dX9_size_4 : decode cX9_size 4 = .ok (.iload_n 0, 1) := by decide +kernel
theorem dX9_size_5 : decode cX9_size 5 = .ok (.ineg, 1) := by decide +kernel
theorem dX9_size_6 : decode cX9_size 6 = .ok (.goto 4, 3) := by decide +kernel
theorem dX9_size_9 : decode cX9_size 9 = .ok (.iload_n 0, 1) := by decide +kernel
theorem dX9_size_10 : decode cX9_size 10 = .ok (.ireturn, 1) := by decide +kernel
theorem dX9_has_0 : decode cX9_has 0 = .ok (.iload_n 0, 1) := by decide +kernel
theorem dX9_has_1 : decode cX9_has 1 = .ok (.iload_n 1, 1) := by decide +kernel
theorem dX9_has_2 : decode cX9_has 2 = .ok (.ishr, 1) := by decide +kernel
theorem dX9_has_3 : decode cX9_has 3 = .ok (.iconst 1, 1) := by decide +kernel
theorem dX9_has_4 : decode cX9_has 4 = .ok (.iand, 1) := by decide +kernel
theorem dX9_has_5 : decode cX9_has 5 = .ok (.iconst 1, 1) := by decide +kernel
theorem dX9_has_6 : decode cX9_has 6 = .ok (.if_icmp .ne 7, 3) := by decide +kernel
theorem dX9_has_9 : decode cX9_has 9 = .ok (.iconst 1, 1) := by decide +kernel
theorem dX9_has_10 : decode cX9_has 10 = .ok (.goto 4, 3) := by decide +kernel
theorem dX9_has_13 : decode cX9_has 13 = .ok (.iconst 0, 1) := by decide +kernel
theorem dX9_has_14 : decode cX9_has 14 = .ok (.ireturn, 1) := by decide +kernel
theorem dX9_isIn_0 : decode cX9_isIn 0 = .ok (.iload_n 0, 1) := by decide +kernel
theorem dX9_isIn_1 : decode cX9_isIn 1 = .ok (.ifCond .lt 23, 3) := by decide +kernel
theorem dX9_isIn_4 : decode cX9_isIn 4 = .ok (.iload_n 0, 1) := by decide +kernel
theorem dX9_isIn_5 : decode cX9_isIn 5 = .ok (.bipush 14, 2) := by decide +kernel
theorem dX9_isIn_7 : decode cX9_isIn 7 = .ok (.if_icmp .ge 17, 3) := by decide +kernel
theorem dX9_isIn_10 : decode cX9_isIn 10 = .ok (.iload_n 1, 1) := by decide +kernel
theorem dX9_isIn_11 : decode cX9_isIn 11 = .ok (.ifCond .lt 13, 3) := by decide +kernel
theorem dX9_isIn_14 : decode cX9_isIn 14 = .ok (.iload_n 1, 1) := by decide +kernel
theorem dX9_isIn_15 : decode cX9_isIn 15 = .ok (.bipush 14, 2) := by decide +kernel
theorem dX9_isIn_17 : decode cX9_isIn 17 = .ok (.if_icmp .ge 7, 3) := by decide +kernel
theorem dX9_isIn_20 : decode cX9_isIn 20 = .ok (.iconst 1, 1) := by decide +kernel
theorem dX9_isIn_21 : decode cX9_isIn 21 = .ok (.goto 4, 3) := by decide +kernel
theorem dX9_isIn_24 : decode cX9_isIn 24 = .ok (.iconst 0, 1) := by decide +kernel
theorem dX9_isIn_25 : decode cX9_isIn 25 = .ok (.ireturn, 1) := by decide +kernel
theorem dX9_way_0 : decode cX9_way 0 = .ok (.iload_n 0, 1) := by decide +kernel
theorem dX9_way_1 : decode cX9_way 1 = .ok (.bipush 14, 2) := by decide +kernel
theorem dX9_way_3 : decode cX9_way 3 = .ok (.irem, 1) := by decide +kernel
theorem dX9_way_4 : decode cX9_way 4 = .ok (.iload_n 1, 1) := by decide +kernel
theorem dX9_way_5 : decode cX9_way 5 = .ok (.bipush 14, 2) := by decide +kernel
theorem dX9_way_7 : decode cX9_way 7 = .ok (.irem, 1) := by decide +kernel
theorem dX9_way_8 : decode cX9_way 8 = .ok (.isub, 1) := by decide +kernel
theorem dX9_way_9 : decode cX9_way 9 = .ok (.invokestatic 77, 3) := by decide +kernel
theorem dX9_way_12 : decode cX9_way 12 = .ok (.iload_n 0, 1) := by decide +kernel
theorem dX9_way_13 : decode cX9_way 13 = .ok (.bipush 14, 2) := by decide +kernel
theorem dX9_way_15 : decode cX9_way 15 = .ok (.idiv, 1) := by decide +kernel
theorem dX9_way_16 : decode cX9_way 16 = .ok (.iload_n 1, 1) := by decide +kernel
theorem dX9_way_17 : decode cX9_way 17 = .ok (.bipush 14, 2) := by decide +kernel
theorem dX9_way_19 : decode cX9_way 19 = .ok (.idiv, 1) := by decide +kernel
theorem dX9_way_20 : decode cX9_way 20 = .ok (.isub, 1) := by decide +kernel
theorem dX9_way_21 : decode cX9_way 21 = .ok (.invokestatic 77, 3) := by decide +kernel
theorem dX9_way_24 : decode cX9_way 24 = .ok (.iadd, 1) := by decide +kernel
theorem dX9_way_25 : decode cX9_way 25 = .ok (.ireturn, 1) := by decide +kernel
theorem dX9_isRock_0 : decode cX9_isRock 0 = .ok (.aload_n 0, 1) := by decide +kernel
theorem dX9_isRock_1 : decode cX9_isRock 1 = .ok (.getfield 7, 3) := by decide +kernel
theorem dX9_isRock_4 : decode cX9_isRock 4 = .ok (.iconst 0, 1) := by decide +kernel
theorem dX9_isRock_5 : decode cX9_isRock 5 = .ok (.iload_n 1, 1) := by decide +kernel
theorem dX9_isRock_6 : decode cX9_isRock 6 = .ok (.iadd, 1) := by decide +kernel
theorem dX9_isRock_7 : decode cX9_isRock 7 = .ok (.iaload, 1) := by decide +kernel
theorem dX9_isRock_8 : decode cX9_isRock 8 = .ok (.iconst 3, 1) := by decide +kernel
theorem dX9_isRock_9 : decode cX9_isRock 9 = .ok (.if_icmp .ne 7, 3) := by decide +kernel
theorem dX9_isRock_12 : decode cX9_isRock 12 = .ok (.iconst 1, 1) := by decide +kernel
theorem dX9_isRock_13 : decode cX9_isRock 13 = .ok (.goto 4, 3) := by decide +kernel
theorem dX9_isRock_16 : decode cX9_isRock 16 = .ok (.iconst 0, 1) := by decide +kernel
theorem dX9_isRock_17 : decode cX9_isRock 17 = .ok (.ireturn, 1) := by decide +kernel
theorem dX9_isInn_0 : decode cX9_isInn 0 = .ok (.iload_n 0, 1) := by decide +kernel
theorem dX9_isInn_1 : decode cX9_isInn 1 = .ok (.ifCond .lt 13, 3) := by decide +kernel
theorem dX9_isInn_4 : decode cX9_isInn 4 = .ok (.iload_n 0, 1) := by decide +kernel
theorem dX9_isInn_5 : decode cX9_isInn 5 = .ok (.bipush 9, 2) := by decide +kernel
theorem dX9_isInn_7 : decode cX9_isInn 7 = .ok (.if_icmp .ge 7, 3) := by decide +kernel
theorem dX9_isInn_10 : decode cX9_isInn 10 = .ok (.iconst 1, 1) := by decide +kernel
theorem dX9_isInn_11 : decode cX9_isInn 11 = .ok (.goto 4, 3) := by decide +kernel
theorem dX9_isInn_14 : decode cX9_isInn 14 = .ok (.iconst 0, 1) := by decide +kernel
theorem dX9_isInn_15 : decode cX9_isInn 15 = .ok (.ireturn, 1) := by decide +kernel
theorem dX9_isLamp_0 : decode cX9_isLamp 0 = .ok (.iload_n 1, 1) := by decide +kernel
theorem dX9_isLamp_1 : decode cX9_isLamp 1 = .ok (.ifCond .lt 27, 3) := by decide +kernel
theorem dX9_isLamp_4 : decode cX9_isLamp 4 = .ok (.iload_n 1, 1) := by decide +kernel
theorem dX9_isLamp_5 : decode cX9_isLamp 5 = .ok (.bipush 12, 2) := by decide +kernel
theorem dX9_isLamp_7 : decode cX9_isLamp 7 = .ok (.if_icmp .ge 21, 3) := by decide +kernel
theorem dX9_isLamp_10 : decode cX9_isLamp 10 = .ok (.aload_n 0, 1) := by decide +kernel
theorem dX9_isLamp_11 : decode cX9_isLamp 11 = .ok (.getfield 7, 3) := by decide +kernel
theorem dX9_isLamp_14 : decode cX9_isLamp 14 = .ok (.sipush 196, 3) := by decide +kernel
theorem dX9_isLamp_17 : decode cX9_isLamp 17 = .ok (.iload_n 1, 1) := by decide +kernel
theorem dX9_isLamp_18 : decode cX9_isLamp 18 = .ok (.iadd, 1) := by decide +kernel
theorem dX9_isLamp_19 : decode cX9_isLamp 19 = .ok (.iaload, 1) := by decide +kernel
theorem dX9_isLamp_20 : decode cX9_isLamp 20 = .ok (.iconst 1, 1) := by decide +kernel
theorem dX9_isLamp_21 : decode cX9_isLamp 21 = .ok (.if_icmp .ne 7, 3) := by decide +kernel
theorem dX9_isLamp_24 : decode cX9_isLamp 24 = .ok (.iconst 1, 1) := by decide +kernel
theorem dX9_isLamp_25 : decode cX9_isLamp 25 = .ok (.goto 4, 3) := by decide +kernel
theorem dX9_isLamp_28 : decode cX9_isLamp 28 = .ok (.iconst 0, 1) := by decide +kernel
theorem dX9_isLamp_29 : decode cX9_isLamp 29 = .ok (.ireturn, 1) := by decide +kernel
theorem dX9_isTold_0 : decode cX9_isTold 0 = .ok (.iload_n 1, 1) := by decide +kernel
theorem dX9_isTold_1 : decode cX9_isTold 1 = .ok (.ifCond .lt 27, 3) := by decide +kernel
theorem dX9_isTold_4 : decode cX9_isTold 4 = .ok (.iload_n 1, 1) := by decide +kernel
theorem dX9_isTold_5 : decode cX9_isTold 5 = .ok (.bipush 6, 2) := by decide +kernel
theorem dX9_isTold_7 : decode cX9_isTold 7 = .ok (.if_icmp .ge 21, 3) := by decide +kernel
theorem dX9_isTold_10 : decode cX9_isTold 10 = .ok (.aload_n 0, 1) := by decide +kernel
theorem dX9_isTold_11 : decode cX9_isTold 11 = .ok (.getfield 7, 3) := by decide +kernel
theorem dX9_isTold_14 : decode cX9_isTold 14 = .ok (.sipush 268, 3) := by decide +kernel
theorem dX9_isTold_17 : decode cX9_isTold 17 = .ok (.iload_n 1, 1) := by decide +kernel
theorem dX9_isTold_18 : decode cX9_isTold 18 = .ok (.iadd, 1) := by decide +kernel
theorem dX9_isTold_19 : decode cX9_isTold 19 = .ok (.iaload, 1) := by decide +kernel
theorem dX9_isTold_20 : decode cX9_isTold 20 = .ok (.iconst 1, 1) := by decide +kernel
theorem dX9_isTold_21 : decode cX9_isTold 21 = .ok (.if_icmp .ne 7, 3) := by decide +kernel
theorem dX9_isTold_24 : decode cX9_isTold 24 = .ok (.iconst 1, 1) := by decide +kernel
theorem dX9_isTold_25 : decode cX9_isTold 25 = .ok (.goto 4, 3) := by decide +kernel
theorem dX9_isTold_28 : decode cX9_isTold 28 = .ok (.iconst 0, 1) := by decide +kernel
theorem dX9_isTold_29 : decode cX9_isTold 29 = .ok (.ireturn, 1) := by decide +kernel
theorem dX9_isOn_0 : decode cX9_isOn 0 = .ok (.aload_n 0, 1) := by decide +kernel
theorem dX9_isOn_1 : decode cX9_isOn 1 = .ok (.iload_n 1, 1) := by decide +kernel
theorem dX9_isOn_2 : decode cX9_isOn 2 = .ok (.invokevirtual 81, 3) := by decide +kernel
theorem dX9_isOn_5 : decode cX9_isOn 5 = .ok (.ifCond .eq 36, 3) := by decide +kernel
theorem dX9_isOn_8 : decode cX9_isOn 8 = .ok (.aload_n 0, 1) := by decide +kernel
theorem dX9_isOn_9 : decode cX9_isOn 9 = .ok (.getfield 7, 3) := by decide +kernel
theorem dX9_isOn_12 : decode cX9_isOn 12 = .ok (.sipush 280, 3) := by decide +kernel
theorem dX9_isOn_15 : decode cX9_isOn 15 = .ok (.iload_n 1, 1) := by decide +kernel
theorem dX9_isOn_16 : decode cX9_isOn 16 = .ok (.iadd, 1) := by decide +kernel
theorem dX9_isOn_17 : decode cX9_isOn 17 = .ok (.iaload, 1) := by decide +kernel
theorem dX9_isOn_18 : decode cX9_isOn 18 = .ok (.ifCond .le 23, 3) := by decide +kernel
theorem dX9_isOn_21 : decode cX9_isOn 21 = .ok (.aload_n 0, 1) := by decide +kernel
theorem dX9_isOn_22 : decode cX9_isOn 22 = .ok (.getfield 7, 3) := by decide +kernel
theorem dX9_isOn_25 : decode cX9_isOn 25 = .ok (.sipush 274, 3) := by decide +kernel
theorem dX9_isOn_28 : decode cX9_isOn 28 = .ok (.iload_n 1, 1) := by decide +kernel
theorem dX9_isOn_29 : decode cX9_isOn 29 = .ok (.iadd, 1) := by decide +kernel
theorem dX9_isOn_30 : decode cX9_isOn 30 = .ok (.iaload, 1) := by decide +kernel
theorem dX9_isOn_31 : decode cX9_isOn 31 = .ok (.sipush 196, 3) := by decide +kernel
theorem dX9_isOn_34 : decode cX9_isOn 34 = .ok (.if_icmp .ge 7, 3) := by decide +kernel
theorem dX9_isOn_37 : decode cX9_isOn 37 = .ok (.iconst 1, 1) := by decide +kernel
theorem dX9_isOn_38 : decode cX9_isOn 38 = .ok (.goto 4, 3) := by decide +kernel
theorem dX9_isOn_41 : decode cX9_isOn 41 = .ok (.iconst 0, 1) := by decide +kernel
theorem dX9_isOn_42 : decode cX9_isOn 42 = .ok (.ireturn, 1) := by decide +kernel
theorem dX9_isLit_0 : decode cX9_isLit 0 = .ok (.iload_n 1, 1) := by decide +kernel
theorem dX9_isLit_1 : decode cX9_isLit 1 = .ok (.bipush 12, 2) := by decide +kernel
theorem dX9_isLit_3 : decode cX9_isLit 3 = .ok (.if_icmp .lt 37, 3) := by decide +kernel
theorem dX9_isLit_6 : decode cX9_isLit 6 = .ok (.aload_n 0, 1) := by decide +kernel
theorem dX9_isLit_7 : decode cX9_isLit 7 = .ok (.iload_n 1, 1) := by decide +kernel
theorem dX9_isLit_8 : decode cX9_isLit 8 = .ok (.bipush 12, 2) := by decide +kernel
theorem dX9_isLit_10 : decode cX9_isLit 10 = .ok (.isub, 1) := by decide +kernel
theorem dX9_isLit_11 : decode cX9_isLit 11 = .ok (.invokevirtual 85, 3) := by decide +kernel
theorem dX9_isLit_14 : decode cX9_isLit 14 = .ok (.ifCond .eq 24, 3) := by decide +kernel
theorem dX9_isLit_17 : decode cX9_isLit 17 = .ok (.aload_n 0, 1) := by decide +kernel
theorem dX9_isLit_18 : decode cX9_isLit 18 = .ok (.getfield 7, 3) := by decide +kernel
theorem dX9_isLit_21 : decode cX9_isLit 21 = .ok (.sipush 298, 3) := by decide +kernel
theorem dX9_isLit_24 : decode cX9_isLit 24 = .ok (.iload_n 1, 1) := by decide +kernel
theorem dX9_isLit_25 : decode cX9_isLit 25 = .ok (.iadd, 1) := by decide +kernel
theorem dX9_isLit_26 : decode cX9_isLit 26 = .ok (.bipush 12, 2) := by decide +kernel
theorem dX9_isLit_28 : decode cX9_isLit 28 = .ok (.isub, 1) := by decide +kernel
theorem dX9_isLit_29 : decode cX9_isLit 29 = .ok (.iaload, 1) := by decide +kernel
theorem dX9_isLit_30 : decode cX9_isLit 30 = .ok (.iconst 1, 1) := by decide +kernel
theorem dX9_isLit_31 : decode cX9_isLit 31 = .ok (.if_icmp .ne 7, 3) := by decide +kernel
theorem dX9_isLit_34 : decode cX9_isLit 34 = .ok (.iconst 1, 1) := by decide +kernel
theorem dX9_isLit_35 : decode cX9_isLit 35 = .ok (.goto 4, 3) := by decide +kernel
theorem dX9_isLit_38 : decode cX9_isLit 38 = .ok (.iconst 0, 1) := by decide +kernel
theorem dX9_isLit_39 : decode cX9_isLit 39 = .ok (.ireturn, 1) := by decide +kernel
theorem dX9_isLit_40 : decode cX9_isLit 40 = .ok (.aload_n 0, 1) := by decide +kernel
theorem dX9_isLit_41 : decode cX9_isLit 41 = .ok (.getfield 7, 3) := by decide +kernel
theorem dX9_isLit_44 : decode cX9_isLit 44 = .ok (.sipush 196, 3) := by decide +kernel
theorem dX9_isLit_47 : decode cX9_isLit 47 = .ok (.iload_n 1, 1) := by decide +kernel
theorem dX9_isLit_48 : decode cX9_isLit 48 = .ok (.iadd, 1) := by decide +kernel
theorem dX9_isLit_49 : decode cX9_isLit 49 = .ok (.iaload, 1) := by decide +kernel
theorem dX9_isLit_50 : decode cX9_isLit 50 = .ok (.iconst 1, 1) := by decide +kernel
theorem dX9_isLit_51 : decode cX9_isLit 51 = .ok (.if_icmp .ne 47, 3) := by decide +kernel
theorem dX9_isLit_54 : decode cX9_isLit 54 = .ok (.aload_n 0, 1) := by decide +kernel
theorem dX9_isLit_55 : decode cX9_isLit 55 = .ok (.getfield 7, 3) := by decide +kernel
theorem dX9_isLit_58 : decode cX9_isLit 58 = .ok (.sipush 232, 3) := by decide +kernel
theorem dX9_isLit_61 : decode cX9_isLit 61 = .ok (.iload_n 1, 1) := by decide +kernel
theorem dX9_isLit_62 : decode cX9_isLit 62 = .ok (.iadd, 1) := by decide +kernel
theorem dX9_isLit_63 : decode cX9_isLit 63 = .ok (.iaload, 1) := by decide +kernel
theorem dX9_isLit_64 : decode cX9_isLit 64 = .ok (.ifCond .gt 30, 3) := by decide +kernel
theorem dX9_isLit_67 : decode cX9_isLit 67 = .ok (.aload_n 0, 1) := by decide +kernel
theorem dX9_isLit_68 : decode cX9_isLit 68 = .ok (.getfield 7, 3) := by decide +kernel
theorem dX9_isLit_71 : decode cX9_isLit 71 = .ok (.sipush 244, 3) := by decide +kernel
theorem dX9_isLit_74 : decode cX9_isLit 74 = .ok (.iload_n 1, 1) := by decide +kernel
theorem dX9_isLit_75 : decode cX9_isLit 75 = .ok (.iadd, 1) := by decide +kernel
theorem dX9_isLit_76 : decode cX9_isLit 76 = .ok (.iaload, 1) := by decide +kernel
theorem dX9_isLit_77 : decode cX9_isLit 77 = .ok (.ifCond .gt 17, 3) := by decide +kernel
theorem dX9_isLit_80 : decode cX9_isLit 80 = .ok (.aload_n 0, 1) := by decide +kernel
theorem dX9_isLit_81 : decode cX9_isLit 81 = .ok (.getfield 7, 3) := by decide +kernel
theorem dX9_isLit_84 : decode cX9_isLit 84 = .ok (.sipush 256, 3) := by decide +kernel
theorem dX9_isLit_87 : decode cX9_isLit 87 = .ok (.iload_n 1, 1) := by decide +kernel
theorem dX9_isLit_88 : decode cX9_isLit 88 = .ok (.iadd, 1) := by decide +kernel
theorem dX9_isLit_89 : decode cX9_isLit 89 = .ok (.iaload, 1) := by decide +kernel
theorem dX9_isLit_90 : decode cX9_isLit 90 = .ok (.iconst 1, 1) := by decide +kernel
theorem dX9_isLit_91 : decode cX9_isLit 91 = .ok (.if_icmp .ne 7, 3) := by decide +kernel
theorem dX9_isLit_94 : decode cX9_isLit 94 = .ok (.iconst 1, 1) := by decide +kernel
theorem dX9_isLit_95 : decode cX9_isLit 95 = .ok (.goto 4, 3) := by decide +kernel
theorem dX9_isLit_98 : decode cX9_isLit 98 = .ok (.iconst 0, 1) := by decide +kernel
theorem dX9_isLit_99 : decode cX9_isLit 99 = .ok (.ireturn, 1) := by decide +kernel
theorem dX9_lampAt_0 : decode cX9_lampAt 0 = .ok (.iload_n 1, 1) := by decide +kernel
theorem dX9_lampAt_1 : decode cX9_lampAt 1 = .ok (.bipush 12, 2) := by decide +kernel
theorem dX9_lampAt_3 : decode cX9_lampAt 3 = .ok (.if_icmp .lt 19, 3) := by decide +kernel
theorem dX9_lampAt_6 : decode cX9_lampAt 6 = .ok (.aload_n 0, 1) := by decide +kernel
theorem dX9_lampAt_7 : decode cX9_lampAt 7 = .ok (.getfield 7, 3) := by decide +kernel
theorem dX9_lampAt_10 : decode cX9_lampAt 10 = .ok (.sipush 274, 3) := by decide +kernel
theorem dX9_lampAt_13 : decode cX9_lampAt 13 = .ok (.iload_n 1, 1) := by decide +kernel
theorem dX9_lampAt_14 : decode cX9_lampAt 14 = .ok (.iadd, 1) := by decide +kernel
theorem dX9_lampAt_15 : decode cX9_lampAt 15 = .ok (.bipush 12, 2) := by decide +kernel
theorem dX9_lampAt_17 : decode cX9_lampAt 17 = .ok (.isub, 1) := by decide +kernel
theorem dX9_lampAt_18 : decode cX9_lampAt 18 = .ok (.iaload, 1) := by decide +kernel
theorem dX9_lampAt_19 : decode cX9_lampAt 19 = .ok (.goto 13, 3) := by decide +kernel
theorem dX9_lampAt_22 : decode cX9_lampAt 22 = .ok (.aload_n 0, 1) := by decide +kernel
theorem dX9_lampAt_23 : decode cX9_lampAt 23 = .ok (.getfield 7, 3) := by decide +kernel
theorem dX9_lampAt_26 : decode cX9_lampAt 26 = .ok (.sipush 208, 3) := by decide +kernel
theorem dX9_lampAt_29 : decode cX9_lampAt 29 = .ok (.iload_n 1, 1) := by decide +kernel
theorem dX9_lampAt_30 : decode cX9_lampAt 30 = .ok (.iadd, 1) := by decide +kernel
theorem dX9_lampAt_31 : decode cX9_lampAt 31 = .ok (.iaload, 1) := by decide +kernel
theorem dX9_lampAt_32 : decode cX9_lampAt 32 = .ok (.ireturn, 1) := by decide +kernel
theorem dX9_kindOf_0 : decode cX9_kindOf 0 = .ok (.iload_n 1, 1) := by decide +kernel
theorem dX9_kindOf_1 : decode cX9_kindOf 1 = .ok (.bipush 12, 2) := by decide +kernel
theorem dX9_kindOf_3 : decode cX9_kindOf 3 = .ok (.if_icmp .lt 7, 3) := by decide +kernel
theorem dX9_kindOf_6 : decode cX9_kindOf 6 = .ok (.iconst 5, 1) := by decide +kernel
theorem dX9_kindOf_7 : decode cX9_kindOf 7 = .ok (.goto 13, 3) := by decide +kernel
theorem dX9_kindOf_10 : decode cX9_kindOf 10 = .ok (.aload_n 0, 1) := by decide +kernel
theorem dX9_kindOf_11 : decode cX9_kindOf 11 = .ok (.getfield 7, 3) := by decide +kernel
theorem dX9_kindOf_14 : decode cX9_kindOf 14 = .ok (.sipush 220, 3) := by decide +kernel
theorem dX9_kindOf_17 : decode cX9_kindOf 17 = .ok (.iload_n 1, 1) := by decide +kernel
theorem dX9_kindOf_18 : decode cX9_kindOf 18 = .ok (.iadd, 1) := by decide +kernel
theorem dX9_kindOf_19 : decode cX9_kindOf 19 = .ok (.iaload, 1) := by decide +kernel
theorem dX9_kindOf_20 : decode cX9_kindOf 20 = .ok (.ireturn, 1) := by decide +kernel
theorem dX9_isTaken_0 : decode cX9_isTaken 0 = .ok (.iconst 0, 1) := by decide +kernel
theorem dX9_isTaken_1 : decode cX9_isTaken 1 = .ok (.istore_n 2, 1) := by decide +kernel
theorem dX9_isTaken_2 : decode cX9_isTaken 2 = .ok (.iload_n 2, 1) := by decide +kernel
theorem dX9_isTaken_3 : decode cX9_isTaken 3 = .ok (.bipush 12, 2) := by decide +kernel
theorem dX9_isTaken_5 : decode cX9_isTaken 5 = .ok (.if_icmp .ge 39, 3) := by decide +kernel
theorem dX9_isTaken_8 : decode cX9_isTaken 8 = .ok (.aload_n 0, 1) := by decide +kernel
theorem dX9_isTaken_9 : decode cX9_isTaken 9 = .ok (.getfield 7, 3) := by decide +kernel
theorem dX9_isTaken_12 : decode cX9_isTaken 12 = .ok (.sipush 196, 3) := by decide +kernel
theorem dX9_isTaken_15 : decode cX9_isTaken 15 = .ok (.iload_n 2, 1) := by decide +kernel
theorem dX9_isTaken_16 : decode cX9_isTaken 16 = .ok (.iadd, 1) := by decide +kernel
theorem dX9_isTaken_17 : decode cX9_isTaken 17 = .ok (.iaload, 1) := by decide +kernel
theorem dX9_isTaken_18 : decode cX9_isTaken 18 = .ok (.iconst 1, 1) := by decide +kernel
theorem dX9_isTaken_19 : decode cX9_isTaken 19 = .ok (.if_icmp .ne 19, 3) := by decide +kernel
theorem dX9_isTaken_22 : decode cX9_isTaken 22 = .ok (.aload_n 0, 1) := by decide +kernel
theorem dX9_isTaken_23 : decode cX9_isTaken 23 = .ok (.getfield 7, 3) := by decide +kernel
theorem dX9_isTaken_26 : decode cX9_isTaken 26 = .ok (.sipush 208, 3) := by decide +kernel
theorem dX9_isTaken_29 : decode cX9_isTaken 29 = .ok (.iload_n 2, 1) := by decide +kernel
theorem dX9_isTaken_30 : decode cX9_isTaken 30 = .ok (.iadd, 1) := by decide +kernel
theorem dX9_isTaken_31 : decode cX9_isTaken 31 = .ok (.iaload, 1) := by decide +kernel
theorem dX9_isTaken_32 : decode cX9_isTaken 32 = .ok (.iload_n 1, 1) := by decide +kernel
theorem dX9_isTaken_33 : decode cX9_isTaken 33 = .ok (.if_icmp .ne 5, 3) := by decide +kernel
theorem dX9_isTaken_36 : decode cX9_isTaken 36 = .ok (.iconst 1, 1) := by decide +kernel
theorem dX9_isTaken_37 : decode cX9_isTaken 37 = .ok (.ireturn, 1) := by decide +kernel
theorem dX9_isTaken_38 : decode cX9_isTaken 38 = .ok (.iinc 2 1, 3) := by decide +kernel
theorem dX9_isTaken_41 : decode cX9_isTaken 41 = .ok (.goto (-39), 3) := by decide +kernel
theorem dX9_isTaken_44 : decode cX9_isTaken 44 = .ok (.iconst 0, 1) := by decide +kernel
theorem dX9_isTaken_45 : decode cX9_isTaken 45 = .ok (.istore_n 2, 1) := by decide +kernel
theorem dX9_isTaken_46 : decode cX9_isTaken 46 = .ok (.iload_n 2, 1) := by decide +kernel
theorem dX9_isTaken_47 : decode cX9_isTaken 47 = .ok (.bipush 6, 2) := by decide +kernel
theorem dX9_isTaken_49 : decode cX9_isTaken 49 = .ok (.if_icmp .ge 33, 3) := by decide +kernel
theorem dX9_isTaken_52 : decode cX9_isTaken 52 = .ok (.aload_n 0, 1) := by decide +kernel
theorem dX9_isTaken_53 : decode cX9_isTaken 53 = .ok (.iload_n 2, 1) := by decide +kernel
theorem dX9_isTaken_54 : decode cX9_isTaken 54 = .ok (.invokevirtual 85, 3) := by decide +kernel
theorem dX9_isTaken_57 : decode cX9_isTaken 57 = .ok (.ifCond .eq 19, 3) := by decide +kernel
theorem dX9_isTaken_60 : decode cX9_isTaken 60 = .ok (.aload_n 0, 1) := by decide +kernel
theorem dX9_isTaken_61 : decode cX9_isTaken 61 = .ok (.getfield 7, 3) := by decide +kernel
theorem dX9_isTaken_64 : decode cX9_isTaken 64 = .ok (.sipush 274, 3) := by decide +kernel
theorem dX9_isTaken_67 : decode cX9_isTaken 67 = .ok (.iload_n 2, 1) := by decide +kernel
theorem dX9_isTaken_68 : decode cX9_isTaken 68 = .ok (.iadd, 1) := by decide +kernel
theorem dX9_isTaken_69 : decode cX9_isTaken 69 = .ok (.iaload, 1) := by decide +kernel
theorem dX9_isTaken_70 : decode cX9_isTaken 70 = .ok (.iload_n 1, 1) := by decide +kernel
theorem dX9_isTaken_71 : decode cX9_isTaken 71 = .ok (.if_icmp .ne 5, 3) := by decide +kernel
theorem dX9_isTaken_74 : decode cX9_isTaken 74 = .ok (.iconst 1, 1) := by decide +kernel
theorem dX9_isTaken_75 : decode cX9_isTaken 75 = .ok (.ireturn, 1) := by decide +kernel
theorem dX9_isTaken_76 : decode cX9_isTaken 76 = .ok (.iinc 2 1, 3) := by decide +kernel
theorem dX9_isTaken_79 : decode cX9_isTaken 79 = .ok (.goto (-33), 3) := by decide +kernel
theorem dX9_isTaken_82 : decode cX9_isTaken 82 = .ok (.iconst 0, 1) := by decide +kernel
theorem dX9_isTaken_83 : decode cX9_isTaken 83 = .ok (.ireturn, 1) := by decide +kernel
theorem dX9_ground_0 : decode cX9_ground 0 = .ok (.iload_n 1, 1) := by decide +kernel
theorem dX9_ground_1 : decode cX9_ground 1 = .ok (.iload_n 2, 1) := by decide +kernel
theorem dX9_ground_2 : decode cX9_ground 2 = .ok (.invokestatic 88, 3) := by decide +kernel
theorem dX9_ground_5 : decode cX9_ground 5 = .ok (.ifCond .eq 30, 3) := by decide +kernel
theorem dX9_ground_8 : decode cX9_ground 8 = .ok (.iload_n 3, 1) := by decide +kernel
theorem dX9_ground_9 : decode cX9_ground 9 = .ok (.iconst 0, 1) := by decide +kernel
theorem dX9_ground_10 : decode cX9_ground 10 = .ok (.iconst 3, 1) := by decide +kernel
theorem dX9_ground_11 : decode cX9_ground 11 = .ok (.invokestatic 92, 3) := by decide +kernel
theorem dX9_ground_14 : decode cX9_ground 14 = .ok (.ifCond .eq 21, 3) := by decide +kernel
theorem dX9_ground_17 : decode cX9_ground 17 = .ok (.iload_n 3, 1) := by decide +kernel
theorem dX9_ground_18 : decode cX9_ground 18 = .ok (.iconst 3, 1) := by decide +kernel
theorem dX9_ground_19 : decode cX9_ground 19 = .ok (.if_icmp .ne 18, 3) := by decide +kernel
theorem dX9_ground_22 : decode cX9_ground 22 = .ok (.aload_n 0, 1) := by decide +kernel
theorem dX9_ground_23 : decode cX9_ground 23 = .ok (.bipush 14, 2) := by decide +kernel
theorem dX9_ground_25 : decode cX9_ground 25 = .ok (.iload_n 2, 1) := by decide +kernel
theorem dX9_ground_26 : decode cX9_ground 26 = .ok (.imul, 1) := by decide +kernel
theorem dX9_ground_27 : decode cX9_ground 27 = .ok (.iload_n 1, 1) := by decide +kernel
theorem dX9_ground_28 : decode cX9_ground 28 = .ok (.iadd, 1) := by decide +kernel
theorem dX9_ground_29 : decode cX9_ground 29 = .ok (.invokevirtual 96, 3) := by decide +kernel
theorem dX9_ground_32 : decode cX9_ground 32 = .ok (.ifCond .eq 5, 3) := by decide +kernel
theorem dX9_ground_35 : decode cX9_ground 35 = .ok (.iconst 0, 1) := by decide +kernel
theorem dX9_ground_36 : decode cX9_ground 36 = .ok (.ireturn, 1) := by decide +kernel
theorem dX9_ground_37 : decode cX9_ground 37 = .ok (.aload_n 0, 1) := by decide +kernel
theorem dX9_ground_38 : decode cX9_ground 38 = .ok (.getfield 7, 3) := by decide +kernel
theorem dX9_ground_41 : decode cX9_ground 41 = .ok (.iconst 0, 1) := by decide +kernel
theorem dX9_ground_42 : decode cX9_ground 42 = .ok (.bipush 14, 2) := by decide +kernel
theorem dX9_ground_44 : decode cX9_ground 44 = .ok (.iload_n 2, 1) := by decide +kernel
theorem dX9_ground_45 : decode cX9_ground 45 = .ok (.imul, 1) := by decide +kernel
theorem dX9_ground_46 : decode cX9_ground 46 = .ok (.iadd, 1) := by decide +kernel
theorem dX9_ground_47 : decode cX9_ground 47 = .ok (.iload_n 1, 1) := by decide +kernel
theorem dX9_ground_48 : decode cX9_ground 48 = .ok (.iadd, 1) := by decide +kernel
theorem dX9_ground_49 : decode cX9_ground 49 = .ok (.iload_n 3, 1) := by decide +kernel
theorem dX9_ground_50 : decode cX9_ground 50 = .ok (.iastore, 1) := by decide +kernel
theorem dX9_ground_51 : decode cX9_ground 51 = .ok (.iconst 1, 1) := by decide +kernel
theorem dX9_ground_52 : decode cX9_ground 52 = .ok (.ireturn, 1) := by decide +kernel
theorem dX9_putsLamp_0 : decode cX9_putsLamp 0 = .ok (.iload_n 2, 1) := by decide +kernel
theorem dX9_putsLamp_1 : decode cX9_putsLamp 1 = .ok (.iload_n 3, 1) := by decide +kernel
theorem dX9_putsLamp_2 : decode cX9_putsLamp 2 = .ok (.invokestatic 88, 3) := by decide +kernel
theorem dX9_putsLamp_5 : decode cX9_putsLamp 5 = .ok (.ifCond .eq 26, 3) := by decide +kernel
theorem dX9_putsLamp_8 : decode cX9_putsLamp 8 = .ok (.iload 4, 2) := by decide +kernel
theorem dX9_putsLamp_10 : decode cX9_putsLamp 10 = .ok (.iconst 0, 1) := by decide +kernel
theorem dX9_putsLamp_11 : decode cX9_putsLamp 11 = .ok (.iconst 4, 1) := by decide +kernel
theorem dX9_putsLamp_12 : decode cX9_putsLamp 12 = .ok (.invokestatic 92, 3) := by decide +kernel
theorem dX9_putsLamp_15 : decode cX9_putsLamp 15 = .ok (.ifCond .eq 16, 3) := by decide +kernel
theorem dX9_putsLamp_18 : decode cX9_putsLamp 18 = .ok (.aload_n 0, 1) := by decide +kernel
theorem dX9_putsLamp_19 : decode cX9_putsLamp 19 = .ok (.bipush 14, 2) := by decide +kernel
theorem dX9_putsLamp_21 : decode cX9_putsLamp 21 = .ok (.iload_n 3, 1) := by decide +kernel
theorem dX9_putsLamp_22 : decode cX9_putsLamp 22 = .ok (.imul, 1) := by decide +kernel
theorem dX9_putsLamp_23 : decode cX9_putsLamp 23 = .ok (.iload_n 2, 1) := by decide +kernel
theorem dX9_putsLamp_24 : decode cX9_putsLamp 24 = .ok (.iadd, 1) := by decide +kernel
theorem dX9_putsLamp_25 : decode cX9_putsLamp 25 = .ok (.invokevirtual 99, 3) := by decide +kernel
theorem dX9_putsLamp_28 : decode cX9_putsLamp 28 = .ok (.ifCond .eq 5, 3) := by decide +kernel
theorem dX9_putsLamp_31 : decode cX9_putsLamp 31 = .ok (.iconst 0, 1) := by decide +kernel
theorem dX9_putsLamp_32 : decode cX9_putsLamp 32 = .ok (.ireturn, 1) := by decide +kernel
theorem dX9_putsLamp_33 : decode cX9_putsLamp 33 = .ok (.aload_n 0, 1) := by decide +kernel
theorem dX9_putsLamp_34 : decode cX9_putsLamp 34 = .ok (.getfield 7, 3) := by decide +kernel
theorem dX9_putsLamp_37 : decode cX9_putsLamp 37 = .ok (.sipush 196, 3) := by decide +kernel
theorem dX9_putsLamp_40 : decode cX9_putsLamp 40 = .ok (.iload_n 1, 1) := by decide +kernel
theorem dX9_putsLamp_41 : decode cX9_putsLamp 41 = .ok (.iadd, 1) := by decide +kernel
theorem dX9_putsLamp_42 : decode cX9_putsLamp 42 = .ok (.iconst 1, 1) := by decide +kernel
theorem dX9_putsLamp_43 : decode cX9_putsLamp 43 = .ok (.iastore, 1) := by decide +kernel
theorem dX9_putsLamp_44 : decode cX9_putsLamp 44 = .ok (.aload_n 0, 1) := by decide +kernel
theorem dX9_putsLamp_45 : decode cX9_putsLamp 45 = .ok (.getfield 7, 3) := by decide +kernel
theorem dX9_putsLamp_48 : decode cX9_putsLamp 48 = .ok (.sipush 208, 3) := by decide +kernel
theorem dX9_putsLamp_51 : decode cX9_putsLamp 51 = .ok (.iload_n 1, 1) := by decide +kernel
theorem dX9_putsLamp_52 : decode cX9_putsLamp 52 = .ok (.iadd, 1) := by decide +kernel
theorem dX9_putsLamp_53 : decode cX9_putsLamp 53 = .ok (.bipush 14, 2) := by decide +kernel
theorem dX9_putsLamp_55 : decode cX9_putsLamp 55 = .ok (.iload_n 3, 1) := by decide +kernel
theorem dX9_putsLamp_56 : decode cX9_putsLamp 56 = .ok (.imul, 1) := by decide +kernel
theorem dX9_putsLamp_57 : decode cX9_putsLamp 57 = .ok (.iload_n 2, 1) := by decide +kernel
theorem dX9_putsLamp_58 : decode cX9_putsLamp 58 = .ok (.iadd, 1) := by decide +kernel
theorem dX9_putsLamp_59 : decode cX9_putsLamp 59 = .ok (.iastore, 1) := by decide +kernel
theorem dX9_putsLamp_60 : decode cX9_putsLamp 60 = .ok (.aload_n 0, 1) := by decide +kernel
theorem dX9_putsLamp_61 : decode cX9_putsLamp 61 = .ok (.getfield 7, 3) := by decide +kernel
theorem dX9_putsLamp_64 : decode cX9_putsLamp 64 = .ok (.sipush 220, 3) := by decide +kernel
theorem dX9_putsLamp_67 : decode cX9_putsLamp 67 = .ok (.iload_n 1, 1) := by decide +kernel
theorem dX9_putsLamp_68 : decode cX9_putsLamp 68 = .ok (.iadd, 1) := by decide +kernel
theorem dX9_putsLamp_69 : decode cX9_putsLamp 69 = .ok (.iload 4, 2) := by decide +kernel
theorem dX9_putsLamp_71 : decode cX9_putsLamp 71 = .ok (.iastore, 1) := by decide +kernel
theorem dX9_putsLamp_72 : decode cX9_putsLamp 72 = .ok (.aload_n 0, 1) := by decide +kernel
theorem dX9_putsLamp_73 : decode cX9_putsLamp 73 = .ok (.getfield 7, 3) := by decide +kernel
theorem dX9_putsLamp_76 : decode cX9_putsLamp 76 = .ok (.sipush 232, 3) := by decide +kernel
theorem dX9_putsLamp_79 : decode cX9_putsLamp 79 = .ok (.iload_n 1, 1) := by decide +kernel
theorem dX9_putsLamp_80 : decode cX9_putsLamp 80 = .ok (.iadd, 1) := by decide +kernel
theorem dX9_putsLamp_81 : decode cX9_putsLamp 81 = .ok (.iconst 0, 1) := by decide +kernel
theorem dX9_putsLamp_82 : decode cX9_putsLamp 82 = .ok (.iastore, 1) := by decide +kernel
theorem dX9_putsLamp_83 : decode cX9_putsLamp 83 = .ok (.aload_n 0, 1) := by decide +kernel
theorem dX9_putsLamp_84 : decode cX9_putsLamp 84 = .ok (.getfield 7, 3) := by decide +kernel
theorem dX9_putsLamp_87 : decode cX9_putsLamp 87 = .ok (.sipush 244, 3) := by decide +kernel
theorem dX9_putsLamp_90 : decode cX9_putsLamp 90 = .ok (.iload_n 1, 1) := by decide +kernel
theorem dX9_putsLamp_91 : decode cX9_putsLamp 91 = .ok (.iadd, 1) := by decide +kernel
theorem dX9_putsLamp_92 : decode cX9_putsLamp 92 = .ok (.iconst 0, 1) := by decide +kernel
theorem dX9_putsLamp_93 : decode cX9_putsLamp 93 = .ok (.iastore, 1) := by decide +kernel
theorem dX9_putsLamp_94 : decode cX9_putsLamp 94 = .ok (.aload_n 0, 1) := by decide +kernel
theorem dX9_putsLamp_95 : decode cX9_putsLamp 95 = .ok (.getfield 7, 3) := by decide +kernel
theorem dX9_putsLamp_98 : decode cX9_putsLamp 98 = .ok (.sipush 256, 3) := by decide +kernel
theorem dX9_putsLamp_101 : decode cX9_putsLamp 101 = .ok (.iload_n 1, 1) := by decide +kernel
theorem dX9_putsLamp_102 : decode cX9_putsLamp 102 = .ok (.iadd, 1) := by decide +kernel
theorem dX9_putsLamp_103 : decode cX9_putsLamp 103 = .ok (.iload 5, 2) := by decide +kernel
theorem dX9_putsLamp_105 : decode cX9_putsLamp 105 = .ok (.iastore, 1) := by decide +kernel
theorem dX9_putsLamp_106 : decode cX9_putsLamp 106 = .ok (.iconst 1, 1) := by decide +kernel
theorem dX9_putsLamp_107 : decode cX9_putsLamp 107 = .ok (.ireturn, 1) := by decide +kernel
theorem dX9_inn_0 : decode cX9_inn 0 = .ok (.iload_n 1, 1) := by decide +kernel
theorem dX9_inn_1 : decode cX9_inn 1 = .ok (.invokestatic 102, 3) := by decide +kernel
theorem dX9_inn_4 : decode cX9_inn 4 = .ok (.ifCond .eq 20, 3) := by decide +kernel
theorem dX9_inn_7 : decode cX9_inn 7 = .ok (.aload_n 0, 1) := by decide +kernel
theorem dX9_inn_8 : decode cX9_inn 8 = .ok (.iload_n 1, 1) := by decide +kernel
theorem dX9_inn_9 : decode cX9_inn 9 = .ok (.iload_n 2, 1) := by decide +kernel
theorem dX9_inn_10 : decode cX9_inn 10 = .ok (.iload_n 3, 1) := by decide +kernel
theorem dX9_inn_11 : decode cX9_inn 11 = .ok (.iload 4, 2) := by decide +kernel
theorem dX9_inn_13 : decode cX9_inn 13 = .ok (.iconst 0, 1) := by decide +kernel
theorem dX9_inn_14 : decode cX9_inn 14 = .ok (.invokevirtual 105, 3) := by decide +kernel
theorem dX9_inn_17 : decode cX9_inn 17 = .ok (.ifCond .eq 7, 3) := by decide +kernel
theorem dX9_inn_20 : decode cX9_inn 20 = .ok (.iconst 1, 1) := by decide +kernel
theorem dX9_inn_21 : decode cX9_inn 21 = .ok (.goto 4, 3) := by decide +kernel
theorem dX9_inn_24 : decode cX9_inn 24 = .ok (.iconst 0, 1) := by decide +kernel
theorem dX9_inn_25 : decode cX9_inn 25 = .ok (.ireturn, 1) := by decide +kernel
theorem dX9_stray_0 : decode cX9_stray 0 = .ok (.iload_n 1, 1) := by decide +kernel
theorem dX9_stray_1 : decode cX9_stray 1 = .ok (.bipush 9, 2) := by decide +kernel
theorem dX9_stray_3 : decode cX9_stray 3 = .ok (.bipush 11, 2) := by decide +kernel
theorem dX9_stray_5 : decode cX9_stray 5 = .ok (.invokestatic 92, 3) := by decide +kernel
theorem dX9_stray_8 : decode cX9_stray 8 = .ok (.ifCond .eq 29, 3) := by decide +kernel
theorem dX9_stray_11 : decode cX9_stray 11 = .ok (.aload_n 0, 1) := by decide +kernel
theorem dX9_stray_12 : decode cX9_stray 12 = .ok (.iload_n 1, 1) := by decide +kernel
theorem dX9_stray_13 : decode cX9_stray 13 = .ok (.iload_n 2, 1) := by decide +kernel
theorem dX9_stray_14 : decode cX9_stray 14 = .ok (.iload_n 3, 1) := by decide +kernel
theorem dX9_stray_15 : decode cX9_stray 15 = .ok (.iload 4, 2) := by decide +kernel
theorem dX9_stray_17 : decode cX9_stray 17 = .ok (.iload 5, 2) := by decide +kernel
theorem dX9_stray_19 : decode cX9_stray 19 = .ok (.ifCond .eq 7, 3) := by decide +kernel
theorem dX9_stray_22 : decode cX9_stray 22 = .ok (.iconst 1, 1) := by decide +kernel
theorem dX9_stray_23 : decode cX9_stray 23 = .ok (.goto 4, 3) := by decide +kernel
theorem dX9_stray_26 : decode cX9_stray 26 = .ok (.iconst 0, 1) := by decide +kernel
theorem dX9_stray_27 : decode cX9_stray 27 = .ok (.invokevirtual 105, 3) := by decide +kernel
theorem dX9_stray_30 : decode cX9_stray 30 = .ok (.ifCond .eq 7, 3) := by decide +kernel
theorem dX9_stray_33 : decode cX9_stray 33 = .ok (.iconst 1, 1) := by decide +kernel
theorem dX9_stray_34 : decode cX9_stray 34 = .ok (.goto 4, 3) := by decide +kernel
theorem dX9_stray_37 : decode cX9_stray 37 = .ok (.iconst 0, 1) := by decide +kernel
theorem dX9_stray_38 : decode cX9_stray 38 = .ok (.ireturn, 1) := by decide +kernel
theorem dX9_gone_0 : decode cX9_gone 0 = .ok (.aload_n 0, 1) := by decide +kernel
theorem dX9_gone_1 : decode cX9_gone 1 = .ok (.iload_n 1, 1) := by decide +kernel
theorem dX9_gone_2 : decode cX9_gone 2 = .ok (.invokevirtual 109, 3) := by decide +kernel
theorem dX9_gone_5 : decode cX9_gone 5 = .ok (.ifCond .ne 5, 3) := by decide +kernel
theorem dX9_gone_8 : decode cX9_gone 8 = .ok (.iconst 0, 1) := by decide +kernel
theorem dX9_gone_9 : decode cX9_gone 9 = .ok (.ireturn, 1) := by decide +kernel
theorem dX9_gone_10 : decode cX9_gone 10 = .ok (.aload_n 0, 1) := by decide +kernel
theorem dX9_gone_11 : decode cX9_gone 11 = .ok (.getfield 7, 3) := by decide +kernel
theorem dX9_gone_14 : decode cX9_gone 14 = .ok (.sipush 196, 3) := by decide +kernel
theorem dX9_gone_17 : decode cX9_gone 17 = .ok (.iload_n 1, 1) := by decide +kernel
theorem dX9_gone_18 : decode cX9_gone 18 = .ok (.iadd, 1) := by decide +kernel
theorem dX9_gone_19 : decode cX9_gone 19 = .ok (.iconst 0, 1) := by decide +kernel
theorem dX9_gone_20 : decode cX9_gone 20 = .ok (.iastore, 1) := by decide +kernel
theorem dX9_gone_21 : decode cX9_gone 21 = .ok (.iconst 1, 1) := by decide +kernel
theorem dX9_gone_22 : decode cX9_gone 22 = .ok (.ireturn, 1) := by decide +kernel
theorem dX9_dog_0 : decode cX9_dog 0 = .ok (.iload_n 1, 1) := by decide +kernel
theorem dX9_dog_1 : decode cX9_dog 1 = .ok (.invokestatic 102, 3) := by decide +kernel
theorem dX9_dog_4 : decode cX9_dog 4 = .ok (.ifCond .eq 21, 3) := by decide +kernel
theorem dX9_dog_7 : decode cX9_dog 7 = .ok (.aload_n 0, 1) := by decide +kernel
theorem dX9_dog_8 : decode cX9_dog 8 = .ok (.iload_n 1, 1) := by decide +kernel
theorem dX9_dog_9 : decode cX9_dog 9 = .ok (.invokevirtual 109, 3) := by decide +kernel
theorem dX9_dog_12 : decode cX9_dog 12 = .ok (.ifCond .eq 13, 3) := by decide +kernel
theorem dX9_dog_15 : decode cX9_dog 15 = .ok (.iload_n 2, 1) := by decide +kernel
theorem dX9_dog_16 : decode cX9_dog 16 = .ok (.iconst 0, 1) := by decide +kernel
theorem dX9_dog_17 : decode cX9_dog 17 = .ok (.bipush 99, 2) := by decide +kernel
theorem dX9_dog_19 : decode cX9_dog 19 = .ok (.invokestatic 92, 3) := by decide +kernel
theorem dX9_dog_22 : decode cX9_dog 22 = .ok (.ifCond .ne 5, 3) := by decide +kernel
theorem dX9_dog_25 : decode cX9_dog 25 = .ok (.iconst 0, 1) := by decide +kernel
theorem dX9_dog_26 : decode cX9_dog 26 = .ok (.ireturn, 1) := by decide +kernel
theorem dX9_dog_27 : decode cX9_dog 27 = .ok (.aload_n 0, 1) := by decide +kernel
theorem dX9_dog_28 : decode cX9_dog 28 = .ok (.getfield 7, 3) := by decide +kernel
theorem dX9_dog_31 : decode cX9_dog 31 = .ok (.sipush 244, 3) := by decide +kernel
theorem dX9_dog_34 : decode cX9_dog 34 = .ok (.iload_n 1, 1) := by decide +kernel
theorem dX9_dog_35 : decode cX9_dog 35 = .ok (.iadd, 1) := by decide +kernel
theorem dX9_dog_36 : decode cX9_dog 36 = .ok (.iload_n 2, 1) := by decide +kernel
theorem dX9_dog_37 : decode cX9_dog 37 = .ok (.iastore, 1) := by decide +kernel
theorem dX9_dog_38 : decode cX9_dog 38 = .ok (.iconst 1, 1) := by decide +kernel
theorem dX9_dog_39 : decode cX9_dog 39 = .ok (.ireturn, 1) := by decide +kernel
theorem dX9_herd_0 : decode cX9_herd 0 = .ok (.iload_n 1, 1) := by decide +kernel
theorem dX9_herd_1 : decode cX9_herd 1 = .ok (.iconst 0, 1) := by decide +kernel
theorem dX9_herd_2 : decode cX9_herd 2 = .ok (.iconst 5, 1) := by decide +kernel
theorem dX9_herd_3 : decode cX9_herd 3 = .ok (.invokestatic 92, 3) := by decide +kernel
theorem dX9_herd_6 : decode cX9_herd 6 = .ok (.ifCond .eq 58, 3) := by decide +kernel
theorem dX9_herd_9 : decode cX9_herd 9 = .ok (.iload_n 2, 1) := by decide +kernel
theorem dX9_herd_10 : decode cX9_herd 10 = .ok (.iload_n 3, 1) := by decide +kernel
theorem dX9_herd_11 : decode cX9_herd 11 = .ok (.invokestatic 88, 3) := by decide +kernel
theorem dX9_herd_14 : decode cX9_herd 14 = .ok (.ifCond .eq 50, 3) := by decide +kernel
theorem dX9_herd_17 : decode cX9_herd 17 = .ok (.iload 4, 2) := by decide +kernel
theorem dX9_herd_19 : decode cX9_herd 19 = .ok (.iconst 0, 1) := by decide +kernel
theorem dX9_herd_20 : decode cX9_herd 20 = .ok (.sipush 999, 3) := by decide +kernel
theorem dX9_herd_23 : decode cX9_herd 23 = .ok (.invokestatic 92, 3) := by decide +kernel
theorem dX9_herd_26 : decode cX9_herd 26 = .ok (.ifCond .eq 38, 3) := by decide +kernel
theorem dX9_herd_29 : decode cX9_herd 29 = .ok (.iload 5, 2) := by decide +kernel
theorem dX9_herd_31 : decode cX9_herd 31 = .ok (.iconst 0, 1) := by decide +kernel
theorem dX9_herd_32 : decode cX9_herd 32 = .ok (.bipush 99, 2) := by decide +kernel
theorem dX9_herd_34 : decode cX9_herd 34 = .ok (.invokestatic 92, 3) := by decide +kernel
theorem dX9_herd_37 : decode cX9_herd 37 = .ok (.ifCond .eq 27, 3) := by decide +kernel
theorem dX9_herd_40 : decode cX9_herd 40 = .ok (.iload 6, 2) := by decide +kernel
theorem dX9_herd_42 : decode cX9_herd 42 = .ok (.iconst 0, 1) := by decide +kernel
theorem dX9_herd_43 : decode cX9_herd 43 = .ok (.bipush 99, 2) := by decide +kernel
theorem dX9_herd_45 : decode cX9_herd 45 = .ok (.invokestatic 92, 3) := by decide +kernel
theorem dX9_herd_48 : decode cX9_herd 48 = .ok (.ifCond .eq 16, 3) := by decide +kernel
theorem dX9_herd_51 : decode cX9_herd 51 = .ok (.aload_n 0, 1) := by decide +kernel
theorem dX9_herd_52 : decode cX9_herd 52 = .ok (.bipush 14, 2) := by decide +kernel
theorem dX9_herd_54 : decode cX9_herd 54 = .ok (.iload_n 3, 1) := by decide +kernel
theorem dX9_herd_55 : decode cX9_herd 55 = .ok (.imul, 1) := by decide +kernel
theorem dX9_herd_56 : decode cX9_herd 56 = .ok (.iload_n 2, 1) := by decide +kernel
theorem dX9_herd_57 : decode cX9_herd 57 = .ok (.iadd, 1) := by decide +kernel
theorem dX9_herd_58 : decode cX9_herd 58 = .ok (.invokevirtual 99, 3) := by decide +kernel
theorem dX9_herd_61 : decode cX9_herd 61 = .ok (.ifCond .eq 5, 3) := by decide +kernel
theorem dX9_herd_64 : decode cX9_herd 64 = .ok (.iconst 0, 1) := by decide +kernel
theorem dX9_herd_65 : decode cX9_herd 65 = .ok (.ireturn, 1) := by decide +kernel
theorem dX9_herd_66 : decode cX9_herd 66 = .ok (.aload_n 0, 1) := by decide +kernel
theorem dX9_herd_67 : decode cX9_herd 67 = .ok (.getfield 7, 3) := by decide +kernel
theorem dX9_herd_70 : decode cX9_herd 70 = .ok (.sipush 268, 3) := by decide +kernel
theorem dX9_herd_73 : decode cX9_herd 73 = .ok (.iload_n 1, 1) := by decide +kernel
theorem dX9_herd_74 : decode cX9_herd 74 = .ok (.iadd, 1) := by decide +kernel
theorem dX9_herd_75 : decode cX9_herd 75 = .ok (.iconst 1, 1) := by decide +kernel
theorem dX9_herd_76 : decode cX9_herd 76 = .ok (.iastore, 1) := by decide +kernel
theorem dX9_herd_77 : decode cX9_herd 77 = .ok (.aload_n 0, 1) := by decide +kernel
theorem dX9_herd_78 : decode cX9_herd 78 = .ok (.getfield 7, 3) := by decide +kernel
theorem dX9_herd_81 : decode cX9_herd 81 = .ok (.sipush 274, 3) := by decide +kernel
theorem dX9_herd_84 : decode cX9_herd 84 = .ok (.iload_n 1, 1) := by decide +kernel
theorem dX9_herd_85 : decode cX9_herd 85 = .ok (.iadd, 1) := by decide +kernel
theorem dX9_herd_86 : decode cX9_herd 86 = .ok (.bipush 14, 2) := by decide +kernel
theorem dX9_herd_88 : decode cX9_herd 88 = .ok (.iload_n 3, 1) := by decide +kernel
theorem dX9_herd_89 : decode cX9_herd 89 = .ok (.imul, 1) := by decide +kernel
theorem dX9_herd_90 : decode cX9_herd 90 = .ok (.iload_n 2, 1) := by decide +kernel
theorem dX9_herd_91 : decode cX9_herd 91 = .ok (.iadd, 1) := by decide +kernel
theorem dX9_herd_92 : decode cX9_herd 92 = .ok (.iastore, 1) := by decide +kernel
theorem dX9_herd_93 : decode cX9_herd 93 = .ok (.aload_n 0, 1) := by decide +kernel
theorem dX9_herd_94 : decode cX9_herd 94 = .ok (.getfield 7, 3) := by decide +kernel
theorem dX9_herd_97 : decode cX9_herd 97 = .ok (.sipush 280, 3) := by decide +kernel
theorem dX9_herd_100 : decode cX9_herd 100 = .ok (.iload_n 1, 1) := by decide +kernel
theorem dX9_herd_101 : decode cX9_herd 101 = .ok (.iadd, 1) := by decide +kernel
theorem dX9_herd_102 : decode cX9_herd 102 = .ok (.iload 4, 2) := by decide +kernel
theorem dX9_herd_104 : decode cX9_herd 104 = .ok (.iastore, 1) := by decide +kernel
theorem dX9_herd_105 : decode cX9_herd 105 = .ok (.aload_n 0, 1) := by decide +kernel
theorem dX9_herd_106 : decode cX9_herd 106 = .ok (.getfield 7, 3) := by decide +kernel
theorem dX9_herd_109 : decode cX9_herd 109 = .ok (.sipush 286, 3) := by decide +kernel
theorem dX9_herd_112 : decode cX9_herd 112 = .ok (.iload_n 1, 1) := by decide +kernel
theorem dX9_herd_113 : decode cX9_herd 113 = .ok (.iadd, 1) := by decide +kernel
theorem dX9_herd_114 : decode cX9_herd 114 = .ok (.iload 5, 2) := by decide +kernel
theorem dX9_herd_116 : decode cX9_herd 116 = .ok (.iastore, 1) := by decide +kernel
theorem dX9_herd_117 : decode cX9_herd 117 = .ok (.aload_n 0, 1) := by decide +kernel
theorem dX9_herd_118 : decode cX9_herd 118 = .ok (.getfield 7, 3) := by decide +kernel
theorem dX9_herd_121 : decode cX9_herd 121 = .ok (.sipush 292, 3) := by decide +kernel
theorem dX9_herd_124 : decode cX9_herd 124 = .ok (.iload_n 1, 1) := by decide +kernel
theorem dX9_herd_125 : decode cX9_herd 125 = .ok (.iadd, 1) := by decide +kernel
theorem dX9_herd_126 : decode cX9_herd 126 = .ok (.iload 6, 2) := by decide +kernel
theorem dX9_herd_128 : decode cX9_herd 128 = .ok (.iastore, 1) := by decide +kernel
theorem dX9_herd_129 : decode cX9_herd 129 = .ok (.aload_n 0, 1) := by decide +kernel
theorem dX9_herd_130 : decode cX9_herd 130 = .ok (.getfield 7, 3) := by decide +kernel
theorem dX9_herd_133 : decode cX9_herd 133 = .ok (.sipush 298, 3) := by decide +kernel
theorem dX9_herd_136 : decode cX9_herd 136 = .ok (.iload_n 1, 1) := by decide +kernel
theorem dX9_herd_137 : decode cX9_herd 137 = .ok (.iadd, 1) := by decide +kernel
theorem dX9_herd_138 : decode cX9_herd 138 = .ok (.iconst 0, 1) := by decide +kernel
theorem dX9_herd_139 : decode cX9_herd 139 = .ok (.iastore, 1) := by decide +kernel
theorem dX9_herd_140 : decode cX9_herd 140 = .ok (.iconst 1, 1) := by decide +kernel
theorem dX9_herd_141 : decode cX9_herd 141 = .ok (.ireturn, 1) := by decide +kernel
theorem dX9_fire_0 : decode cX9_fire 0 = .ok (.aload_n 0, 1) := by decide +kernel
theorem dX9_fire_1 : decode cX9_fire 1 = .ok (.iload_n 1, 1) := by decide +kernel
theorem dX9_fire_2 : decode cX9_fire 2 = .ok (.invokevirtual 81, 3) := by decide +kernel
theorem dX9_fire_5 : decode cX9_fire 5 = .ok (.ifCond .eq 26, 3) := by decide +kernel
theorem dX9_fire_8 : decode cX9_fire 8 = .ok (.aload_n 0, 1) := by decide +kernel
theorem dX9_fire_9 : decode cX9_fire 9 = .ok (.getfield 7, 3) := by decide +kernel
theorem dX9_fire_12 : decode cX9_fire 12 = .ok (.sipush 298, 3) := by decide +kernel
theorem dX9_fire_15 : decode cX9_fire 15 = .ok (.iload_n 1, 1) := by decide +kernel
theorem dX9_fire_16 : decode cX9_fire 16 = .ok (.iadd, 1) := by decide +kernel
theorem dX9_fire_17 : decode cX9_fire 17 = .ok (.iaload, 1) := by decide +kernel
theorem dX9_fire_18 : decode cX9_fire 18 = .ok (.iconst 1, 1) := by decide +kernel
theorem dX9_fire_19 : decode cX9_fire 19 = .ok (.if_icmp .ne 7, 3) := by decide +kernel
theorem dX9_fire_22 : decode cX9_fire 22 = .ok (.iconst 1, 1) := by decide +kernel
theorem dX9_fire_23 : decode cX9_fire 23 = .ok (.goto 4, 3) := by decide +kernel
theorem dX9_fire_26 : decode cX9_fire 26 = .ok (.iconst 0, 1) := by decide +kernel
theorem dX9_fire_27 : decode cX9_fire 27 = .ok (.iload_n 2, 1) := by decide +kernel
theorem dX9_fire_28 : decode cX9_fire 28 = .ok (.if_icmp .ne 5, 3) := by decide +kernel
theorem dX9_fire_31 : decode cX9_fire 31 = .ok (.iconst 0, 1) := by decide +kernel
theorem dX9_fire_32 : decode cX9_fire 32 = .ok (.ireturn, 1) := by decide +kernel
theorem dX9_fire_33 : decode cX9_fire 33 = .ok (.aload_n 0, 1) := by decide +kernel
theorem dX9_fire_34 : decode cX9_fire 34 = .ok (.getfield 7, 3) := by decide +kernel
theorem dX9_fire_37 : decode cX9_fire 37 = .ok (.sipush 298, 3) := by decide +kernel
theorem dX9_fire_40 : decode cX9_fire 40 = .ok (.iload_n 1, 1) := by decide +kernel
theorem dX9_fire_41 : decode cX9_fire 41 = .ok (.iadd, 1) := by decide +kernel
theorem dX9_fire_42 : decode cX9_fire 42 = .ok (.iload_n 2, 1) := by decide +kernel
theorem dX9_fire_43 : decode cX9_fire 43 = .ok (.ifCond .eq 7, 3) := by decide +kernel
theorem dX9_fire_46 : decode cX9_fire 46 = .ok (.iconst 1, 1) := by decide +kernel
theorem dX9_fire_47 : decode cX9_fire 47 = .ok (.goto 4, 3) := by decide +kernel
theorem dX9_fire_50 : decode cX9_fire 50 = .ok (.iconst 0, 1) := by decide +kernel
theorem dX9_fire_51 : decode cX9_fire 51 = .ok (.iastore, 1) := by decide +kernel
theorem dX9_fire_52 : decode cX9_fire 52 = .ok (.iconst 1, 1) := by decide +kernel
theorem dX9_fire_53 : decode cX9_fire 53 = .ok (.ireturn, 1) := by decide +kernel
theorem dX9_isDrover_0 : decode cX9_isDrover 0 = .ok (.iload_n 0, 1) := by decide +kernel
theorem dX9_isDrover_1 : decode cX9_isDrover 1 = .ok (.ifCond .lt 12, 3) := by decide +kernel
theorem dX9_isDrover_4 : decode cX9_isDrover 4 = .ok (.iload_n 0, 1) := by decide +kernel
theorem dX9_isDrover_5 : decode cX9_isDrover 5 = .ok (.iconst 4, 1) := by decide +kernel
theorem dX9_isDrover_6 : decode cX9_isDrover 6 = .ok (.if_icmp .ge 7, 3) := by decide +kernel
theorem dX9_isDrover_9 : decode cX9_isDrover 9 = .ok (.iconst 1, 1) := by decide +kernel
theorem dX9_isDrover_10 : decode cX9_isDrover 10 = .ok (.goto 4, 3) := by decide +kernel
theorem dX9_isDrover_13 : decode cX9_isDrover 13 = .ok (.iconst 0, 1) := by decide +kernel
theorem dX9_isDrover_14 : decode cX9_isDrover 14 = .ok (.ireturn, 1) := by decide +kernel
theorem dX9_drover_0 : decode cX9_drover 0 = .ok (.iload_n 1, 1) := by decide +kernel
theorem dX9_drover_1 : decode cX9_drover 1 = .ok (.invokestatic 112, 3) := by decide +kernel
theorem dX9_drover_4 : decode cX9_drover 4 = .ok (.ifCond .eq 14, 3) := by decide +kernel
theorem dX9_drover_7 : decode cX9_drover 7 = .ok (.iload_n 2, 1) := by decide +kernel
theorem dX9_drover_8 : decode cX9_drover 8 = .ok (.iconst 0, 1) := by decide +kernel
theorem dX9_drover_9 : decode cX9_drover 9 = .ok (.sipush 9999, 3) := by decide +kernel
theorem dX9_drover_12 : decode cX9_drover 12 = .ok (.invokestatic 92, 3) := by decide +kernel
theorem dX9_drover_15 : decode cX9_drover 15 = .ok (.ifCond .ne 5, 3) := by decide +kernel
theorem dX9_drover_18 : decode cX9_drover 18 = .ok (.iconst 0, 1) := by decide +kernel
theorem dX9_drover_19 : decode cX9_drover 19 = .ok (.ireturn, 1) := by decide +kernel
theorem dX9_drover_20 : decode cX9_drover 20 = .ok (.aload_n 0, 1) := by decide +kernel
theorem dX9_drover_21 : decode cX9_drover 21 = .ok (.getfield 7, 3) := by decide +kernel
theorem dX9_drover_24 : decode cX9_drover 24 = .ok (.sipush 304, 3) := by decide +kernel
theorem dX9_drover_27 : decode cX9_drover 27 = .ok (.iload_n 1, 1) := by decide +kernel
theorem dX9_drover_28 : decode cX9_drover 28 = .ok (.iadd, 1) := by decide +kernel
theorem dX9_drover_29 : decode cX9_drover 29 = .ok (.iload_n 2, 1) := by decide +kernel
theorem dX9_drover_30 : decode cX9_drover 30 = .ok (.iastore, 1) := by decide +kernel
theorem dX9_drover_31 : decode cX9_drover 31 = .ok (.iconst 1, 1) := by decide +kernel
theorem dX9_drover_32 : decode cX9_drover 32 = .ok (.ireturn, 1) := by decide +kernel
theorem dX9_types_0 : decode cX9_types 0 = .ok (.iconst 3, 1) := by decide +kernel
theorem dX9_types_1 : decode cX9_types 1 = .ok (.istore_n 2, 1) := by decide +kernel
theorem dX9_types_2 : decode cX9_types 2 = .ok (.iload_n 2, 1) := by decide +kernel
theorem dX9_types_3 : decode cX9_types 3 = .ok (.ifCond .lt 35, 3) := by decide +kernel
theorem dX9_types_6 : decode cX9_types 6 = .ok (.aload_n 0, 1) := by decide +kernel
theorem dX9_types_7 : decode cX9_types 7 = .ok (.getfield 19, 3) := by decide +kernel
theorem dX9_types_10 : decode cX9_types 10 = .ok (.aload_n 0, 1) := by decide +kernel
theorem dX9_types_11 : decode cX9_types 11 = .ok (.getfield 115, 3) := by decide +kernel
theorem dX9_types_14 : decode cX9_types 14 = .ok (.iload_n 1, 1) := by decide +kernel
theorem dX9_types_15 : decode cX9_types 15 = .ok (.bipush 8, 2) := by decide +kernel
theorem dX9_types_17 : decode cX9_types 17 = .ok (.iload_n 2, 1) := by decide +kernel
theorem dX9_types_18 : decode cX9_types 18 = .ok (.imul, 1) := by decide +kernel
theorem dX9_types_19 : decode cX9_types 19 = .ok (.ishr, 1) := by decide +kernel
theorem dX9_types_20 : decode cX9_types 20 = .ok (.i2b, 1) := by decide +kernel
theorem dX9_types_21 : decode cX9_types 21 = .ok (.bastore, 1) := by decide +kernel
theorem dX9_types_22 : decode cX9_types 22 = .ok (.aload_n 0, 1) := by decide +kernel
theorem dX9_types_23 : decode cX9_types 23 = .ok (.aload_n 0, 1) := by decide +kernel
theorem dX9_types_24 : decode cX9_types 24 = .ok (.getfield 115, 3) := by decide +kernel
theorem dX9_types_27 : decode cX9_types 27 = .ok (.iconst 1, 1) := by decide +kernel
theorem dX9_types_28 : decode cX9_types 28 = .ok (.iadd, 1) := by decide +kernel
theorem dX9_types_29 : decode cX9_types 29 = .ok (.putfield 115, 3) := by decide +kernel
theorem dX9_types_32 : decode cX9_types 32 = .ok (.iinc 2 (-1), 3) := by decide +kernel
theorem dX9_types_35 : decode cX9_types 35 = .ok (.goto (-33), 3) := by decide +kernel
theorem dX9_types_38 : decode cX9_types 38 = .ok (.return_, 1) := by decide +kernel
theorem dX9_feed_0 : decode cX9_feed 0 = .ok (.aload_n 0, 1) := by decide +kernel
theorem dX9_feed_1 : decode cX9_feed 1 = .ok (.getfield 115, 3) := by decide +kernel
theorem dX9_feed_4 : decode cX9_feed 4 = .ok (.bipush 20, 2) := by decide +kernel
theorem dX9_feed_6 : decode cX9_feed 6 = .ok (.iadd, 1) := by decide +kernel
theorem dX9_feed_7 : decode cX9_feed 7 = .ok (.sipush 260, 3) := by decide +kernel
theorem dX9_feed_10 : decode cX9_feed 10 = .ok (.if_icmp .le 5, 3) := by decide +kernel
theorem dX9_feed_13 : decode cX9_feed 13 = .ok (.iconst (-1), 1) := by decide +kernel
theorem dX9_feed_14 : decode cX9_feed 14 = .ok (.ireturn, 1) := by decide +kernel
theorem dX9_feed_15 : decode cX9_feed 15 = .ok (.aload_n 0, 1) := by decide +kernel
theorem dX9_feed_16 : decode cX9_feed 16 = .ok (.iload_n 1, 1) := by decide +kernel
theorem dX9_feed_17 : decode cX9_feed 17 = .ok (.invokevirtual 119, 3) := by decide +kernel
theorem dX9_feed_20 : decode cX9_feed 20 = .ok (.aload_n 0, 1) := by decide +kernel
theorem dX9_feed_21 : decode cX9_feed 21 = .ok (.iload_n 2, 1) := by decide +kernel
theorem dX9_feed_22 : decode cX9_feed 22 = .ok (.invokevirtual 119, 3) := by decide +kernel
theorem dX9_feed_25 : decode cX9_feed 25 = .ok (.aload_n 0, 1) := by decide +kernel
theorem dX9_feed_26 : decode cX9_feed 26 = .ok (.iload_n 3, 1) := by decide +kernel
theorem dX9_feed_27 : decode cX9_feed 27 = .ok (.invokevirtual 119, 3) := by decide +kernel
theorem dX9_feed_30 : decode cX9_feed 30 = .ok (.aload_n 0, 1) := by decide +kernel
theorem dX9_feed_31 : decode cX9_feed 31 = .ok (.iload 4, 2) := by decide +kernel
theorem dX9_feed_33 : decode cX9_feed 33 = .ok (.invokevirtual 119, 3) := by decide +kernel
theorem dX9_feed_36 : decode cX9_feed 36 = .ok (.aload_n 0, 1) := by decide +kernel
theorem dX9_feed_37 : decode cX9_feed 37 = .ok (.iload 5, 2) := by decide +kernel
theorem dX9_feed_39 : decode cX9_feed 39 = .ok (.invokevirtual 119, 3) := by decide +kernel
theorem dX9_feed_42 : decode cX9_feed 42 = .ok (.aload_n 0, 1) := by decide +kernel
theorem dX9_feed_43 : decode cX9_feed 43 = .ok (.getfield 115, 3) := by decide +kernel
theorem dX9_feed_46 : decode cX9_feed 46 = .ok (.ireturn, 1) := by decide +kernel
theorem dX9_here_0 : decode cX9_here 0 = .ok (.aload_n 0, 1) := by decide +kernel
theorem dX9_here_1 : decode cX9_here 1 = .ok (.getfield 123, 3) := by decide +kernel
theorem dX9_here_4 : decode cX9_here 4 = .ok (.aload_n 0, 1) := by decide +kernel
theorem dX9_here_5 : decode cX9_here 5 = .ok (.getfield 126, 3) := by decide +kernel
theorem dX9_here_8 : decode cX9_here 8 = .ok (.if_icmp .ge 19, 3) := by decide +kernel
theorem dX9_here_11 : decode cX9_here 11 = .ok (.aload_n 0, 1) := by decide +kernel
theorem dX9_here_12 : decode cX9_here 12 = .ok (.getfield 19, 3) := by decide +kernel
theorem dX9_here_15 : decode cX9_here 15 = .ok (.aload_n 0, 1) := by decide +kernel
theorem dX9_here_16 : decode cX9_here 16 = .ok (.getfield 123, 3) := by decide +kernel
theorem dX9_here_19 : decode cX9_here 19 = .ok (.baload, 1) := by decide +kernel
theorem dX9_here_20 : decode cX9_here 20 = .ok (.sipush 255, 3) := by decide +kernel
theorem dX9_here_23 : decode cX9_here 23 = .ok (.iand, 1) := by decide +kernel
theorem dX9_here_24 : decode cX9_here 24 = .ok (.goto 4, 3) := by decide +kernel
theorem dX9_here_27 : decode cX9_here 27 = .ok (.iconst (-1), 1) := by decide +kernel
theorem dX9_here_28 : decode cX9_here 28 = .ok (.ireturn, 1) := by decide +kernel
theorem dX9_isDigit_0 : decode cX9_isDigit 0 = .ok (.aload_n 0, 1) := by decide +kernel
theorem dX9_isDigit_1 : decode cX9_isDigit 1 = .ok (.invokevirtual 129, 3) := by decide +kernel
theorem dX9_isDigit_4 : decode cX9_isDigit 4 = .ok (.bipush 48, 2) := by decide +kernel
theorem dX9_isDigit_6 : decode cX9_isDigit 6 = .ok (.if_icmp .lt 16, 3) := by decide +kernel
theorem dX9_isDigit_9 : decode cX9_isDigit 9 = .ok (.aload_n 0, 1) := by decide +kernel
theorem dX9_isDigit_10 : decode cX9_isDigit 10 = .ok (.invokevirtual 129, 3) := by decide +kernel
theorem dX9_isDigit_13 : decode cX9_isDigit 13 = .ok (.bipush 57, 2) := by decide +kernel
theorem dX9_isDigit_15 : decode cX9_isDigit 15 = .ok (.if_icmp .gt 7, 3) := by decide +kernel
theorem dX9_isDigit_18 : decode cX9_isDigit 18 = .ok (.iconst 1, 1) := by decide +kernel
theorem dX9_isDigit_19 : decode cX9_isDigit 19 = .ok (.goto 4, 3) := by decide +kernel
theorem dX9_isDigit_22 : decode cX9_isDigit 22 = .ok (.iconst 0, 1) := by decide +kernel
theorem dX9_isDigit_23 : decode cX9_isDigit 23 = .ok (.ireturn, 1) := by decide +kernel
theorem dX9_wrongAt_0 : decode cX9_wrongAt 0 = .ok (.aload_n 0, 1) := by decide +kernel
theorem dX9_wrongAt_1 : decode cX9_wrongAt 1 = .ok (.sipush (-1000), 3) := by decide +kernel
theorem dX9_wrongAt_4 : decode cX9_wrongAt 4 = .ok (.iload_n 1, 1) := by decide +kernel
theorem dX9_wrongAt_5 : decode cX9_wrongAt 5 = .ok (.imul, 1) := by decide +kernel
theorem dX9_wrongAt_6 : decode cX9_wrongAt 6 = .ok (.iload_n 2, 1) := by decide +kernel
theorem dX9_wrongAt_7 : decode cX9_wrongAt 7 = .ok (.isub, 1) := by decide +kernel
theorem dX9_wrongAt_8 : decode cX9_wrongAt 8 = .ok (.putfield 133, 3) := by decide +kernel
theorem dX9_wrongAt_11 : decode cX9_wrongAt 11 = .ok (.iconst 0, 1) := by decide +kernel
theorem dX9_wrongAt_12 : decode cX9_wrongAt 12 = .ok (.ireturn, 1) := by decide +kernel
theorem dX9_takes_0 : decode cX9_takes 0 = .ok (.aload_n 0, 1) := by decide +kernel
theorem dX9_takes_1 : decode cX9_takes 1 = .ok (.invokevirtual 129, 3) := by decide +kernel
theorem dX9_takes_4 : decode cX9_takes 4 = .ok (.iload_n 1, 1) := by decide +kernel
theorem dX9_takes_5 : decode cX9_takes 5 = .ok (.if_icmp .eq 13, 3) := by decide +kernel
theorem dX9_takes_8 : decode cX9_takes 8 = .ok (.aload_n 0, 1) := by decide +kernel
theorem dX9_takes_9 : decode cX9_takes 9 = .ok (.iconst 1, 1) := by decide +kernel
theorem dX9_takes_10 : decode cX9_takes 10 = .ok (.aload_n 0, 1) := by decide +kernel
theorem dX9_takes_11 : decode cX9_takes 11 = .ok (.getfield 123, 3) := by decide +kernel
theorem dX9_takes_14 : decode cX9_takes 14 = .ok (.invokevirtual 136, 3) := by decide +kernel
theorem dX9_takes_17 : decode cX9_takes 17 = .ok (.ireturn, 1) := by decide +kernel
theorem dX9_takes_18 : decode cX9_takes 18 = .ok (.aload_n 0, 1) := by decide +kernel
theorem dX9_takes_19 : decode cX9_takes 19 = .ok (.aload_n 0, 1) := by decide +kernel
theorem dX9_takes_20 : decode cX9_takes 20 = .ok (.getfield 123, 3) := by decide +kernel
theorem dX9_takes_23 : decode cX9_takes 23 = .ok (.iconst 1, 1) := by decide +kernel
theorem dX9_takes_24 : decode cX9_takes 24 = .ok (.iadd, 1) := by decide +kernel
theorem dX9_takes_25 : decode cX9_takes 25 = .ok (.putfield 123, 3) := by decide +kernel
theorem dX9_takes_28 : decode cX9_takes 28 = .ok (.iconst 1, 1) := by decide +kernel
theorem dX9_takes_29 : decode cX9_takes 29 = .ok (.ireturn, 1) := by decide +kernel
theorem dX9_readsNumber_0 : decode cX9_readsNumber 0 = .ok (.aload_n 0, 1) := by decide +kernel
theorem dX9_readsNumber_1 : decode cX9_readsNumber 1 = .ok (.getfield 123, 3) := by decide +kernel
theorem dX9_readsNumber_4 : decode cX9_readsNumber 4 = .ok (.istore_n 1, 1) := by decide +kernel
theorem dX9_readsNumber_5 : decode cX9_readsNumber 5 = .ok (.aload_n 0, 1) := by decide +kernel
theorem dX9_readsNumber_6 : decode cX9_readsNumber 6 = .ok (.iconst 0, 1) := by decide +kernel
theorem dX9_readsNumber_7 : decode cX9_readsNumber 7 = .ok (.putfield 139, 3) := by decide +kernel
theorem dX9_readsNumber_10 : decode cX9_readsNumber 10 = .ok (.aload_n 0, 1) := by decide +kernel
theorem dX9_readsNumber_11 : decode cX9_readsNumber 11 = .ok (.invokevirtual 142, 3) := by decide +kernel
theorem dX9_readsNumber_14 : decode cX9_readsNumber 14 = .ok (.ifCond .eq 55, 3) := by decide +kernel
theorem dX9_readsNumber_17 : decode cX9_readsNumber 17 = .ok (.aload_n 0, 1) := by decide +kernel
theorem dX9_readsNumber_18 : decode cX9_readsNumber 18 = .ok (.getfield 123, 3) := by decide +kernel
theorem dX9_readsNumber_21 : decode cX9_readsNumber 21 = .ok (.iload_n 1, 1) := by decide +kernel
theorem dX9_readsNumber_22 : decode cX9_readsNumber 22 = .ok (.iconst 5, 1) := by decide +kernel
theorem dX9_readsNumber_23 : decode cX9_readsNumber 23 = .ok (.iadd, 1) := by decide +kernel
theorem dX9_readsNumber_24 : decode cX9_readsNumber 24 = .ok (.if_icmp .ne 13, 3) := by decide +kernel
theorem dX9_readsNumber_27 : decode cX9_readsNumber 27 = .ok (.aload_n 0, 1) := by decide +kernel
theorem dX9_readsNumber_28 : decode cX9_readsNumber 28 = .ok (.iconst 2, 1) := by decide +kernel
theorem dX9_readsNumber_29 : decode cX9_readsNumber 29 = .ok (.aload_n 0, 1) := by decide +kernel
theorem dX9_readsNumber_30 : decode cX9_readsNumber 30 = .ok (.getfield 123, 3) := by decide +kernel
theorem dX9_readsNumber_33 : decode cX9_readsNumber 33 = .ok (.invokevirtual 136, 3) := by decide +kernel
theorem dX9_readsNumber_36 : decode cX9_readsNumber 36 = .ok (.ireturn, 1) := by decide +kernel
theorem dX9_readsNumber_37 : decode cX9_readsNumber 37 = .ok (.aload_n 0, 1) := by decide +kernel
theorem dX9_readsNumber_38 : decode cX9_readsNumber 38 = .ok (.bipush 10, 2) := by decide +kernel
theorem dX9_readsNumber_40 : decode cX9_readsNumber 40 = .ok (.aload_n 0, 1) := by decide +kernel
theorem dX9_readsNumber_41 : decode cX9_readsNumber 41 = .ok (.getfield 139, 3) := by decide +kernel
theorem dX9_readsNumber_44 : decode cX9_readsNumber 44 = .ok (.imul, 1) := by decide +kernel
theorem dX9_readsNumber_45 : decode cX9_readsNumber 45 = .ok (.aload_n 0, 1) := by decide +kernel
theorem dX9_readsNumber_46 : decode cX9_readsNumber 46 = .ok (.invokevirtual 129, 3) := by decide +kernel
theorem dX9_readsNumber_49 : decode cX9_readsNumber 49 = .ok (.iadd, 1) := by decide +kernel
theorem dX9_readsNumber_50 : decode cX9_readsNumber 50 = .ok (.bipush 48, 2) := by decide +kernel
theorem dX9_readsNumber_52 : decode cX9_readsNumber 52 = .ok (.isub, 1) := by decide +kernel
theorem dX9_readsNumber_53 : decode cX9_readsNumber 53 = .ok (.putfield 139, 3) := by decide +kernel
theorem dX9_readsNumber_56 : decode cX9_readsNumber 56 = .ok (.aload_n 0, 1) := by decide +kernel
theorem dX9_readsNumber_57 : decode cX9_readsNumber 57 = .ok (.aload_n 0, 1) := by decide +kernel
theorem dX9_readsNumber_58 : decode cX9_readsNumber 58 = .ok (.getfield 123, 3) := by decide +kernel
theorem dX9_readsNumber_61 : decode cX9_readsNumber 61 = .ok (.iconst 1, 1) := by decide +kernel
theorem dX9_readsNumber_62 : decode cX9_readsNumber 62 = .ok (.iadd, 1) := by decide +kernel
theorem dX9_readsNumber_63 : decode cX9_readsNumber 63 = .ok (.putfield 123, 3) := by decide +kernel
theorem dX9_readsNumber_66 : decode cX9_readsNumber 66 = .ok (.goto (-56), 3) := by decide +kernel
theorem dX9_readsNumber_69 : decode cX9_readsNumber 69 = .ok (.iconst 1, 1) := by decide +kernel
theorem dX9_readsNumber_70 : decode cX9_readsNumber 70 = .ok (.ireturn, 1) := by decide +kernel
theorem dX9_notes_0 : decode cX9_notes 0 = .ok (.aload_n 0, 1) := by decide +kernel
theorem dX9_notes_1 : decode cX9_notes 1 = .ok (.getfield 23, 3) := by decide +kernel
theorem dX9_notes_4 : decode cX9_notes 4 = .ok (.aload_n 0, 1) := by decide +kernel
theorem dX9_notes_5 : decode cX9_notes 5 = .ok (.getfield 146, 3) := by decide +kernel
theorem dX9_notes_8 : decode cX9_notes 8 = .ok (.ldc 149, 2) := by decide +kernel
theorem dX9_notes_10 : decode cX9_notes 10 = .ok (.iload_n 1, 1) := by decide +kernel
theorem dX9_notes_11 : decode cX9_notes 11 = .ok (.imul, 1) := by decide +kernel
theorem dX9_notes_12 : decode cX9_notes 12 = .ok (.iload_n 2, 1) := by decide +kernel
theorem dX9_notes_13 : decode cX9_notes 13 = .ok (.iadd, 1) := by decide +kernel
theorem dX9_notes_14 : decode cX9_notes 14 = .ok (.iastore, 1) := by decide +kernel
theorem dX9_notes_15 : decode cX9_notes 15 = .ok (.aload_n 0, 1) := by decide +kernel
theorem dX9_notes_16 : decode cX9_notes 16 = .ok (.aload_n 0, 1) := by decide +kernel
theorem dX9_notes_17 : decode cX9_notes 17 = .ok (.getfield 146, 3) := by decide +kernel
theorem dX9_notes_20 : decode cX9_notes 20 = .ok (.iconst 1, 1) := by decide +kernel
theorem dX9_notes_21 : decode cX9_notes 21 = .ok (.iadd, 1) := by decide +kernel
theorem dX9_notes_22 : decode cX9_notes 22 = .ok (.putfield 146, 3) := by decide +kernel
theorem dX9_notes_25 : decode cX9_notes 25 = .ok (.return_, 1) := by decide +kernel
theorem dX9_opens_0 : decode cX9_opens 0 = .ok (.aload_n 0, 1) := by decide +kernel
theorem dX9_opens_1 : decode cX9_opens 1 = .ok (.getfield 150, 3) := by decide +kernel
theorem dX9_opens_4 : decode cX9_opens 4 = .ok (.bipush 6, 2) := by decide +kernel
theorem dX9_opens_6 : decode cX9_opens 6 = .ok (.if_icmp .ne 13, 3) := by decide +kernel
theorem dX9_opens_9 : decode cX9_opens 9 = .ok (.aload_n 0, 1) := by decide +kernel
theorem dX9_opens_10 : decode cX9_opens 10 = .ok (.iconst 5, 1) := by decide +kernel
theorem dX9_opens_11 : decode cX9_opens 11 = .ok (.aload_n 0, 1) := by decide +kernel
theorem dX9_opens_12 : decode cX9_opens 12 = .ok (.getfield 123, 3) := by decide +kernel
theorem dX9_opens_15 : decode cX9_opens 15 = .ok (.invokevirtual 136, 3) := by decide +kernel
theorem dX9_opens_18 : decode cX9_opens 18 = .ok (.ireturn, 1) := by decide +kernel
theorem dX9_opens_19 : decode cX9_opens 19 = .ok (.aload_n 0, 1) := by decide +kernel
theorem dX9_opens_20 : decode cX9_opens 20 = .ok (.aload_n 0, 1) := by decide +kernel
theorem dX9_opens_21 : decode cX9_opens 21 = .ok (.getfield 150, 3) := by decide +kernel
theorem dX9_opens_24 : decode cX9_opens 24 = .ok (.iconst 1, 1) := by decide +kernel
theorem dX9_opens_25 : decode cX9_opens 25 = .ok (.iadd, 1) := by decide +kernel
theorem dX9_opens_26 : decode cX9_opens 26 = .ok (.putfield 150, 3) := by decide +kernel
theorem dX9_opens_29 : decode cX9_opens 29 = .ok (.aload_n 0, 1) := by decide +kernel
theorem dX9_opens_30 : decode cX9_opens 30 = .ok (.getfield 26, 3) := by decide +kernel
theorem dX9_opens_33 : decode cX9_opens 33 = .ok (.aload_n 0, 1) := by decide +kernel
theorem dX9_opens_34 : decode cX9_opens 34 = .ok (.getfield 153, 3) := by decide +kernel
theorem dX9_opens_37 : decode cX9_opens 37 = .ok (.ldc 149, 2) := by decide +kernel
theorem dX9_opens_39 : decode cX9_opens 39 = .ok (.iload_n 1, 1) := by decide +kernel
theorem dX9_opens_40 : decode cX9_opens 40 = .ok (.imul, 1) := by decide +kernel
theorem dX9_opens_41 : decode cX9_opens 41 = .ok (.iastore, 1) := by decide +kernel
theorem dX9_opens_42 : decode cX9_opens 42 = .ok (.aload_n 0, 1) := by decide +kernel
theorem dX9_opens_43 : decode cX9_opens 43 = .ok (.aload_n 0, 1) := by decide +kernel
theorem dX9_opens_44 : decode cX9_opens 44 = .ok (.getfield 153, 3) := by decide +kernel
theorem dX9_opens_47 : decode cX9_opens 47 = .ok (.iconst 1, 1) := by decide +kernel
theorem dX9_opens_48 : decode cX9_opens 48 = .ok (.iadd, 1) := by decide +kernel
theorem dX9_opens_49 : decode cX9_opens 49 = .ok (.putfield 153, 3) := by decide +kernel
theorem dX9_opens_52 : decode cX9_opens 52 = .ok (.aload_n 0, 1) := by decide +kernel
theorem dX9_opens_53 : decode cX9_opens 53 = .ok (.aload_n 0, 1) := by decide +kernel
theorem dX9_opens_54 : decode cX9_opens 54 = .ok (.getfield 123, 3) := by decide +kernel
theorem dX9_opens_57 : decode cX9_opens 57 = .ok (.iconst 1, 1) := by decide +kernel
theorem dX9_opens_58 : decode cX9_opens 58 = .ok (.iadd, 1) := by decide +kernel
theorem dX9_opens_59 : decode cX9_opens 59 = .ok (.putfield 123, 3) := by decide +kernel
theorem dX9_opens_62 : decode cX9_opens 62 = .ok (.iconst 1, 1) := by decide +kernel
theorem dX9_opens_63 : decode cX9_opens 63 = .ok (.ireturn, 1) := by decide +kernel
theorem dX9_waitTop_0 : decode cX9_waitTop 0 = .ok (.aload_n 0, 1) := by decide +kernel
theorem dX9_waitTop_1 : decode cX9_waitTop 1 = .ok (.getfield 153, 3) := by decide +kernel
theorem dX9_waitTop_4 : decode cX9_waitTop 4 = .ok (.ifCond .ne 7, 3) := by decide +kernel
theorem dX9_waitTop_7 : decode cX9_waitTop 7 = .ok (.iconst (-1), 1) := by decide +kernel
theorem dX9_waitTop_8 : decode cX9_waitTop 8 = .ok (.goto 17, 3) := by decide +kernel
theorem dX9_waitTop_11 : decode cX9_waitTop 11 = .ok (.aload_n 0, 1) := by decide +kernel
theorem dX9_waitTop_12 : decode cX9_waitTop 12 = .ok (.getfield 26, 3) := by decide +kernel
theorem dX9_waitTop_15 : decode cX9_waitTop 15 = .ok (.aload_n 0, 1) := by decide +kernel
theorem dX9_waitTop_16 : decode cX9_waitTop 16 = .ok (.getfield 153, 3) := by decide +kernel
theorem dX9_waitTop_19 : decode cX9_waitTop 19 = .ok (.iconst 1, 1) := by decide +kernel
theorem dX9_waitTop_20 : decode cX9_waitTop 20 = .ok (.isub, 1) := by decide +kernel
theorem dX9_waitTop_21 : decode cX9_waitTop 21 = .ok (.iaload, 1) := by decide +kernel
theorem dX9_waitTop_22 : decode cX9_waitTop 22 = .ok (.ldc 149, 2) := by decide +kernel
theorem dX9_waitTop_24 : decode cX9_waitTop 24 = .ok (.idiv, 1) := by decide +kernel
theorem dX9_waitTop_25 : decode cX9_waitTop 25 = .ok (.ireturn, 1) := by decide +kernel
theorem dX9_factOf_0 : decode cX9_factOf 0 = .ok (.iload_n 0, 1) := by decide +kernel
theorem dX9_factOf_1 : decode cX9_factOf 1 = .ok (.tableswitch 146 99 121 #[128, 140, 117, 146, 125, 111, 146, 146, 137, 134, 146, 113, 146, 143, 146, 131, 146, 115, 107, 109, 146, 119, 122], 107) := by decide +kernel
theorem dX9_factOf_108 : decode cX9_factOf 108 = .ok (.iconst 0, 1) := by decide +kernel
theorem dX9_factOf_109 : decode cX9_factOf 109 = .ok (.ireturn, 1) := by decide +kernel
theorem dX9_factOf_110 : decode cX9_factOf 110 = .ok (.iconst 1, 1) := by decide +kernel
theorem dX9_factOf_111 : decode cX9_factOf 111 = .ok (.ireturn, 1) := by decide +kernel
theorem dX9_factOf_112 : decode cX9_factOf 112 = .ok (.iconst 2, 1) := by decide +kernel
theorem dX9_factOf_113 : decode cX9_factOf 113 = .ok (.ireturn, 1) := by decide +kernel
theorem dX9_factOf_114 : decode cX9_factOf 114 = .ok (.iconst 3, 1) := by decide +kernel
theorem dX9_factOf_115 : decode cX9_factOf 115 = .ok (.ireturn, 1) := by decide +kernel
theorem dX9_factOf_116 : decode cX9_factOf 116 = .ok (.iconst 4, 1) := by decide +kernel
theorem dX9_factOf_117 : decode cX9_factOf 117 = .ok (.ireturn, 1) := by decide +kernel
theorem dX9_factOf_118 : decode cX9_factOf 118 = .ok (.iconst 5, 1) := by decide +kernel
theorem dX9_factOf_119 : decode cX9_factOf 119 = .ok (.ireturn, 1) := by decide +kernel
theorem dX9_factOf_120 : decode cX9_factOf 120 = .ok (.bipush 6, 2) := by decide +kernel
theorem dX9_factOf_122 : decode cX9_factOf 122 = .ok (.ireturn, 1) := by decide +kernel
theorem dX9_factOf_123 : decode cX9_factOf 123 = .ok (.bipush 7, 2) := by decide +kernel
theorem dX9_factOf_125 : decode cX9_factOf 125 = .ok (.ireturn, 1) := by decide +kernel
theorem dX9_factOf_126 : decode cX9_factOf 126 = .ok (.bipush 8, 2) := by decide +kernel
theorem dX9_factOf_128 : decode cX9_factOf 128 = .ok (.ireturn, 1) := by decide +kernel
theorem dX9_factOf_129 : decode cX9_factOf 129 = .ok (.bipush 9, 2) := by decide +kernel
theorem dX9_factOf_131 : decode cX9_factOf 131 = .ok (.ireturn, 1) := by decide +kernel
theorem dX9_factOf_132 : decode cX9_factOf 132 = .ok (.bipush 10, 2) := by decide +kernel
theorem dX9_factOf_134 : decode cX9_factOf 134 = .ok (.ireturn, 1) := by decide +kernel
theorem dX9_factOf_135 : decode cX9_factOf 135 = .ok (.bipush 11, 2) := by decide +kernel
theorem dX9_factOf_137 : decode cX9_factOf 137 = .ok (.ireturn, 1) := by decide +kernel
theorem dX9_factOf_138 : decode cX9_factOf 138 = .ok (.bipush 12, 2) := by decide +kernel
theorem dX9_factOf_140 : decode cX9_factOf 140 = .ok (.ireturn, 1) := by decide +kernel
theorem dX9_factOf_141 : decode cX9_factOf 141 = .ok (.bipush 13, 2) := by decide +kernel
theorem dX9_factOf_143 : decode cX9_factOf 143 = .ok (.ireturn, 1) := by decide +kernel
theorem dX9_factOf_144 : decode cX9_factOf 144 = .ok (.bipush 14, 2) := by decide +kernel
theorem dX9_factOf_146 : decode cX9_factOf 146 = .ok (.ireturn, 1) := by decide +kernel
theorem dX9_factOf_147 : decode cX9_factOf 147 = .ok (.iconst (-1), 1) := by decide +kernel
theorem dX9_factOf_148 : decode cX9_factOf 148 = .ok (.ireturn, 1) := by decide +kernel
theorem dX9_sumSign_0 : decode cX9_sumSign 0 = .ok (.iload_n 0, 1) := by decide +kernel
theorem dX9_sumSign_1 : decode cX9_sumSign 1 = .ok (.bipush 43, 2) := by decide +kernel
theorem dX9_sumSign_3 : decode cX9_sumSign 3 = .ok (.if_icmp .ne 7, 3) := by decide +kernel
theorem dX9_sumSign_6 : decode cX9_sumSign 6 = .ok (.iconst 2, 1) := by decide +kernel
theorem dX9_sumSign_7 : decode cX9_sumSign 7 = .ok (.goto 45, 3) := by decide +kernel
theorem dX9_sumSign_10 : decode cX9_sumSign 10 = .ok (.iload_n 0, 1) := by decide +kernel
theorem dX9_sumSign_11 : decode cX9_sumSign 11 = .ok (.bipush 45, 2) := by decide +kernel
theorem dX9_sumSign_13 : decode cX9_sumSign 13 = .ok (.if_icmp .ne 7, 3) := by decide +kernel
theorem dX9_sumSign_16 : decode cX9_sumSign 16 = .ok (.iconst 3, 1) := by decide +kernel
theorem dX9_sumSign_17 : decode cX9_sumSign 17 = .ok (.goto 35, 3) := by decide +kernel
theorem dX9_sumSign_20 : decode cX9_sumSign 20 = .ok (.iload_n 0, 1) := by decide +kernel
theorem dX9_sumSign_21 : decode cX9_sumSign 21 = .ok (.bipush 42, 2) := by decide +kernel
theorem dX9_sumSign_23 : decode cX9_sumSign 23 = .ok (.if_icmp .ne 7, 3) := by decide +kernel
theorem dX9_sumSign_26 : decode cX9_sumSign 26 = .ok (.iconst 4, 1) := by decide +kernel
theorem dX9_sumSign_27 : decode cX9_sumSign 27 = .ok (.goto 25, 3) := by decide +kernel
theorem dX9_sumSign_30 : decode cX9_sumSign 30 = .ok (.iload_n 0, 1) := by decide +kernel
theorem dX9_sumSign_31 : decode cX9_sumSign 31 = .ok (.bipush 47, 2) := by decide +kernel
theorem dX9_sumSign_33 : decode cX9_sumSign 33 = .ok (.if_icmp .ne 7, 3) := by decide +kernel
theorem dX9_sumSign_36 : decode cX9_sumSign 36 = .ok (.iconst 5, 1) := by decide +kernel
theorem dX9_sumSign_37 : decode cX9_sumSign 37 = .ok (.goto 15, 3) := by decide +kernel
theorem dX9_sumSign_40 : decode cX9_sumSign 40 = .ok (.iload_n 0, 1) := by decide +kernel
theorem dX9_sumSign_41 : decode cX9_sumSign 41 = .ok (.bipush 37, 2) := by decide +kernel
theorem dX9_sumSign_43 : decode cX9_sumSign 43 = .ok (.if_icmp .ne 8, 3) := by decide +kernel
theorem dX9_sumSign_46 : decode cX9_sumSign 46 = .ok (.bipush 6, 2) := by decide +kernel
theorem dX9_sumSign_48 : decode cX9_sumSign 48 = .ok (.goto 4, 3) := by decide +kernel
theorem dX9_sumSign_51 : decode cX9_sumSign 51 = .ok (.iconst (-1), 1) := by decide +kernel
theorem dX9_sumSign_52 : decode cX9_sumSign 52 = .ok (.ireturn, 1) := by decide +kernel
theorem dX9_closesSums_0 : decode cX9_closesSums 0 = .ok (.aload_n 0, 1) := by decide +kernel
theorem dX9_closesSums_1 : decode cX9_closesSums 1 = .ok (.invokevirtual 156, 3) := by decide +kernel
theorem dX9_closesSums_4 : decode cX9_closesSums 4 = .ok (.iconst 4, 1) := by decide +kernel
theorem dX9_closesSums_5 : decode cX9_closesSums 5 = .ok (.if_icmp .lt 12, 3) := by decide +kernel
theorem dX9_closesSums_8 : decode cX9_closesSums 8 = .ok (.aload_n 0, 1) := by decide +kernel
theorem dX9_closesSums_9 : decode cX9_closesSums 9 = .ok (.invokevirtual 156, 3) := by decide +kernel
theorem dX9_closesSums_12 : decode cX9_closesSums 12 = .ok (.bipush 6, 2) := by decide +kernel
theorem dX9_closesSums_14 : decode cX9_closesSums 14 = .ok (.if_icmp .le 23, 3) := by decide +kernel
theorem dX9_closesSums_17 : decode cX9_closesSums 17 = .ok (.iload_n 1, 1) := by decide +kernel
theorem dX9_closesSums_18 : decode cX9_closesSums 18 = .ok (.ifCond .eq 41, 3) := by decide +kernel
theorem dX9_closesSums_21 : decode cX9_closesSums 21 = .ok (.aload_n 0, 1) := by decide +kernel
theorem dX9_closesSums_22 : decode cX9_closesSums 22 = .ok (.invokevirtual 156, 3) := by decide +kernel
theorem dX9_closesSums_25 : decode cX9_closesSums 25 = .ok (.iconst 2, 1) := by decide +kernel
theorem dX9_closesSums_26 : decode cX9_closesSums 26 = .ok (.if_icmp .eq 11, 3) := by decide +kernel
theorem dX9_closesSums_29 : decode cX9_closesSums 29 = .ok (.aload_n 0, 1) := by decide +kernel
theorem dX9_closesSums_30 : decode cX9_closesSums 30 = .ok (.invokevirtual 156, 3) := by decide +kernel
theorem dX9_closesSums_33 : decode cX9_closesSums 33 = .ok (.iconst 3, 1) := by decide +kernel
theorem dX9_closesSums_34 : decode cX9_closesSums 34 = .ok (.if_icmp .ne 25, 3) := by decide +kernel
theorem dX9_closesSums_37 : decode cX9_closesSums 37 = .ok (.aload_n 0, 1) := by decide +kernel
theorem dX9_closesSums_38 : decode cX9_closesSums 38 = .ok (.aload_n 0, 1) := by decide +kernel
theorem dX9_closesSums_39 : decode cX9_closesSums 39 = .ok (.invokevirtual 156, 3) := by decide +kernel
theorem dX9_closesSums_42 : decode cX9_closesSums 42 = .ok (.iconst 0, 1) := by decide +kernel
theorem dX9_closesSums_43 : decode cX9_closesSums 43 = .ok (.invokevirtual 159, 3) := by decide +kernel
theorem dX9_closesSums_46 : decode cX9_closesSums 46 = .ok (.aload_n 0, 1) := by decide +kernel
theorem dX9_closesSums_47 : decode cX9_closesSums 47 = .ok (.aload_n 0, 1) := by decide +kernel
theorem dX9_closesSums_48 : decode cX9_closesSums 48 = .ok (.getfield 153, 3) := by decide +kernel
theorem dX9_closesSums_51 : decode cX9_closesSums 51 = .ok (.iconst 1, 1) := by decide +kernel
theorem dX9_closesSums_52 : decode cX9_closesSums 52 = .ok (.isub, 1) := by decide +kernel
theorem dX9_closesSums_53 : decode cX9_closesSums 53 = .ok (.putfield 153, 3) := by decide +kernel
theorem dX9_closesSums_56 : decode cX9_closesSums 56 = .ok (.goto (-56), 3) := by decide +kernel
theorem dX9_closesSums_59 : decode cX9_closesSums 59 = .ok (.return_, 1) := by decide +kernel
theorem dX9_readsFactor_0 : decode cX9_readsFactor 0 = .ok (.aload_n 0, 1) := by decide +kernel
theorem dX9_readsFactor_1 : decode cX9_readsFactor 1 = .ok (.invokevirtual 129, 3) := by decide +kernel
theorem dX9_readsFactor_4 : decode cX9_readsFactor 4 = .ok (.bipush 91, 2) := by decide +kernel
theorem dX9_readsFactor_6 : decode cX9_readsFactor 6 = .ok (.if_icmp .ne 14, 3) := by decide +kernel
theorem dX9_readsFactor_9 : decode cX9_readsFactor 9 = .ok (.aload_n 0, 1) := by decide +kernel
theorem dX9_readsFactor_10 : decode cX9_readsFactor 10 = .ok (.bipush 14, 2) := by decide +kernel
theorem dX9_readsFactor_12 : decode cX9_readsFactor 12 = .ok (.invokevirtual 163, 3) := by decide +kernel
theorem dX9_readsFactor_15 : decode cX9_readsFactor 15 = .ok (.ifCond .ne (-15), 3) := by decide +kernel
theorem dX9_readsFactor_18 : decode cX9_readsFactor 18 = .ok (.iconst 0, 1) := by decide +kernel
theorem dX9_readsFactor_19 : decode cX9_readsFactor 19 = .ok (.ireturn, 1) := by decide +kernel
theorem dX9_readsFactor_20 : decode cX9_readsFactor 20 = .ok (.aload_n 0, 1) := by decide +kernel
theorem dX9_readsFactor_21 : decode cX9_readsFactor 21 = .ok (.invokevirtual 142, 3) := by decide +kernel
theorem dX9_readsFactor_24 : decode cX9_readsFactor 24 = .ok (.ifCond .eq 23, 3) := by decide +kernel
theorem dX9_readsFactor_27 : decode cX9_readsFactor 27 = .ok (.aload_n 0, 1) := by decide +kernel
theorem dX9_readsFactor_28 : decode cX9_readsFactor 28 = .ok (.invokevirtual 166, 3) := by decide +kernel
theorem dX9_readsFactor_31 : decode cX9_readsFactor 31 = .ok (.ifCond .ne 5, 3) := by decide +kernel
theorem dX9_readsFactor_34 : decode cX9_readsFactor 34 = .ok (.iconst 0, 1) := by decide +kernel
theorem dX9_readsFactor_35 : decode cX9_readsFactor 35 = .ok (.ireturn, 1) := by decide +kernel
theorem dX9_readsFactor_36 : decode cX9_readsFactor 36 = .ok (.aload_n 0, 1) := by decide +kernel
theorem dX9_readsFactor_37 : decode cX9_readsFactor 37 = .ok (.iconst 0, 1) := by decide +kernel
theorem dX9_readsFactor_38 : decode cX9_readsFactor 38 = .ok (.aload_n 0, 1) := by decide +kernel
theorem dX9_readsFactor_39 : decode cX9_readsFactor 39 = .ok (.getfield 139, 3) := by decide +kernel
theorem dX9_readsFactor_42 : decode cX9_readsFactor 42 = .ok (.invokevirtual 159, 3) := by decide +kernel
theorem dX9_readsFactor_45 : decode cX9_readsFactor 45 = .ok (.iconst 1, 1) := by decide +kernel
theorem dX9_readsFactor_46 : decode cX9_readsFactor 46 = .ok (.ireturn, 1) := by decide +kernel
theorem dX9_readsFactor_47 : decode cX9_readsFactor 47 = .ok (.aload_n 0, 1) := by decide +kernel
theorem dX9_readsFactor_48 : decode cX9_readsFactor 48 = .ok (.invokevirtual 129, 3) := by decide +kernel
theorem dX9_readsFactor_51 : decode cX9_readsFactor 51 = .ok (.invokestatic 169, 3) := by decide +kernel
theorem dX9_readsFactor_54 : decode cX9_readsFactor 54 = .ok (.istore_n 1, 1) := by decide +kernel
theorem dX9_readsFactor_55 : decode cX9_readsFactor 55 = .ok (.iload_n 1, 1) := by decide +kernel
theorem dX9_readsFactor_56 : decode cX9_readsFactor 56 = .ok (.iconst (-1), 1) := by decide +kernel
theorem dX9_readsFactor_57 : decode cX9_readsFactor 57 = .ok (.if_icmp .ne 13, 3) := by decide +kernel
theorem dX9_readsFactor_60 : decode cX9_readsFactor 60 = .ok (.aload_n 0, 1) := by decide +kernel
theorem dX9_readsFactor_61 : decode cX9_readsFactor 61 = .ok (.iconst 1, 1) := by decide +kernel
theorem dX9_readsFactor_62 : decode cX9_readsFactor 62 = .ok (.aload_n 0, 1) := by decide +kernel
theorem dX9_readsFactor_63 : decode cX9_readsFactor 63 = .ok (.getfield 123, 3) := by decide +kernel
theorem dX9_readsFactor_66 : decode cX9_readsFactor 66 = .ok (.invokevirtual 136, 3) := by decide +kernel
theorem dX9_readsFactor_69 : decode cX9_readsFactor 69 = .ok (.ireturn, 1) := by decide +kernel
theorem dX9_readsFactor_70 : decode cX9_readsFactor 70 = .ok (.aload_n 0, 1) := by decide +kernel
theorem dX9_readsFactor_71 : decode cX9_readsFactor 71 = .ok (.iconst 1, 1) := by decide +kernel
theorem dX9_readsFactor_72 : decode cX9_readsFactor 72 = .ok (.iload_n 1, 1) := by decide +kernel
theorem dX9_readsFactor_73 : decode cX9_readsFactor 73 = .ok (.invokevirtual 159, 3) := by decide +kernel
theorem dX9_readsFactor_76 : decode cX9_readsFactor 76 = .ok (.aload_n 0, 1) := by decide +kernel
theorem dX9_readsFactor_77 : decode cX9_readsFactor 77 = .ok (.aload_n 0, 1) := by decide +kernel
theorem dX9_readsFactor_78 : decode cX9_readsFactor 78 = .ok (.getfield 123, 3) := by decide +kernel
theorem dX9_readsFactor_81 : decode cX9_readsFactor 81 = .ok (.iconst 1, 1) := by decide +kernel
theorem dX9_readsFactor_82 : decode cX9_readsFactor 82 = .ok (.iadd, 1) := by decide +kernel
theorem dX9_readsFactor_83 : decode cX9_readsFactor 83 = .ok (.putfield 123, 3) := by decide +kernel
theorem dX9_readsFactor_86 : decode cX9_readsFactor 86 = .ok (.iconst 1, 1) := by decide +kernel
theorem dX9_readsFactor_87 : decode cX9_readsFactor 87 = .ok (.ireturn, 1) := by decide +kernel
theorem dX9_hasOpenSum_0 : decode cX9_hasOpenSum 0 = .ok (.iload_n 1, 1) := by decide +kernel
theorem dX9_hasOpenSum_1 : decode cX9_hasOpenSum 1 = .ok (.istore_n 2, 1) := by decide +kernel
theorem dX9_hasOpenSum_2 : decode cX9_hasOpenSum 2 = .ok (.iload_n 2, 1) := by decide +kernel
theorem dX9_hasOpenSum_3 : decode cX9_hasOpenSum 3 = .ok (.aload_n 0, 1) := by decide +kernel
theorem dX9_hasOpenSum_4 : decode cX9_hasOpenSum 4 = .ok (.getfield 153, 3) := by decide +kernel
theorem dX9_hasOpenSum_7 : decode cX9_hasOpenSum 7 = .ok (.if_icmp .ge 25, 3) := by decide +kernel
theorem dX9_hasOpenSum_10 : decode cX9_hasOpenSum 10 = .ok (.aload_n 0, 1) := by decide +kernel
theorem dX9_hasOpenSum_11 : decode cX9_hasOpenSum 11 = .ok (.getfield 26, 3) := by decide +kernel
theorem dX9_hasOpenSum_14 : decode cX9_hasOpenSum 14 = .ok (.iload_n 2, 1) := by decide +kernel
theorem dX9_hasOpenSum_15 : decode cX9_hasOpenSum 15 = .ok (.iaload, 1) := by decide +kernel
theorem dX9_hasOpenSum_16 : decode cX9_hasOpenSum 16 = .ok (.ldc 149, 2) := by decide +kernel
theorem dX9_hasOpenSum_18 : decode cX9_hasOpenSum 18 = .ok (.idiv, 1) := by decide +kernel
theorem dX9_hasOpenSum_19 : decode cX9_hasOpenSum 19 = .ok (.bipush 14, 2) := by decide +kernel
theorem dX9_hasOpenSum_21 : decode cX9_hasOpenSum 21 = .ok (.if_icmp .ne 5, 3) := by decide +kernel
theorem dX9_hasOpenSum_24 : decode cX9_hasOpenSum 24 = .ok (.iconst 1, 1) := by decide +kernel
theorem dX9_hasOpenSum_25 : decode cX9_hasOpenSum 25 = .ok (.ireturn, 1) := by decide +kernel
theorem dX9_hasOpenSum_26 : decode cX9_hasOpenSum 26 = .ok (.iinc 2 1, 3) := by decide +kernel
theorem dX9_hasOpenSum_29 : decode cX9_hasOpenSum 29 = .ok (.goto (-27), 3) := by decide +kernel
theorem dX9_hasOpenSum_32 : decode cX9_hasOpenSum 32 = .ok (.iconst 0, 1) := by decide +kernel
theorem dX9_hasOpenSum_33 : decode cX9_hasOpenSum 33 = .ok (.ireturn, 1) := by decide +kernel
theorem dX9_readsSum_0 : decode cX9_readsSum 0 = .ok (.aload_n 0, 1) := by decide +kernel
theorem dX9_readsSum_1 : decode cX9_readsSum 1 = .ok (.getfield 153, 3) := by decide +kernel
theorem dX9_readsSum_4 : decode cX9_readsSum 4 = .ok (.istore_n 1, 1) := by decide +kernel
theorem dX9_readsSum_5 : decode cX9_readsSum 5 = .ok (.aload_n 0, 1) := by decide +kernel
theorem dX9_readsSum_6 : decode cX9_readsSum 6 = .ok (.invokevirtual 172, 3) := by decide +kernel
theorem dX9_readsSum_9 : decode cX9_readsSum 9 = .ok (.ifCond .ne 5, 3) := by decide +kernel
theorem dX9_readsSum_12 : decode cX9_readsSum 12 = .ok (.iconst 0, 1) := by decide +kernel
theorem dX9_readsSum_13 : decode cX9_readsSum 13 = .ok (.ireturn, 1) := by decide +kernel
theorem dX9_readsSum_14 : decode cX9_readsSum 14 = .ok (.aload_n 0, 1) := by decide +kernel
theorem dX9_readsSum_15 : decode cX9_readsSum 15 = .ok (.invokevirtual 129, 3) := by decide +kernel
theorem dX9_readsSum_18 : decode cX9_readsSum 18 = .ok (.invokestatic 175, 3) := by decide +kernel
theorem dX9_readsSum_21 : decode cX9_readsSum 21 = .ok (.istore_n 2, 1) := by decide +kernel
theorem dX9_readsSum_22 : decode cX9_readsSum 22 = .ok (.iload_n 2, 1) := by decide +kernel
theorem dX9_readsSum_23 : decode cX9_readsSum 23 = .ok (.iconst (-1), 1) := by decide +kernel
theorem dX9_readsSum_24 : decode cX9_readsSum 24 = .ok (.if_icmp .eq 59, 3) := by decide +kernel
theorem dX9_readsSum_27 : decode cX9_readsSum 27 = .ok (.aload_n 0, 1) := by decide +kernel
theorem dX9_readsSum_28 : decode cX9_readsSum 28 = .ok (.iload_n 2, 1) := by decide +kernel
theorem dX9_readsSum_29 : decode cX9_readsSum 29 = .ok (.iconst 4, 1) := by decide +kernel
theorem dX9_readsSum_30 : decode cX9_readsSum 30 = .ok (.if_icmp .ge 7, 3) := by decide +kernel
theorem dX9_readsSum_33 : decode cX9_readsSum 33 = .ok (.iconst 1, 1) := by decide +kernel
theorem dX9_readsSum_34 : decode cX9_readsSum 34 = .ok (.goto 4, 3) := by decide +kernel
theorem dX9_readsSum_37 : decode cX9_readsSum 37 = .ok (.iconst 0, 1) := by decide +kernel
theorem dX9_readsSum_38 : decode cX9_readsSum 38 = .ok (.invokevirtual 178, 3) := by decide +kernel
theorem dX9_readsSum_41 : decode cX9_readsSum 41 = .ok (.aload_n 0, 1) := by decide +kernel
theorem dX9_readsSum_42 : decode cX9_readsSum 42 = .ok (.getfield 26, 3) := by decide +kernel
theorem dX9_readsSum_45 : decode cX9_readsSum 45 = .ok (.aload_n 0, 1) := by decide +kernel
theorem dX9_readsSum_46 : decode cX9_readsSum 46 = .ok (.getfield 153, 3) := by decide +kernel
theorem dX9_readsSum_49 : decode cX9_readsSum 49 = .ok (.ldc 149, 2) := by decide +kernel
theorem dX9_readsSum_51 : decode cX9_readsSum 51 = .ok (.iload_n 2, 1) := by decide +kernel
theorem dX9_readsSum_52 : decode cX9_readsSum 52 = .ok (.imul, 1) := by decide +kernel
theorem dX9_readsSum_53 : decode cX9_readsSum 53 = .ok (.iastore, 1) := by decide +kernel
theorem dX9_readsSum_54 : decode cX9_readsSum 54 = .ok (.aload_n 0, 1) := by decide +kernel
theorem dX9_readsSum_55 : decode cX9_readsSum 55 = .ok (.aload_n 0, 1) := by decide +kernel
theorem dX9_readsSum_56 : decode cX9_readsSum 56 = .ok (.getfield 153, 3) := by decide +kernel
theorem dX9_readsSum_59 : decode cX9_readsSum 59 = .ok (.iconst 1, 1) := by decide +kernel
theorem dX9_readsSum_60 : decode cX9_readsSum 60 = .ok (.iadd, 1) := by decide +kernel
theorem dX9_readsSum_61 : decode cX9_readsSum 61 = .ok (.putfield 153, 3) := by decide +kernel
theorem dX9_readsSum_64 : decode cX9_readsSum 64 = .ok (.aload_n 0, 1) := by decide +kernel
theorem dX9_readsSum_65 : decode cX9_readsSum 65 = .ok (.aload_n 0, 1) := by decide +kernel
theorem dX9_readsSum_66 : decode cX9_readsSum 66 = .ok (.getfield 123, 3) := by decide +kernel
theorem dX9_readsSum_69 : decode cX9_readsSum 69 = .ok (.iconst 1, 1) := by decide +kernel
theorem dX9_readsSum_70 : decode cX9_readsSum 70 = .ok (.iadd, 1) := by decide +kernel
theorem dX9_readsSum_71 : decode cX9_readsSum 71 = .ok (.putfield 123, 3) := by decide +kernel
theorem dX9_readsSum_74 : decode cX9_readsSum 74 = .ok (.aload_n 0, 1) := by decide +kernel
theorem dX9_readsSum_75 : decode cX9_readsSum 75 = .ok (.invokevirtual 172, 3) := by decide +kernel
theorem dX9_readsSum_78 : decode cX9_readsSum 78 = .ok (.ifCond .ne 85, 3) := by decide +kernel
theorem dX9_readsSum_81 : decode cX9_readsSum 81 = .ok (.iconst 0, 1) := by decide +kernel
theorem dX9_readsSum_82 : decode cX9_readsSum 82 = .ok (.ireturn, 1) := by decide +kernel
theorem dX9_readsSum_83 : decode cX9_readsSum 83 = .ok (.aload_n 0, 1) := by decide +kernel
theorem dX9_readsSum_84 : decode cX9_readsSum 84 = .ok (.invokevirtual 129, 3) := by decide +kernel
theorem dX9_readsSum_87 : decode cX9_readsSum 87 = .ok (.bipush 93, 2) := by decide +kernel
theorem dX9_readsSum_89 : decode cX9_readsSum 89 = .ok (.if_icmp .ne 49, 3) := by decide +kernel
theorem dX9_readsSum_92 : decode cX9_readsSum 92 = .ok (.aload_n 0, 1) := by decide +kernel
theorem dX9_readsSum_93 : decode cX9_readsSum 93 = .ok (.iload_n 1, 1) := by decide +kernel
theorem dX9_readsSum_94 : decode cX9_readsSum 94 = .ok (.invokevirtual 182, 3) := by decide +kernel
theorem dX9_readsSum_97 : decode cX9_readsSum 97 = .ok (.ifCond .eq 41, 3) := by decide +kernel
theorem dX9_readsSum_100 : decode cX9_readsSum 100 = .ok (.aload_n 0, 1) := by decide +kernel
theorem dX9_readsSum_101 : decode cX9_readsSum 101 = .ok (.iconst 1, 1) := by decide +kernel
theorem dX9_readsSum_102 : decode cX9_readsSum 102 = .ok (.invokevirtual 178, 3) := by decide +kernel
theorem dX9_readsSum_105 : decode cX9_readsSum 105 = .ok (.aload_n 0, 1) := by decide +kernel
theorem dX9_readsSum_106 : decode cX9_readsSum 106 = .ok (.aload_n 0, 1) := by decide +kernel
theorem dX9_readsSum_107 : decode cX9_readsSum 107 = .ok (.getfield 153, 3) := by decide +kernel
theorem dX9_readsSum_110 : decode cX9_readsSum 110 = .ok (.iconst 1, 1) := by decide +kernel
theorem dX9_readsSum_111 : decode cX9_readsSum 111 = .ok (.isub, 1) := by decide +kernel
theorem dX9_readsSum_112 : decode cX9_readsSum 112 = .ok (.putfield 153, 3) := by decide +kernel
theorem dX9_readsSum_115 : decode cX9_readsSum 115 = .ok (.aload_n 0, 1) := by decide +kernel
theorem dX9_readsSum_116 : decode cX9_readsSum 116 = .ok (.aload_n 0, 1) := by decide +kernel
theorem dX9_readsSum_117 : decode cX9_readsSum 117 = .ok (.getfield 150, 3) := by decide +kernel
theorem dX9_readsSum_120 : decode cX9_readsSum 120 = .ok (.iconst 1, 1) := by decide +kernel
theorem dX9_readsSum_121 : decode cX9_readsSum 121 = .ok (.isub, 1) := by decide +kernel
theorem dX9_readsSum_122 : decode cX9_readsSum 122 = .ok (.putfield 150, 3) := by decide +kernel
theorem dX9_readsSum_125 : decode cX9_readsSum 125 = .ok (.aload_n 0, 1) := by decide +kernel
theorem dX9_readsSum_126 : decode cX9_readsSum 126 = .ok (.aload_n 0, 1) := by decide +kernel
theorem dX9_readsSum_127 : decode cX9_readsSum 127 = .ok (.getfield 123, 3) := by decide +kernel
theorem dX9_readsSum_130 : decode cX9_readsSum 130 = .ok (.iconst 1, 1) := by decide +kernel
theorem dX9_readsSum_131 : decode cX9_readsSum 131 = .ok (.iadd, 1) := by decide +kernel
theorem dX9_readsSum_132 : decode cX9_readsSum 132 = .ok (.putfield 123, 3) := by decide +kernel
theorem dX9_readsSum_135 : decode cX9_readsSum 135 = .ok (.goto 28, 3) := by decide +kernel
theorem dX9_readsSum_138 : decode cX9_readsSum 138 = .ok (.aload_n 0, 1) := by decide +kernel
theorem dX9_readsSum_139 : decode cX9_readsSum 139 = .ok (.iload_n 1, 1) := by decide +kernel
theorem dX9_readsSum_140 : decode cX9_readsSum 140 = .ok (.invokevirtual 182, 3) := by decide +kernel
theorem dX9_readsSum_143 : decode cX9_readsSum 143 = .ok (.ifCond .eq 13, 3) := by decide +kernel
theorem dX9_readsSum_146 : decode cX9_readsSum 146 = .ok (.aload_n 0, 1) := by decide +kernel
theorem dX9_readsSum_147 : decode cX9_readsSum 147 = .ok (.iconst 1, 1) := by decide +kernel
theorem dX9_readsSum_148 : decode cX9_readsSum 148 = .ok (.aload_n 0, 1) := by decide +kernel
theorem dX9_readsSum_149 : decode cX9_readsSum 149 = .ok (.getfield 123, 3) := by decide +kernel
theorem dX9_readsSum_152 : decode cX9_readsSum 152 = .ok (.invokevirtual 136, 3) := by decide +kernel
theorem dX9_readsSum_155 : decode cX9_readsSum 155 = .ok (.ireturn, 1) := by decide +kernel
theorem dX9_readsSum_156 : decode cX9_readsSum 156 = .ok (.aload_n 0, 1) := by decide +kernel
theorem dX9_readsSum_157 : decode cX9_readsSum 157 = .ok (.iconst 1, 1) := by decide +kernel
theorem dX9_readsSum_158 : decode cX9_readsSum 158 = .ok (.invokevirtual 178, 3) := by decide +kernel
theorem dX9_readsSum_161 : decode cX9_readsSum 161 = .ok (.iconst 1, 1) := by decide +kernel
theorem dX9_readsSum_162 : decode cX9_readsSum 162 = .ok (.ireturn, 1) := by decide +kernel
theorem dX9_readsSum_163 : decode cX9_readsSum 163 = .ok (.goto (-149), 3) := by decide +kernel
theorem dX9_endsPiece_0 : decode cX9_endsPiece 0 = .ok (.aload_n 0, 1) := by decide +kernel
theorem dX9_endsPiece_1 : decode cX9_endsPiece 1 = .ok (.invokevirtual 156, 3) := by decide +kernel
theorem dX9_endsPiece_4 : decode cX9_endsPiece 4 = .ok (.bipush 10, 2) := by decide +kernel
theorem dX9_endsPiece_6 : decode cX9_endsPiece 6 = .ok (.if_icmp .ne 33, 3) := by decide +kernel
theorem dX9_endsPiece_9 : decode cX9_endsPiece 9 = .ok (.aload_n 0, 1) := by decide +kernel
theorem dX9_endsPiece_10 : decode cX9_endsPiece 10 = .ok (.bipush 10, 2) := by decide +kernel
theorem dX9_endsPiece_12 : decode cX9_endsPiece 12 = .ok (.iconst 0, 1) := by decide +kernel
theorem dX9_endsPiece_13 : decode cX9_endsPiece 13 = .ok (.invokevirtual 159, 3) := by decide +kernel
theorem dX9_endsPiece_16 : decode cX9_endsPiece 16 = .ok (.aload_n 0, 1) := by decide +kernel
theorem dX9_endsPiece_17 : decode cX9_endsPiece 17 = .ok (.aload_n 0, 1) := by decide +kernel
theorem dX9_endsPiece_18 : decode cX9_endsPiece 18 = .ok (.getfield 153, 3) := by decide +kernel
theorem dX9_endsPiece_21 : decode cX9_endsPiece 21 = .ok (.iconst 1, 1) := by decide +kernel
theorem dX9_endsPiece_22 : decode cX9_endsPiece 22 = .ok (.isub, 1) := by decide +kernel
theorem dX9_endsPiece_23 : decode cX9_endsPiece 23 = .ok (.putfield 153, 3) := by decide +kernel
theorem dX9_endsPiece_26 : decode cX9_endsPiece 26 = .ok (.aload_n 0, 1) := by decide +kernel
theorem dX9_endsPiece_27 : decode cX9_endsPiece 27 = .ok (.aload_n 0, 1) := by decide +kernel
theorem dX9_endsPiece_28 : decode cX9_endsPiece 28 = .ok (.getfield 150, 3) := by decide +kernel
theorem dX9_endsPiece_31 : decode cX9_endsPiece 31 = .ok (.iconst 1, 1) := by decide +kernel
theorem dX9_endsPiece_32 : decode cX9_endsPiece 32 = .ok (.isub, 1) := by decide +kernel
theorem dX9_endsPiece_33 : decode cX9_endsPiece 33 = .ok (.putfield 150, 3) := by decide +kernel
theorem dX9_endsPiece_36 : decode cX9_endsPiece 36 = .ok (.goto (-36), 3) := by decide +kernel
theorem dX9_endsPiece_39 : decode cX9_endsPiece 39 = .ok (.return_, 1) := by decide +kernel
theorem dX9_lands_0 : decode cX9_lands 0 = .ok (.aload_n 0, 1) := by decide +kernel
theorem dX9_lands_1 : decode cX9_lands 1 = .ok (.invokevirtual 156, 3) := by decide +kernel
theorem dX9_lands_4 : decode cX9_lands 4 = .ok (.bipush 11, 2) := by decide +kernel
theorem dX9_lands_6 : decode cX9_lands 6 = .ok (.if_icmp .eq 16, 3) := by decide +kernel
theorem dX9_lands_9 : decode cX9_lands 9 = .ok (.iload_n 1, 1) := by decide +kernel
theorem dX9_lands_10 : decode cX9_lands 10 = .ok (.ifCond .eq 63, 3) := by decide +kernel
theorem dX9_lands_13 : decode cX9_lands 13 = .ok (.aload_n 0, 1) := by decide +kernel
theorem dX9_lands_14 : decode cX9_lands 14 = .ok (.invokevirtual 156, 3) := by decide +kernel
theorem dX9_lands_17 : decode cX9_lands 17 = .ok (.bipush 12, 2) := by decide +kernel
theorem dX9_lands_19 : decode cX9_lands 19 = .ok (.if_icmp .ne 54, 3) := by decide +kernel
theorem dX9_lands_22 : decode cX9_lands 22 = .ok (.aload_n 0, 1) := by decide +kernel
theorem dX9_lands_23 : decode cX9_lands 23 = .ok (.getfield 26, 3) := by decide +kernel
theorem dX9_lands_26 : decode cX9_lands 26 = .ok (.aload_n 0, 1) := by decide +kernel
theorem dX9_lands_27 : decode cX9_lands 27 = .ok (.getfield 153, 3) := by decide +kernel
theorem dX9_lands_30 : decode cX9_lands 30 = .ok (.iconst 1, 1) := by decide +kernel
theorem dX9_lands_31 : decode cX9_lands 31 = .ok (.isub, 1) := by decide +kernel
theorem dX9_lands_32 : decode cX9_lands 32 = .ok (.iaload, 1) := by decide +kernel
theorem dX9_lands_33 : decode cX9_lands 33 = .ok (.ldc 149, 2) := by decide +kernel
theorem dX9_lands_35 : decode cX9_lands 35 = .ok (.irem, 1) := by decide +kernel
theorem dX9_lands_36 : decode cX9_lands 36 = .ok (.istore_n 2, 1) := by decide +kernel
theorem dX9_lands_37 : decode cX9_lands 37 = .ok (.aload_n 0, 1) := by decide +kernel
theorem dX9_lands_38 : decode cX9_lands 38 = .ok (.getfield 23, 3) := by decide +kernel
theorem dX9_lands_41 : decode cX9_lands 41 = .ok (.iload_n 2, 1) := by decide +kernel
theorem dX9_lands_42 : decode cX9_lands 42 = .ok (.ldc 149, 2) := by decide +kernel
theorem dX9_lands_44 : decode cX9_lands 44 = .ok (.aload_n 0, 1) := by decide +kernel
theorem dX9_lands_45 : decode cX9_lands 45 = .ok (.getfield 23, 3) := by decide +kernel
theorem dX9_lands_48 : decode cX9_lands 48 = .ok (.iload_n 2, 1) := by decide +kernel
theorem dX9_lands_49 : decode cX9_lands 49 = .ok (.iaload, 1) := by decide +kernel
theorem dX9_lands_50 : decode cX9_lands 50 = .ok (.ldc 149, 2) := by decide +kernel
theorem dX9_lands_52 : decode cX9_lands 52 = .ok (.idiv, 1) := by decide +kernel
theorem dX9_lands_53 : decode cX9_lands 53 = .ok (.imul, 1) := by decide +kernel
theorem dX9_lands_54 : decode cX9_lands 54 = .ok (.aload_n 0, 1) := by decide +kernel
theorem dX9_lands_55 : decode cX9_lands 55 = .ok (.getfield 146, 3) := by decide +kernel
theorem dX9_lands_58 : decode cX9_lands 58 = .ok (.iadd, 1) := by decide +kernel
theorem dX9_lands_59 : decode cX9_lands 59 = .ok (.iastore, 1) := by decide +kernel
theorem dX9_lands_60 : decode cX9_lands 60 = .ok (.aload_n 0, 1) := by decide +kernel
theorem dX9_lands_61 : decode cX9_lands 61 = .ok (.aload_n 0, 1) := by decide +kernel
theorem dX9_lands_62 : decode cX9_lands 62 = .ok (.getfield 153, 3) := by decide +kernel
theorem dX9_lands_65 : decode cX9_lands 65 = .ok (.iconst 1, 1) := by decide +kernel
theorem dX9_lands_66 : decode cX9_lands 66 = .ok (.isub, 1) := by decide +kernel
theorem dX9_lands_67 : decode cX9_lands 67 = .ok (.putfield 153, 3) := by decide +kernel
theorem dX9_lands_70 : decode cX9_lands 70 = .ok (.goto (-70), 3) := by decide +kernel
theorem dX9_lands_73 : decode cX9_lands 73 = .ok (.return_, 1) := by decide +kernel
theorem dX9_jumps_0 : decode cX9_jumps 0 = .ok (.aload_n 0, 1) := by decide +kernel
theorem dX9_jumps_1 : decode cX9_jumps 1 = .ok (.getfield 26, 3) := by decide +kernel
theorem dX9_jumps_4 : decode cX9_jumps 4 = .ok (.aload_n 0, 1) := by decide +kernel
theorem dX9_jumps_5 : decode cX9_jumps 5 = .ok (.getfield 153, 3) := by decide +kernel
theorem dX9_jumps_8 : decode cX9_jumps 8 = .ok (.ldc 149, 2) := by decide +kernel
theorem dX9_jumps_10 : decode cX9_jumps 10 = .ok (.iload_n 1, 1) := by decide +kernel
theorem dX9_jumps_11 : decode cX9_jumps 11 = .ok (.imul, 1) := by decide +kernel
theorem dX9_jumps_12 : decode cX9_jumps 12 = .ok (.aload_n 0, 1) := by decide +kernel
theorem dX9_jumps_13 : decode cX9_jumps 13 = .ok (.getfield 146, 3) := by decide +kernel
theorem dX9_jumps_16 : decode cX9_jumps 16 = .ok (.iadd, 1) := by decide +kernel
theorem dX9_jumps_17 : decode cX9_jumps 17 = .ok (.iastore, 1) := by decide +kernel
theorem dX9_jumps_18 : decode cX9_jumps 18 = .ok (.aload_n 0, 1) := by decide +kernel
theorem dX9_jumps_19 : decode cX9_jumps 19 = .ok (.aload_n 0, 1) := by decide +kernel
theorem dX9_jumps_20 : decode cX9_jumps 20 = .ok (.getfield 153, 3) := by decide +kernel
theorem dX9_jumps_23 : decode cX9_jumps 23 = .ok (.iconst 1, 1) := by decide +kernel
theorem dX9_jumps_24 : decode cX9_jumps 24 = .ok (.iadd, 1) := by decide +kernel
theorem dX9_jumps_25 : decode cX9_jumps 25 = .ok (.putfield 153, 3) := by decide +kernel
theorem dX9_jumps_28 : decode cX9_jumps 28 = .ok (.aload_n 0, 1) := by decide +kernel
theorem dX9_jumps_29 : decode cX9_jumps 29 = .ok (.iload_n 1, 1) := by decide +kernel
theorem dX9_jumps_30 : decode cX9_jumps 30 = .ok (.iconst 0, 1) := by decide +kernel
theorem dX9_jumps_31 : decode cX9_jumps 31 = .ok (.invokevirtual 159, 3) := by decide +kernel
theorem dX9_jumps_34 : decode cX9_jumps 34 = .ok (.aload_n 0, 1) := by decide +kernel
theorem dX9_jumps_35 : decode cX9_jumps 35 = .ok (.aload_n 0, 1) := by decide +kernel
theorem dX9_jumps_36 : decode cX9_jumps 36 = .ok (.getfield 123, 3) := by decide +kernel
theorem dX9_jumps_39 : decode cX9_jumps 39 = .ok (.iconst 1, 1) := by decide +kernel
theorem dX9_jumps_40 : decode cX9_jumps 40 = .ok (.iadd, 1) := by decide +kernel
theorem dX9_jumps_41 : decode cX9_jumps 41 = .ok (.putfield 123, 3) := by decide +kernel
theorem dX9_jumps_44 : decode cX9_jumps 44 = .ok (.return_, 1) := by decide +kernel
theorem dX9_readsCompared_0 : decode cX9_readsCompared 0 = .ok (.aload_n 0, 1) := by decide +kernel
theorem dX9_readsCompared_1 : decode cX9_readsCompared 1 = .ok (.invokevirtual 185, 3) := by decide +kernel
theorem dX9_readsCompared_4 : decode cX9_readsCompared 4 = .ok (.ifCond .ne 5, 3) := by decide +kernel
theorem dX9_readsCompared_7 : decode cX9_readsCompared 7 = .ok (.iconst 0, 1) := by decide +kernel
theorem dX9_readsCompared_8 : decode cX9_readsCompared 8 = .ok (.ireturn, 1) := by decide +kernel
theorem dX9_readsCompared_9 : decode cX9_readsCompared 9 = .ok (.aload_n 0, 1) := by decide +kernel
theorem dX9_readsCompared_10 : decode cX9_readsCompared 10 = .ok (.invokevirtual 129, 3) := by decide +kernel
theorem dX9_readsCompared_13 : decode cX9_readsCompared 13 = .ok (.bipush 60, 2) := by decide +kernel
theorem dX9_readsCompared_15 : decode cX9_readsCompared 15 = .ok (.if_icmp .ne 8, 3) := by decide +kernel
theorem dX9_readsCompared_18 : decode cX9_readsCompared 18 = .ok (.bipush 7, 2) := by decide +kernel
theorem dX9_readsCompared_20 : decode cX9_readsCompared 20 = .ok (.goto 32, 3) := by decide +kernel
theorem dX9_readsCompared_23 : decode cX9_readsCompared 23 = .ok (.aload_n 0, 1) := by decide +kernel
theorem dX9_readsCompared_24 : decode cX9_readsCompared 24 = .ok (.invokevirtual 129, 3) := by decide +kernel
theorem dX9_readsCompared_27 : decode cX9_readsCompared 27 = .ok (.bipush 62, 2) := by decide +kernel
theorem dX9_readsCompared_29 : decode cX9_readsCompared 29 = .ok (.if_icmp .ne 8, 3) := by decide +kernel
theorem dX9_readsCompared_32 : decode cX9_readsCompared 32 = .ok (.bipush 8, 2) := by decide +kernel
theorem dX9_readsCompared_34 : decode cX9_readsCompared 34 = .ok (.goto 18, 3) := by decide +kernel
theorem dX9_readsCompared_37 : decode cX9_readsCompared 37 = .ok (.aload_n 0, 1) := by decide +kernel
theorem dX9_readsCompared_38 : decode cX9_readsCompared 38 = .ok (.invokevirtual 129, 3) := by decide +kernel
theorem dX9_readsCompared_41 : decode cX9_readsCompared 41 = .ok (.bipush 61, 2) := by decide +kernel
theorem dX9_readsCompared_43 : decode cX9_readsCompared 43 = .ok (.if_icmp .ne 8, 3) := by decide +kernel
theorem dX9_readsCompared_46 : decode cX9_readsCompared 46 = .ok (.bipush 9, 2) := by decide +kernel
theorem dX9_readsCompared_48 : decode cX9_readsCompared 48 = .ok (.goto 4, 3) := by decide +kernel
theorem dX9_readsCompared_51 : decode cX9_readsCompared 51 = .ok (.iconst (-1), 1) := by decide +kernel
theorem dX9_readsCompared_52 : decode cX9_readsCompared 52 = .ok (.istore_n 1, 1) := by decide +kernel
theorem dX9_readsCompared_53 : decode cX9_readsCompared 53 = .ok (.iload_n 1, 1) := by decide +kernel
theorem dX9_readsCompared_54 : decode cX9_readsCompared 54 = .ok (.iconst (-1), 1) := by decide +kernel
theorem dX9_readsCompared_55 : decode cX9_readsCompared 55 = .ok (.if_icmp .ne 13, 3) := by decide +kernel
theorem dX9_readsCompared_58 : decode cX9_readsCompared 58 = .ok (.aload_n 0, 1) := by decide +kernel
theorem dX9_readsCompared_59 : decode cX9_readsCompared 59 = .ok (.iconst 1, 1) := by decide +kernel
theorem dX9_readsCompared_60 : decode cX9_readsCompared 60 = .ok (.aload_n 0, 1) := by decide +kernel
theorem dX9_readsCompared_61 : decode cX9_readsCompared 61 = .ok (.getfield 123, 3) := by decide +kernel
theorem dX9_readsCompared_64 : decode cX9_readsCompared 64 = .ok (.invokevirtual 136, 3) := by decide +kernel
theorem dX9_readsCompared_67 : decode cX9_readsCompared 67 = .ok (.ireturn, 1) := by decide +kernel
theorem dX9_readsCompared_68 : decode cX9_readsCompared 68 = .ok (.aload_n 0, 1) := by decide +kernel
theorem dX9_readsCompared_69 : decode cX9_readsCompared 69 = .ok (.aload_n 0, 1) := by decide +kernel
theorem dX9_readsCompared_70 : decode cX9_readsCompared 70 = .ok (.getfield 123, 3) := by decide +kernel
theorem dX9_readsCompared_73 : decode cX9_readsCompared 73 = .ok (.iconst 1, 1) := by decide +kernel
theorem dX9_readsCompared_74 : decode cX9_readsCompared 74 = .ok (.iadd, 1) := by decide +kernel
theorem dX9_readsCompared_75 : decode cX9_readsCompared 75 = .ok (.putfield 123, 3) := by decide +kernel
theorem dX9_readsCompared_78 : decode cX9_readsCompared 78 = .ok (.aload_n 0, 1) := by decide +kernel
theorem dX9_readsCompared_79 : decode cX9_readsCompared 79 = .ok (.invokevirtual 185, 3) := by decide +kernel
theorem dX9_readsCompared_82 : decode cX9_readsCompared 82 = .ok (.ifCond .ne 5, 3) := by decide +kernel
theorem dX9_readsCompared_85 : decode cX9_readsCompared 85 = .ok (.iconst 0, 1) := by decide +kernel
theorem dX9_readsCompared_86 : decode cX9_readsCompared 86 = .ok (.ireturn, 1) := by decide +kernel
theorem dX9_readsCompared_87 : decode cX9_readsCompared 87 = .ok (.aload_n 0, 1) := by decide +kernel
theorem dX9_readsCompared_88 : decode cX9_readsCompared 88 = .ok (.iload_n 1, 1) := by decide +kernel
theorem dX9_readsCompared_89 : decode cX9_readsCompared 89 = .ok (.iconst 0, 1) := by decide +kernel
theorem dX9_readsCompared_90 : decode cX9_readsCompared 90 = .ok (.invokevirtual 159, 3) := by decide +kernel
theorem dX9_readsCompared_93 : decode cX9_readsCompared 93 = .ok (.aload_n 0, 1) := by decide +kernel
theorem dX9_readsCompared_94 : decode cX9_readsCompared 94 = .ok (.invokevirtual 188, 3) := by decide +kernel
theorem dX9_readsCompared_97 : decode cX9_readsCompared 97 = .ok (.iconst 1, 1) := by decide +kernel
theorem dX9_readsCompared_98 : decode cX9_readsCompared 98 = .ok (.ireturn, 1) := by decide +kernel
theorem dX9_readsCondition_0 : decode cX9_readsCondition 0 = .ok (.aload_n 0, 1) := by decide +kernel
theorem dX9_readsCondition_1 : decode cX9_readsCondition 1 = .ok (.invokevirtual 129, 3) := by decide +kernel
theorem dX9_readsCondition_4 : decode cX9_readsCondition 4 = .ok (.bipush 40, 2) := by decide +kernel
theorem dX9_readsCondition_6 : decode cX9_readsCondition 6 = .ok (.if_icmp .eq 13, 3) := by decide +kernel
theorem dX9_readsCondition_9 : decode cX9_readsCondition 9 = .ok (.aload_n 0, 1) := by decide +kernel
theorem dX9_readsCondition_10 : decode cX9_readsCondition 10 = .ok (.iconst 1, 1) := by decide +kernel
theorem dX9_readsCondition_11 : decode cX9_readsCondition 11 = .ok (.aload_n 0, 1) := by decide +kernel
theorem dX9_readsCondition_12 : decode cX9_readsCondition 12 = .ok (.getfield 123, 3) := by decide +kernel
theorem dX9_readsCondition_15 : decode cX9_readsCondition 15 = .ok (.invokevirtual 136, 3) := by decide +kernel
theorem dX9_readsCondition_18 : decode cX9_readsCondition 18 = .ok (.ireturn, 1) := by decide +kernel
theorem dX9_readsCondition_19 : decode cX9_readsCondition 19 = .ok (.aload_n 0, 1) := by decide +kernel
theorem dX9_readsCondition_20 : decode cX9_readsCondition 20 = .ok (.iconst 0, 1) := by decide +kernel
theorem dX9_readsCondition_21 : decode cX9_readsCondition 21 = .ok (.putfield 150, 3) := by decide +kernel
theorem dX9_readsCondition_24 : decode cX9_readsCondition 24 = .ok (.aload_n 0, 1) := by decide +kernel
theorem dX9_readsCondition_25 : decode cX9_readsCondition 25 = .ok (.iconst 0, 1) := by decide +kernel
theorem dX9_readsCondition_26 : decode cX9_readsCondition 26 = .ok (.putfield 153, 3) := by decide +kernel
theorem dX9_readsCondition_29 : decode cX9_readsCondition 29 = .ok (.aload_n 0, 1) := by decide +kernel
theorem dX9_readsCondition_30 : decode cX9_readsCondition 30 = .ok (.bipush 13, 2) := by decide +kernel
theorem dX9_readsCondition_32 : decode cX9_readsCondition 32 = .ok (.invokevirtual 163, 3) := by decide +kernel
theorem dX9_readsCondition_35 : decode cX9_readsCondition 35 = .ok (.ifCond .ne 5, 3) := by decide +kernel
theorem dX9_readsCondition_38 : decode cX9_readsCondition 38 = .ok (.iconst 0, 1) := by decide +kernel
theorem dX9_readsCondition_39 : decode cX9_readsCondition 39 = .ok (.ireturn, 1) := by decide +kernel
theorem dX9_readsCondition_40 : decode cX9_readsCondition 40 = .ok (.aload_n 0, 1) := by decide +kernel
theorem dX9_readsCondition_41 : decode cX9_readsCondition 41 = .ok (.invokevirtual 129, 3) := by decide +kernel
theorem dX9_readsCondition_44 : decode cX9_readsCondition 44 = .ok (.bipush 33, 2) := by decide +kernel
theorem dX9_readsCondition_46 : decode cX9_readsCondition 46 = .ok (.if_icmp .eq 12, 3) := by decide +kernel
theorem dX9_readsCondition_49 : decode cX9_readsCondition 49 = .ok (.aload_n 0, 1) := by decide +kernel
theorem dX9_readsCondition_50 : decode cX9_readsCondition 50 = .ok (.invokevirtual 129, 3) := by decide +kernel
theorem dX9_readsCondition_53 : decode cX9_readsCondition 53 = .ok (.bipush 40, 2) := by decide +kernel
theorem dX9_readsCondition_55 : decode cX9_readsCondition 55 = .ok (.if_icmp .ne 28, 3) := by decide +kernel
theorem dX9_readsCondition_58 : decode cX9_readsCondition 58 = .ok (.aload_n 0, 1) := by decide +kernel
theorem dX9_readsCondition_59 : decode cX9_readsCondition 59 = .ok (.aload_n 0, 1) := by decide +kernel
theorem dX9_readsCondition_60 : decode cX9_readsCondition 60 = .ok (.invokevirtual 129, 3) := by decide +kernel
theorem dX9_readsCondition_63 : decode cX9_readsCondition 63 = .ok (.bipush 33, 2) := by decide +kernel
theorem dX9_readsCondition_65 : decode cX9_readsCondition 65 = .ok (.if_icmp .ne 8, 3) := by decide +kernel
theorem dX9_readsCondition_68 : decode cX9_readsCondition 68 = .ok (.bipush 10, 2) := by decide +kernel
theorem dX9_readsCondition_70 : decode cX9_readsCondition 70 = .ok (.goto 5, 3) := by decide +kernel
theorem dX9_readsCondition_73 : decode cX9_readsCondition 73 = .ok (.bipush 13, 2) := by decide +kernel
theorem dX9_readsCondition_75 : decode cX9_readsCondition 75 = .ok (.invokevirtual 163, 3) := by decide +kernel
theorem dX9_readsCondition_78 : decode cX9_readsCondition 78 = .ok (.ifCond .ne (-38), 3) := by decide +kernel
theorem dX9_readsCondition_81 : decode cX9_readsCondition 81 = .ok (.iconst 0, 1) := by decide +kernel
theorem dX9_readsCondition_82 : decode cX9_readsCondition 82 = .ok (.ireturn, 1) := by decide +kernel
theorem dX9_readsCondition_83 : decode cX9_readsCondition 83 = .ok (.aload_n 0, 1) := by decide +kernel
theorem dX9_readsCondition_84 : decode cX9_readsCondition 84 = .ok (.invokevirtual 191, 3) := by decide +kernel
theorem dX9_readsCondition_87 : decode cX9_readsCondition 87 = .ok (.ifCond .ne 5, 3) := by decide +kernel
theorem dX9_readsCondition_90 : decode cX9_readsCondition 90 = .ok (.iconst 0, 1) := by decide +kernel
theorem dX9_readsCondition_91 : decode cX9_readsCondition 91 = .ok (.ireturn, 1) := by decide +kernel
theorem dX9_readsCondition_92 : decode cX9_readsCondition 92 = .ok (.aload_n 0, 1) := by decide +kernel
theorem dX9_readsCondition_93 : decode cX9_readsCondition 93 = .ok (.invokevirtual 129, 3) := by decide +kernel
theorem dX9_readsCondition_96 : decode cX9_readsCondition 96 = .ok (.bipush 41, 2) := by decide +kernel
theorem dX9_readsCondition_98 : decode cX9_readsCondition 98 = .ok (.if_icmp .ne 54, 3) := by decide +kernel
theorem dX9_readsCondition_101 : decode cX9_readsCondition 101 = .ok (.aload_n 0, 1) := by decide +kernel
theorem dX9_readsCondition_102 : decode cX9_readsCondition 102 = .ok (.iconst 1, 1) := by decide +kernel
theorem dX9_readsCondition_103 : decode cX9_readsCondition 103 = .ok (.invokevirtual 194, 3) := by decide +kernel
theorem dX9_readsCondition_106 : decode cX9_readsCondition 106 = .ok (.aload_n 0, 1) := by decide +kernel
theorem dX9_readsCondition_107 : decode cX9_readsCondition 107 = .ok (.aload_n 0, 1) := by decide +kernel
theorem dX9_readsCondition_108 : decode cX9_readsCondition 108 = .ok (.getfield 153, 3) := by decide +kernel
theorem dX9_readsCondition_111 : decode cX9_readsCondition 111 = .ok (.iconst 1, 1) := by decide +kernel
theorem dX9_readsCondition_112 : decode cX9_readsCondition 112 = .ok (.isub, 1) := by decide +kernel
theorem dX9_readsCondition_113 : decode cX9_readsCondition 113 = .ok (.putfield 153, 3) := by decide +kernel
theorem dX9_readsCondition_116 : decode cX9_readsCondition 116 = .ok (.aload_n 0, 1) := by decide +kernel
theorem dX9_readsCondition_117 : decode cX9_readsCondition 117 = .ok (.aload_n 0, 1) := by decide +kernel
theorem dX9_readsCondition_118 : decode cX9_readsCondition 118 = .ok (.getfield 150, 3) := by decide +kernel
theorem dX9_readsCondition_121 : decode cX9_readsCondition 121 = .ok (.iconst 1, 1) := by decide +kernel
theorem dX9_readsCondition_122 : decode cX9_readsCondition 122 = .ok (.isub, 1) := by decide +kernel
theorem dX9_readsCondition_123 : decode cX9_readsCondition 123 = .ok (.putfield 150, 3) := by decide +kernel
theorem dX9_readsCondition_126 : decode cX9_readsCondition 126 = .ok (.aload_n 0, 1) := by decide +kernel
theorem dX9_readsCondition_127 : decode cX9_readsCondition 127 = .ok (.aload_n 0, 1) := by decide +kernel
theorem dX9_readsCondition_128 : decode cX9_readsCondition 128 = .ok (.getfield 123, 3) := by decide +kernel
theorem dX9_readsCondition_131 : decode cX9_readsCondition 131 = .ok (.iconst 1, 1) := by decide +kernel
theorem dX9_readsCondition_132 : decode cX9_readsCondition 132 = .ok (.iadd, 1) := by decide +kernel
theorem dX9_readsCondition_133 : decode cX9_readsCondition 133 = .ok (.putfield 123, 3) := by decide +kernel
theorem dX9_readsCondition_136 : decode cX9_readsCondition 136 = .ok (.aload_n 0, 1) := by decide +kernel
theorem dX9_readsCondition_137 : decode cX9_readsCondition 137 = .ok (.getfield 153, 3) := by decide +kernel
theorem dX9_readsCondition_140 : decode cX9_readsCondition 140 = .ok (.ifCond .ne 5, 3) := by decide +kernel
theorem dX9_readsCondition_143 : decode cX9_readsCondition 143 = .ok (.iconst 1, 1) := by decide +kernel
theorem dX9_readsCondition_144 : decode cX9_readsCondition 144 = .ok (.ireturn, 1) := by decide +kernel
theorem dX9_readsCondition_145 : decode cX9_readsCondition 145 = .ok (.aload_n 0, 1) := by decide +kernel
theorem dX9_readsCondition_146 : decode cX9_readsCondition 146 = .ok (.invokevirtual 188, 3) := by decide +kernel
theorem dX9_readsCondition_149 : decode cX9_readsCondition 149 = .ok (.goto (-57), 3) := by decide +kernel
theorem dX9_readsCondition_152 : decode cX9_readsCondition 152 = .ok (.aload_n 0, 1) := by decide +kernel
theorem dX9_readsCondition_153 : decode cX9_readsCondition 153 = .ok (.invokevirtual 129, 3) := by decide +kernel
theorem dX9_readsCondition_156 : decode cX9_readsCondition 156 = .ok (.bipush 38, 2) := by decide +kernel
theorem dX9_readsCondition_158 : decode cX9_readsCondition 158 = .ok (.if_icmp .eq 22, 3) := by decide +kernel
theorem dX9_readsCondition_161 : decode cX9_readsCondition 161 = .ok (.aload_n 0, 1) := by decide +kernel
theorem dX9_readsCondition_162 : decode cX9_readsCondition 162 = .ok (.invokevirtual 129, 3) := by decide +kernel
theorem dX9_readsCondition_165 : decode cX9_readsCondition 165 = .ok (.bipush 124, 2) := by decide +kernel
theorem dX9_readsCondition_167 : decode cX9_readsCondition 167 = .ok (.if_icmp .eq 13, 3) := by decide +kernel
theorem dX9_readsCondition_170 : decode cX9_readsCondition 170 = .ok (.aload_n 0, 1) := by decide +kernel
theorem dX9_readsCondition_171 : decode cX9_readsCondition 171 = .ok (.iconst 1, 1) := by decide +kernel
theorem dX9_readsCondition_172 : decode cX9_readsCondition 172 = .ok (.aload_n 0, 1) := by decide +kernel
theorem dX9_readsCondition_173 : decode cX9_readsCondition 173 = .ok (.getfield 123, 3) := by decide +kernel
theorem dX9_readsCondition_176 : decode cX9_readsCondition 176 = .ok (.invokevirtual 136, 3) := by decide +kernel
theorem dX9_readsCondition_179 : decode cX9_readsCondition 179 = .ok (.ireturn, 1) := by decide +kernel
theorem dX9_readsCondition_180 : decode cX9_readsCondition 180 = .ok (.aload_n 0, 1) := by decide +kernel
theorem dX9_readsCondition_181 : decode cX9_readsCondition 181 = .ok (.aload_n 0, 1) := by decide +kernel
theorem dX9_readsCondition_182 : decode cX9_readsCondition 182 = .ok (.invokevirtual 129, 3) := by decide +kernel
theorem dX9_readsCondition_185 : decode cX9_readsCondition 185 = .ok (.bipush 124, 2) := by decide +kernel
theorem dX9_readsCondition_187 : decode cX9_readsCondition 187 = .ok (.if_icmp .ne 7, 3) := by decide +kernel
theorem dX9_readsCondition_190 : decode cX9_readsCondition 190 = .ok (.iconst 1, 1) := by decide +kernel
theorem dX9_readsCondition_191 : decode cX9_readsCondition 191 = .ok (.goto 4, 3) := by decide +kernel
theorem dX9_readsCondition_194 : decode cX9_readsCondition 194 = .ok (.iconst 0, 1) := by decide +kernel
theorem dX9_readsCondition_195 : decode cX9_readsCondition 195 = .ok (.invokevirtual 194, 3) := by decide +kernel
theorem dX9_readsCondition_198 : decode cX9_readsCondition 198 = .ok (.aload_n 0, 1) := by decide +kernel
theorem dX9_readsCondition_199 : decode cX9_readsCondition 199 = .ok (.aload_n 0, 1) := by decide +kernel
theorem dX9_readsCondition_200 : decode cX9_readsCondition 200 = .ok (.invokevirtual 129, 3) := by decide +kernel
theorem dX9_readsCondition_203 : decode cX9_readsCondition 203 = .ok (.bipush 38, 2) := by decide +kernel
theorem dX9_readsCondition_205 : decode cX9_readsCondition 205 = .ok (.if_icmp .ne 8, 3) := by decide +kernel
theorem dX9_readsCondition_208 : decode cX9_readsCondition 208 = .ok (.bipush 11, 2) := by decide +kernel
theorem dX9_readsCondition_210 : decode cX9_readsCondition 210 = .ok (.goto 5, 3) := by decide +kernel
theorem dX9_readsCondition_213 : decode cX9_readsCondition 213 = .ok (.bipush 12, 2) := by decide +kernel
theorem dX9_readsCondition_215 : decode cX9_readsCondition 215 = .ok (.invokevirtual 197, 3) := by decide +kernel
theorem dX9_readsCondition_218 : decode cX9_readsCondition 218 = .ok (.goto (-178), 3) := by decide +kernel
theorem dX9_isClause_0 : decode cX9_isClause 0 = .ok (.iload_n 0, 1) := by decide +kernel
theorem dX9_isClause_1 : decode cX9_isClause 1 = .ok (.bipush 97, 2) := by decide +kernel
theorem dX9_isClause_3 : decode cX9_isClause 3 = .ok (.if_icmp .eq 45, 3) := by decide +kernel
theorem dX9_isClause_6 : decode cX9_isClause 6 = .ok (.iload_n 0, 1) := by decide +kernel
theorem dX9_isClause_7 : decode cX9_isClause 7 = .ok (.bipush 122, 2) := by decide +kernel
theorem dX9_isClause_9 : decode cX9_isClause 9 = .ok (.if_icmp .eq 39, 3) := by decide +kernel
theorem dX9_isClause_12 : decode cX9_isClause 12 = .ok (.iload_n 0, 1) := by decide +kernel
theorem dX9_isClause_13 : decode cX9_isClause 13 = .ok (.bipush 115, 2) := by decide +kernel
theorem dX9_isClause_15 : decode cX9_isClause 15 = .ok (.if_icmp .eq 33, 3) := by decide +kernel
theorem dX9_isClause_18 : decode cX9_isClause 18 = .ok (.iload_n 0, 1) := by decide +kernel
theorem dX9_isClause_19 : decode cX9_isClause 19 = .ok (.bipush 119, 2) := by decide +kernel
theorem dX9_isClause_21 : decode cX9_isClause 21 = .ok (.if_icmp .eq 27, 3) := by decide +kernel
theorem dX9_isClause_24 : decode cX9_isClause 24 = .ok (.iload_n 0, 1) := by decide +kernel
theorem dX9_isClause_25 : decode cX9_isClause 25 = .ok (.bipush 120, 2) := by decide +kernel
theorem dX9_isClause_27 : decode cX9_isClause 27 = .ok (.if_icmp .eq 21, 3) := by decide +kernel
theorem dX9_isClause_30 : decode cX9_isClause 30 = .ok (.iload_n 0, 1) := by decide +kernel
theorem dX9_isClause_31 : decode cX9_isClause 31 = .ok (.bipush 102, 2) := by decide +kernel
theorem dX9_isClause_33 : decode cX9_isClause 33 = .ok (.if_icmp .eq 15, 3) := by decide +kernel
theorem dX9_isClause_36 : decode cX9_isClause 36 = .ok (.iload_n 0, 1) := by decide +kernel
theorem dX9_isClause_37 : decode cX9_isClause 37 = .ok (.bipush 98, 2) := by decide +kernel
theorem dX9_isClause_39 : decode cX9_isClause 39 = .ok (.if_icmp .eq 9, 3) := by decide +kernel
theorem dX9_isClause_42 : decode cX9_isClause 42 = .ok (.iload_n 0, 1) := by decide +kernel
theorem dX9_isClause_43 : decode cX9_isClause 43 = .ok (.bipush 113, 2) := by decide +kernel
theorem dX9_isClause_45 : decode cX9_isClause 45 = .ok (.if_icmp .ne 7, 3) := by decide +kernel
theorem dX9_isClause_48 : decode cX9_isClause 48 = .ok (.iconst 1, 1) := by decide +kernel
theorem dX9_isClause_49 : decode cX9_isClause 49 = .ok (.goto 4, 3) := by decide +kernel
theorem dX9_isClause_52 : decode cX9_isClause 52 = .ok (.iconst 0, 1) := by decide +kernel
theorem dX9_isClause_53 : decode cX9_isClause 53 = .ok (.ireturn, 1) := by decide +kernel
theorem dX9_readsClause_0 : decode cX9_readsClause 0 = .ok (.aload_n 0, 1) := by decide +kernel
theorem dX9_readsClause_1 : decode cX9_readsClause 1 = .ok (.invokevirtual 129, 3) := by decide +kernel
theorem dX9_readsClause_4 : decode cX9_readsClause 4 = .ok (.istore_n 1, 1) := by decide +kernel
theorem dX9_readsClause_5 : decode cX9_readsClause 5 = .ok (.iload_n 1, 1) := by decide +kernel
theorem dX9_readsClause_6 : decode cX9_readsClause 6 = .ok (.invokestatic 200, 3) := by decide +kernel
theorem dX9_readsClause_9 : decode cX9_readsClause 9 = .ok (.ifCond .ne 13, 3) := by decide +kernel
theorem dX9_readsClause_12 : decode cX9_readsClause 12 = .ok (.aload_n 0, 1) := by decide +kernel
theorem dX9_readsClause_13 : decode cX9_readsClause 13 = .ok (.iconst 1, 1) := by decide +kernel
theorem dX9_readsClause_14 : decode cX9_readsClause 14 = .ok (.aload_n 0, 1) := by decide +kernel
theorem dX9_readsClause_15 : decode cX9_readsClause 15 = .ok (.getfield 123, 3) := by decide +kernel
theorem dX9_readsClause_18 : decode cX9_readsClause 18 = .ok (.invokevirtual 136, 3) := by decide +kernel
theorem dX9_readsClause_21 : decode cX9_readsClause 21 = .ok (.ireturn, 1) := by decide +kernel
theorem dX9_readsClause_22 : decode cX9_readsClause 22 = .ok (.aload_n 0, 1) := by decide +kernel
theorem dX9_readsClause_23 : decode cX9_readsClause 23 = .ok (.getfield 203, 3) := by decide +kernel
theorem dX9_readsClause_26 : decode cX9_readsClause 26 = .ok (.bipush 16, 2) := by decide +kernel
theorem dX9_readsClause_28 : decode cX9_readsClause 28 = .ok (.if_icmp .ne 13, 3) := by decide +kernel
theorem dX9_readsClause_31 : decode cX9_readsClause 31 = .ok (.aload_n 0, 1) := by decide +kernel
theorem dX9_readsClause_32 : decode cX9_readsClause 32 = .ok (.iconst 4, 1) := by decide +kernel
theorem dX9_readsClause_33 : decode cX9_readsClause 33 = .ok (.aload_n 0, 1) := by decide +kernel
theorem dX9_readsClause_34 : decode cX9_readsClause 34 = .ok (.getfield 123, 3) := by decide +kernel
theorem dX9_readsClause_37 : decode cX9_readsClause 37 = .ok (.invokevirtual 136, 3) := by decide +kernel
theorem dX9_readsClause_40 : decode cX9_readsClause 40 = .ok (.ireturn, 1) := by decide +kernel
theorem dX9_readsClause_41 : decode cX9_readsClause 41 = .ok (.aload_n 0, 1) := by decide +kernel
theorem dX9_readsClause_42 : decode cX9_readsClause 42 = .ok (.getfield 29, 3) := by decide +kernel
theorem dX9_readsClause_45 : decode cX9_readsClause 45 = .ok (.aload_n 0, 1) := by decide +kernel
theorem dX9_readsClause_46 : decode cX9_readsClause 46 = .ok (.getfield 203, 3) := by decide +kernel
theorem dX9_readsClause_49 : decode cX9_readsClause 49 = .ok (.iload_n 1, 1) := by decide +kernel
theorem dX9_readsClause_50 : decode cX9_readsClause 50 = .ok (.iastore, 1) := by decide +kernel
theorem dX9_readsClause_51 : decode cX9_readsClause 51 = .ok (.aload_n 0, 1) := by decide +kernel
theorem dX9_readsClause_52 : decode cX9_readsClause 52 = .ok (.aload_n 0, 1) := by decide +kernel
theorem dX9_readsClause_53 : decode cX9_readsClause 53 = .ok (.getfield 123, 3) := by decide +kernel
theorem dX9_readsClause_56 : decode cX9_readsClause 56 = .ok (.iconst 1, 1) := by decide +kernel
theorem dX9_readsClause_57 : decode cX9_readsClause 57 = .ok (.iadd, 1) := by decide +kernel
theorem dX9_readsClause_58 : decode cX9_readsClause 58 = .ok (.putfield 123, 3) := by decide +kernel
theorem dX9_readsClause_61 : decode cX9_readsClause 61 = .ok (.aload_n 0, 1) := by decide +kernel
theorem dX9_readsClause_62 : decode cX9_readsClause 62 = .ok (.getfield 32, 3) := by decide +kernel
theorem dX9_readsClause_65 : decode cX9_readsClause 65 = .ok (.aload_n 0, 1) := by decide +kernel
theorem dX9_readsClause_66 : decode cX9_readsClause 66 = .ok (.getfield 203, 3) := by decide +kernel
theorem dX9_readsClause_69 : decode cX9_readsClause 69 = .ok (.aload_n 0, 1) := by decide +kernel
theorem dX9_readsClause_70 : decode cX9_readsClause 70 = .ok (.getfield 146, 3) := by decide +kernel
theorem dX9_readsClause_73 : decode cX9_readsClause 73 = .ok (.iastore, 1) := by decide +kernel
theorem dX9_readsClause_74 : decode cX9_readsClause 74 = .ok (.aload_n 0, 1) := by decide +kernel
theorem dX9_readsClause_75 : decode cX9_readsClause 75 = .ok (.iconst 0, 1) := by decide +kernel
theorem dX9_readsClause_76 : decode cX9_readsClause 76 = .ok (.putfield 150, 3) := by decide +kernel
theorem dX9_readsClause_79 : decode cX9_readsClause 79 = .ok (.aload_n 0, 1) := by decide +kernel
theorem dX9_readsClause_80 : decode cX9_readsClause 80 = .ok (.iconst 0, 1) := by decide +kernel
theorem dX9_readsClause_81 : decode cX9_readsClause 81 = .ok (.putfield 153, 3) := by decide +kernel
theorem dX9_readsClause_84 : decode cX9_readsClause 84 = .ok (.aload_n 0, 1) := by decide +kernel
theorem dX9_readsClause_85 : decode cX9_readsClause 85 = .ok (.invokevirtual 185, 3) := by decide +kernel
theorem dX9_readsClause_88 : decode cX9_readsClause 88 = .ok (.ifCond .ne 5, 3) := by decide +kernel
theorem dX9_readsClause_91 : decode cX9_readsClause 91 = .ok (.iconst 0, 1) := by decide +kernel
theorem dX9_readsClause_92 : decode cX9_readsClause 92 = .ok (.ireturn, 1) := by decide +kernel
theorem dX9_readsClause_93 : decode cX9_readsClause 93 = .ok (.aload_n 0, 1) := by decide +kernel
theorem dX9_readsClause_94 : decode cX9_readsClause 94 = .ok (.getfield 35, 3) := by decide +kernel
theorem dX9_readsClause_97 : decode cX9_readsClause 97 = .ok (.aload_n 0, 1) := by decide +kernel
theorem dX9_readsClause_98 : decode cX9_readsClause 98 = .ok (.getfield 203, 3) := by decide +kernel
theorem dX9_readsClause_101 : decode cX9_readsClause 101 = .ok (.aload_n 0, 1) := by decide +kernel
theorem dX9_readsClause_102 : decode cX9_readsClause 102 = .ok (.getfield 146, 3) := by decide +kernel
theorem dX9_readsClause_105 : decode cX9_readsClause 105 = .ok (.iastore, 1) := by decide +kernel
theorem dX9_readsClause_106 : decode cX9_readsClause 106 = .ok (.aload_n 0, 1) := by decide +kernel
theorem dX9_readsClause_107 : decode cX9_readsClause 107 = .ok (.invokevirtual 206, 3) := by decide +kernel
theorem dX9_readsClause_110 : decode cX9_readsClause 110 = .ok (.ifCond .ne 5, 3) := by decide +kernel
theorem dX9_readsClause_113 : decode cX9_readsClause 113 = .ok (.iconst 0, 1) := by decide +kernel
theorem dX9_readsClause_114 : decode cX9_readsClause 114 = .ok (.ireturn, 1) := by decide +kernel
theorem dX9_readsClause_115 : decode cX9_readsClause 115 = .ok (.aload_n 0, 1) := by decide +kernel
theorem dX9_readsClause_116 : decode cX9_readsClause 116 = .ok (.getfield 38, 3) := by decide +kernel
theorem dX9_readsClause_119 : decode cX9_readsClause 119 = .ok (.aload_n 0, 1) := by decide +kernel
theorem dX9_readsClause_120 : decode cX9_readsClause 120 = .ok (.getfield 203, 3) := by decide +kernel
theorem dX9_readsClause_123 : decode cX9_readsClause 123 = .ok (.aload_n 0, 1) := by decide +kernel
theorem dX9_readsClause_124 : decode cX9_readsClause 124 = .ok (.getfield 146, 3) := by decide +kernel
theorem dX9_readsClause_127 : decode cX9_readsClause 127 = .ok (.iastore, 1) := by decide +kernel
theorem dX9_readsClause_128 : decode cX9_readsClause 128 = .ok (.aload_n 0, 1) := by decide +kernel
theorem dX9_readsClause_129 : decode cX9_readsClause 129 = .ok (.aload_n 0, 1) := by decide +kernel
theorem dX9_readsClause_130 : decode cX9_readsClause 130 = .ok (.getfield 203, 3) := by decide +kernel
theorem dX9_readsClause_133 : decode cX9_readsClause 133 = .ok (.iconst 1, 1) := by decide +kernel
theorem dX9_readsClause_134 : decode cX9_readsClause 134 = .ok (.iadd, 1) := by decide +kernel
theorem dX9_readsClause_135 : decode cX9_readsClause 135 = .ok (.putfield 203, 3) := by decide +kernel
theorem dX9_readsClause_138 : decode cX9_readsClause 138 = .ok (.iconst 1, 1) := by decide +kernel
theorem dX9_readsClause_139 : decode cX9_readsClause 139 = .ok (.ireturn, 1) := by decide +kernel
theorem dX9_law_0 : decode cX9_law 0 = .ok (.iload_n 1, 1) := by decide +kernel
theorem dX9_law_1 : decode cX9_law 1 = .ok (.iconst 1, 1) := by decide +kernel
theorem dX9_law_2 : decode cX9_law 2 = .ok (.sipush 240, 3) := by decide +kernel
theorem dX9_law_5 : decode cX9_law 5 = .ok (.invokestatic 92, 3) := by decide +kernel
theorem dX9_law_8 : decode cX9_law 8 = .ok (.ifCond .eq 11, 3) := by decide +kernel
theorem dX9_law_11 : decode cX9_law 11 = .ok (.iload_n 1, 1) := by decide +kernel
theorem dX9_law_12 : decode cX9_law 12 = .ok (.aload_n 0, 1) := by decide +kernel
theorem dX9_law_13 : decode cX9_law 13 = .ok (.getfield 115, 3) := by decide +kernel
theorem dX9_law_16 : decode cX9_law 16 = .ok (.if_icmp .le 5, 3) := by decide +kernel
theorem dX9_law_19 : decode cX9_law 19 = .ok (.iconst (-1), 1) := by decide +kernel
theorem dX9_law_20 : decode cX9_law 20 = .ok (.ireturn, 1) := by decide +kernel
theorem dX9_law_21 : decode cX9_law 21 = .ok (.aload_n 0, 1) := by decide +kernel
theorem dX9_law_22 : decode cX9_law 22 = .ok (.iconst 0, 1) := by decide +kernel
theorem dX9_law_23 : decode cX9_law 23 = .ok (.putfield 123, 3) := by decide +kernel
theorem dX9_law_26 : decode cX9_law 26 = .ok (.aload_n 0, 1) := by decide +kernel
theorem dX9_law_27 : decode cX9_law 27 = .ok (.iload_n 1, 1) := by decide +kernel
theorem dX9_law_28 : decode cX9_law 28 = .ok (.putfield 126, 3) := by decide +kernel
theorem dX9_law_31 : decode cX9_law 31 = .ok (.aload_n 0, 1) := by decide +kernel
theorem dX9_law_32 : decode cX9_law 32 = .ok (.iconst 0, 1) := by decide +kernel
theorem dX9_law_33 : decode cX9_law 33 = .ok (.putfield 146, 3) := by decide +kernel
theorem dX9_law_36 : decode cX9_law 36 = .ok (.aload_n 0, 1) := by decide +kernel
theorem dX9_law_37 : decode cX9_law 37 = .ok (.iconst 0, 1) := by decide +kernel
theorem dX9_law_38 : decode cX9_law 38 = .ok (.putfield 203, 3) := by decide +kernel
theorem dX9_law_41 : decode cX9_law 41 = .ok (.aload_n 0, 1) := by decide +kernel
theorem dX9_law_42 : decode cX9_law 42 = .ok (.invokevirtual 209, 3) := by decide +kernel
theorem dX9_law_45 : decode cX9_law 45 = .ok (.istore_n 2, 1) := by decide +kernel
theorem dX9_law_46 : decode cX9_law 46 = .ok (.iload_n 2, 1) := by decide +kernel
theorem dX9_law_47 : decode cX9_law 47 = .ok (.ifCond .eq 39, 3) := by decide +kernel
theorem dX9_law_50 : decode cX9_law 50 = .ok (.aload_n 0, 1) := by decide +kernel
theorem dX9_law_51 : decode cX9_law 51 = .ok (.getfield 123, 3) := by decide +kernel
theorem dX9_law_54 : decode cX9_law 54 = .ok (.aload_n 0, 1) := by decide +kernel
theorem dX9_law_55 : decode cX9_law 55 = .ok (.getfield 126, 3) := by decide +kernel
theorem dX9_law_58 : decode cX9_law 58 = .ok (.if_icmp .ge 28, 3) := by decide +kernel
theorem dX9_law_61 : decode cX9_law 61 = .ok (.aload_n 0, 1) := by decide +kernel
theorem dX9_law_62 : decode cX9_law 62 = .ok (.bipush 59, 2) := by decide +kernel
theorem dX9_law_64 : decode cX9_law 64 = .ok (.invokevirtual 212, 3) := by decide +kernel
theorem dX9_law_67 : decode cX9_law 67 = .ok (.ifCond .eq 14, 3) := by decide +kernel
theorem dX9_law_70 : decode cX9_law 70 = .ok (.aload_n 0, 1) := by decide +kernel
theorem dX9_law_71 : decode cX9_law 71 = .ok (.invokevirtual 209, 3) := by decide +kernel
theorem dX9_law_74 : decode cX9_law 74 = .ok (.ifCond .eq 7, 3) := by decide +kernel
theorem dX9_law_77 : decode cX9_law 77 = .ok (.iconst 1, 1) := by decide +kernel
theorem dX9_law_78 : decode cX9_law 78 = .ok (.goto 4, 3) := by decide +kernel
theorem dX9_law_81 : decode cX9_law 81 = .ok (.iconst 0, 1) := by decide +kernel
theorem dX9_law_82 : decode cX9_law 82 = .ok (.istore_n 2, 1) := by decide +kernel
theorem dX9_law_83 : decode cX9_law 83 = .ok (.goto (-37), 3) := by decide +kernel
theorem dX9_law_86 : decode cX9_law 86 = .ok (.aload_n 0, 1) := by decide +kernel
theorem dX9_law_87 : decode cX9_law 87 = .ok (.iconst 0, 1) := by decide +kernel
theorem dX9_law_88 : decode cX9_law 88 = .ok (.putfield 115, 3) := by decide +kernel
theorem dX9_law_91 : decode cX9_law 91 = .ok (.iload_n 2, 1) := by decide +kernel
theorem dX9_law_92 : decode cX9_law 92 = .ok (.ifCond .ne 8, 3) := by decide +kernel
theorem dX9_law_95 : decode cX9_law 95 = .ok (.aload_n 0, 1) := by decide +kernel
theorem dX9_law_96 : decode cX9_law 96 = .ok (.getfield 133, 3) := by decide +kernel
theorem dX9_law_99 : decode cX9_law 99 = .ok (.ireturn, 1) := by decide +kernel
theorem dX9_law_100 : decode cX9_law 100 = .ok (.aload_n 0, 1) := by decide +kernel
theorem dX9_law_101 : decode cX9_law 101 = .ok (.aload_n 0, 1) := by decide +kernel
theorem dX9_law_102 : decode cX9_law 102 = .ok (.getfield 203, 3) := by decide +kernel
theorem dX9_law_105 : decode cX9_law 105 = .ok (.putfield 215, 3) := by decide +kernel
theorem dX9_law_108 : decode cX9_law 108 = .ok (.iconst 0, 1) := by decide +kernel
theorem dX9_law_109 : decode cX9_law 109 = .ok (.istore_n 3, 1) := by decide +kernel
theorem dX9_law_110 : decode cX9_law 110 = .ok (.iload_n 3, 1) := by decide +kernel
theorem dX9_law_111 : decode cX9_law 111 = .ok (.aload_n 0, 1) := by decide +kernel
theorem dX9_law_112 : decode cX9_law 112 = .ok (.getfield 146, 3) := by decide +kernel
theorem dX9_law_115 : decode cX9_law 115 = .ok (.if_icmp .ge 21, 3) := by decide +kernel
theorem dX9_law_118 : decode cX9_law 118 = .ok (.aload_n 0, 1) := by decide +kernel
theorem dX9_law_119 : decode cX9_law 119 = .ok (.getfield 41, 3) := by decide +kernel
theorem dX9_law_122 : decode cX9_law 122 = .ok (.iload_n 3, 1) := by decide +kernel
theorem dX9_law_123 : decode cX9_law 123 = .ok (.aload_n 0, 1) := by decide +kernel
theorem dX9_law_124 : decode cX9_law 124 = .ok (.getfield 23, 3) := by decide +kernel
theorem dX9_law_127 : decode cX9_law 127 = .ok (.iload_n 3, 1) := by decide +kernel
theorem dX9_law_128 : decode cX9_law 128 = .ok (.iaload, 1) := by decide +kernel
theorem dX9_law_129 : decode cX9_law 129 = .ok (.iastore, 1) := by decide +kernel
theorem dX9_law_130 : decode cX9_law 130 = .ok (.iinc 3 1, 3) := by decide +kernel
theorem dX9_law_133 : decode cX9_law 133 = .ok (.goto (-23), 3) := by decide +kernel
theorem dX9_law_136 : decode cX9_law 136 = .ok (.iconst 0, 1) := by decide +kernel
theorem dX9_law_137 : decode cX9_law 137 = .ok (.istore_n 3, 1) := by decide +kernel
theorem dX9_law_138 : decode cX9_law 138 = .ok (.iload_n 3, 1) := by decide +kernel
theorem dX9_law_139 : decode cX9_law 139 = .ok (.aload_n 0, 1) := by decide +kernel
theorem dX9_law_140 : decode cX9_law 140 = .ok (.getfield 203, 3) := by decide +kernel
theorem dX9_law_143 : decode cX9_law 143 = .ok (.if_icmp .ge 57, 3) := by decide +kernel
theorem dX9_law_146 : decode cX9_law 146 = .ok (.aload_n 0, 1) := by decide +kernel
theorem dX9_law_147 : decode cX9_law 147 = .ok (.getfield 44, 3) := by decide +kernel
theorem dX9_law_150 : decode cX9_law 150 = .ok (.iload_n 3, 1) := by decide +kernel
theorem dX9_law_151 : decode cX9_law 151 = .ok (.aload_n 0, 1) := by decide +kernel
theorem dX9_law_152 : decode cX9_law 152 = .ok (.getfield 29, 3) := by decide +kernel
theorem dX9_law_155 : decode cX9_law 155 = .ok (.iload_n 3, 1) := by decide +kernel
theorem dX9_law_156 : decode cX9_law 156 = .ok (.iaload, 1) := by decide +kernel
theorem dX9_law_157 : decode cX9_law 157 = .ok (.iastore, 1) := by decide +kernel
theorem dX9_law_158 : decode cX9_law 158 = .ok (.aload_n 0, 1) := by decide +kernel
theorem dX9_law_159 : decode cX9_law 159 = .ok (.getfield 47, 3) := by decide +kernel
theorem dX9_law_162 : decode cX9_law 162 = .ok (.iload_n 3, 1) := by decide +kernel
theorem dX9_law_163 : decode cX9_law 163 = .ok (.aload_n 0, 1) := by decide +kernel
theorem dX9_law_164 : decode cX9_law 164 = .ok (.getfield 32, 3) := by decide +kernel
theorem dX9_law_167 : decode cX9_law 167 = .ok (.iload_n 3, 1) := by decide +kernel
theorem dX9_law_168 : decode cX9_law 168 = .ok (.iaload, 1) := by decide +kernel
theorem dX9_law_169 : decode cX9_law 169 = .ok (.iastore, 1) := by decide +kernel
theorem dX9_law_170 : decode cX9_law 170 = .ok (.aload_n 0, 1) := by decide +kernel
theorem dX9_law_171 : decode cX9_law 171 = .ok (.getfield 50, 3) := by decide +kernel
theorem dX9_law_174 : decode cX9_law 174 = .ok (.iload_n 3, 1) := by decide +kernel
theorem dX9_law_175 : decode cX9_law 175 = .ok (.aload_n 0, 1) := by decide +kernel
theorem dX9_law_176 : decode cX9_law 176 = .ok (.getfield 35, 3) := by decide +kernel
theorem dX9_law_179 : decode cX9_law 179 = .ok (.iload_n 3, 1) := by decide +kernel
theorem dX9_law_180 : decode cX9_law 180 = .ok (.iaload, 1) := by decide +kernel
theorem dX9_law_181 : decode cX9_law 181 = .ok (.iastore, 1) := by decide +kernel
theorem dX9_law_182 : decode cX9_law 182 = .ok (.aload_n 0, 1) := by decide +kernel
theorem dX9_law_183 : decode cX9_law 183 = .ok (.getfield 53, 3) := by decide +kernel
theorem dX9_law_186 : decode cX9_law 186 = .ok (.iload_n 3, 1) := by decide +kernel
theorem dX9_law_187 : decode cX9_law 187 = .ok (.aload_n 0, 1) := by decide +kernel
theorem dX9_law_188 : decode cX9_law 188 = .ok (.getfield 38, 3) := by decide +kernel
theorem dX9_law_191 : decode cX9_law 191 = .ok (.iload_n 3, 1) := by decide +kernel
theorem dX9_law_192 : decode cX9_law 192 = .ok (.iaload, 1) := by decide +kernel
theorem dX9_law_193 : decode cX9_law 193 = .ok (.iastore, 1) := by decide +kernel
theorem dX9_law_194 : decode cX9_law 194 = .ok (.iinc 3 1, 3) := by decide +kernel
theorem dX9_law_197 : decode cX9_law 197 = .ok (.goto (-59), 3) := by decide +kernel
theorem dX9_law_200 : decode cX9_law 200 = .ok (.aload_n 0, 1) := by decide +kernel
theorem dX9_law_201 : decode cX9_law 201 = .ok (.getfield 203, 3) := by decide +kernel
theorem dX9_law_204 : decode cX9_law 204 = .ok (.ireturn, 1) := by decide +kernel
theorem dX9_reckon_0 : decode cX9_reckon 0 = .ok (.iload_n 0, 1) := by decide +kernel
theorem dX9_reckon_1 : decode cX9_reckon 1 = .ok (.tableswitch 85 2 8 #[43, 47, 51, 55, 59, 63, 74], 43) := by decide +kernel
theorem dX9_reckon_44 : decode cX9_reckon 44 = .ok (.iload_n 1, 1) := by decide +kernel
theorem dX9_reckon_45 : decode cX9_reckon 45 = .ok (.iload_n 2, 1) := by decide +kernel
theorem dX9_reckon_46 : decode cX9_reckon 46 = .ok (.iadd, 1) := by decide +kernel
theorem dX9_reckon_47 : decode cX9_reckon 47 = .ok (.ireturn, 1) := by decide +kernel
theorem dX9_reckon_48 : decode cX9_reckon 48 = .ok (.iload_n 1, 1) := by decide +kernel
theorem dX9_reckon_49 : decode cX9_reckon 49 = .ok (.iload_n 2, 1) := by decide +kernel
theorem dX9_reckon_50 : decode cX9_reckon 50 = .ok (.isub, 1) := by decide +kernel
theorem dX9_reckon_51 : decode cX9_reckon 51 = .ok (.ireturn, 1) := by decide +kernel
theorem dX9_reckon_52 : decode cX9_reckon 52 = .ok (.iload_n 1, 1) := by decide +kernel
theorem dX9_reckon_53 : decode cX9_reckon 53 = .ok (.iload_n 2, 1) := by decide +kernel
theorem dX9_reckon_54 : decode cX9_reckon 54 = .ok (.imul, 1) := by decide +kernel
theorem dX9_reckon_55 : decode cX9_reckon 55 = .ok (.ireturn, 1) := by decide +kernel
theorem dX9_reckon_56 : decode cX9_reckon 56 = .ok (.iload_n 1, 1) := by decide +kernel
theorem dX9_reckon_57 : decode cX9_reckon 57 = .ok (.iload_n 2, 1) := by decide +kernel
theorem dX9_reckon_58 : decode cX9_reckon 58 = .ok (.idiv, 1) := by decide +kernel
theorem dX9_reckon_59 : decode cX9_reckon 59 = .ok (.ireturn, 1) := by decide +kernel
theorem dX9_reckon_60 : decode cX9_reckon 60 = .ok (.iload_n 1, 1) := by decide +kernel
theorem dX9_reckon_61 : decode cX9_reckon 61 = .ok (.iload_n 2, 1) := by decide +kernel
theorem dX9_reckon_62 : decode cX9_reckon 62 = .ok (.irem, 1) := by decide +kernel
theorem dX9_reckon_63 : decode cX9_reckon 63 = .ok (.ireturn, 1) := by decide +kernel
theorem dX9_reckon_64 : decode cX9_reckon 64 = .ok (.iload_n 1, 1) := by decide +kernel
theorem dX9_reckon_65 : decode cX9_reckon 65 = .ok (.iload_n 2, 1) := by decide +kernel
theorem dX9_reckon_66 : decode cX9_reckon 66 = .ok (.if_icmp .ge 7, 3) := by decide +kernel
theorem dX9_reckon_69 : decode cX9_reckon 69 = .ok (.iconst 1, 1) := by decide +kernel
theorem dX9_reckon_70 : decode cX9_reckon 70 = .ok (.goto 4, 3) := by decide +kernel
theorem dX9_reckon_73 : decode cX9_reckon 73 = .ok (.iconst 0, 1) := by decide +kernel
theorem dX9_reckon_74 : decode cX9_reckon 74 = .ok (.ireturn, 1) := by decide +kernel
theorem dX9_reckon_75 : decode cX9_reckon 75 = .ok (.iload_n 1, 1) := by decide +kernel
theorem dX9_reckon_76 : decode cX9_reckon 76 = .ok (.iload_n 2, 1) := by decide +kernel
theorem dX9_reckon_77 : decode cX9_reckon 77 = .ok (.if_icmp .le 7, 3) := by decide +kernel
theorem dX9_reckon_80 : decode cX9_reckon 80 = .ok (.iconst 1, 1) := by decide +kernel
theorem dX9_reckon_81 : decode cX9_reckon 81 = .ok (.goto 4, 3) := by decide +kernel
theorem dX9_reckon_84 : decode cX9_reckon 84 = .ok (.iconst 0, 1) := by decide +kernel
theorem dX9_reckon_85 : decode cX9_reckon 85 = .ok (.ireturn, 1) := by decide +kernel
theorem dX9_reckon_86 : decode cX9_reckon 86 = .ok (.iload_n 1, 1) := by decide +kernel
theorem dX9_reckon_87 : decode cX9_reckon 87 = .ok (.iload_n 2, 1) := by decide +kernel
theorem dX9_reckon_88 : decode cX9_reckon 88 = .ok (.if_icmp .ne 7, 3) := by decide +kernel
theorem dX9_reckon_91 : decode cX9_reckon 91 = .ok (.iconst 1, 1) := by decide +kernel
theorem dX9_reckon_92 : decode cX9_reckon 92 = .ok (.goto 4, 3) := by decide +kernel
theorem dX9_reckon_95 : decode cX9_reckon 95 = .ok (.iconst 0, 1) := by decide +kernel
theorem dX9_reckon_96 : decode cX9_reckon 96 = .ok (.ireturn, 1) := by decide +kernel
theorem dX9_comesTo_0 : decode cX9_comesTo 0 = .ok (.iconst 0, 1) := by decide +kernel
theorem dX9_comesTo_1 : decode cX9_comesTo 1 = .ok (.istore_n 3, 1) := by decide +kernel
theorem dX9_comesTo_2 : decode cX9_comesTo 2 = .ok (.sipush 260, 3) := by decide +kernel
theorem dX9_comesTo_5 : decode cX9_comesTo 5 = .ok (.iload_n 1, 1) := by decide +kernel
theorem dX9_comesTo_6 : decode cX9_comesTo 6 = .ok (.sipush 260, 3) := by decide +kernel
theorem dX9_comesTo_9 : decode cX9_comesTo 9 = .ok (.idiv, 1) := by decide +kernel
theorem dX9_comesTo_10 : decode cX9_comesTo 10 = .ok (.imul, 1) := by decide +kernel
theorem dX9_comesTo_11 : decode cX9_comesTo 11 = .ok (.istore 4, 2) := by decide +kernel
theorem dX9_comesTo_13 : decode cX9_comesTo 13 = .ok (.iload_n 1, 1) := by decide +kernel
theorem dX9_comesTo_14 : decode cX9_comesTo 14 = .ok (.istore 5, 2) := by decide +kernel
theorem dX9_comesTo_16 : decode cX9_comesTo 16 = .ok (.iload 5, 2) := by decide +kernel
theorem dX9_comesTo_18 : decode cX9_comesTo 18 = .ok (.iload_n 2, 1) := by decide +kernel
theorem dX9_comesTo_19 : decode cX9_comesTo 19 = .ok (.if_icmp .ge 214, 3) := by decide +kernel
theorem dX9_comesTo_22 : decode cX9_comesTo 22 = .ok (.aload_n 0, 1) := by decide +kernel
theorem dX9_comesTo_23 : decode cX9_comesTo 23 = .ok (.getfield 41, 3) := by decide +kernel
theorem dX9_comesTo_26 : decode cX9_comesTo 26 = .ok (.iload 5, 2) := by decide +kernel
theorem dX9_comesTo_28 : decode cX9_comesTo 28 = .ok (.iaload, 1) := by decide +kernel
theorem dX9_comesTo_29 : decode cX9_comesTo 29 = .ok (.ldc 149, 2) := by decide +kernel
theorem dX9_comesTo_31 : decode cX9_comesTo 31 = .ok (.idiv, 1) := by decide +kernel
theorem dX9_comesTo_32 : decode cX9_comesTo 32 = .ok (.istore 6, 2) := by decide +kernel
theorem dX9_comesTo_34 : decode cX9_comesTo 34 = .ok (.aload_n 0, 1) := by decide +kernel
theorem dX9_comesTo_35 : decode cX9_comesTo 35 = .ok (.getfield 41, 3) := by decide +kernel
theorem dX9_comesTo_38 : decode cX9_comesTo 38 = .ok (.iload 5, 2) := by decide +kernel
theorem dX9_comesTo_40 : decode cX9_comesTo 40 = .ok (.iaload, 1) := by decide +kernel
theorem dX9_comesTo_41 : decode cX9_comesTo 41 = .ok (.ldc 149, 2) := by decide +kernel
theorem dX9_comesTo_43 : decode cX9_comesTo 43 = .ok (.irem, 1) := by decide +kernel
theorem dX9_comesTo_44 : decode cX9_comesTo 44 = .ok (.istore 7, 2) := by decide +kernel
theorem dX9_comesTo_46 : decode cX9_comesTo 46 = .ok (.iload 5, 2) := by decide +kernel
theorem dX9_comesTo_48 : decode cX9_comesTo 48 = .ok (.iconst 1, 1) := by decide +kernel
theorem dX9_comesTo_49 : decode cX9_comesTo 49 = .ok (.iadd, 1) := by decide +kernel
theorem dX9_comesTo_50 : decode cX9_comesTo 50 = .ok (.istore 5, 2) := by decide +kernel
theorem dX9_comesTo_52 : decode cX9_comesTo 52 = .ok (.iload 6, 2) := by decide +kernel
theorem dX9_comesTo_54 : decode cX9_comesTo 54 = .ok (.ifCond .eq 9, 3) := by decide +kernel
theorem dX9_comesTo_57 : decode cX9_comesTo 57 = .ok (.iload 6, 2) := by decide +kernel
theorem dX9_comesTo_59 : decode cX9_comesTo 59 = .ok (.iconst 1, 1) := by decide +kernel
theorem dX9_comesTo_60 : decode cX9_comesTo 60 = .ok (.if_icmp .ne 33, 3) := by decide +kernel
theorem dX9_comesTo_63 : decode cX9_comesTo 63 = .ok (.aload_n 0, 1) := by decide +kernel
theorem dX9_comesTo_64 : decode cX9_comesTo 64 = .ok (.getfield 56, 3) := by decide +kernel
theorem dX9_comesTo_67 : decode cX9_comesTo 67 = .ok (.iload_n 3, 1) := by decide +kernel
theorem dX9_comesTo_68 : decode cX9_comesTo 68 = .ok (.iload 6, 2) := by decide +kernel
theorem dX9_comesTo_70 : decode cX9_comesTo 70 = .ok (.ifCond .ne 8, 3) := by decide +kernel
theorem dX9_comesTo_73 : decode cX9_comesTo 73 = .ok (.iload 7, 2) := by decide +kernel
theorem dX9_comesTo_75 : decode cX9_comesTo 75 = .ok (.goto 10, 3) := by decide +kernel
theorem dX9_comesTo_78 : decode cX9_comesTo 78 = .ok (.aload_n 0, 1) := by decide +kernel
theorem dX9_comesTo_79 : decode cX9_comesTo 79 = .ok (.getfield 59, 3) := by decide +kernel
theorem dX9_comesTo_82 : decode cX9_comesTo 82 = .ok (.iload 7, 2) := by decide +kernel
theorem dX9_comesTo_84 : decode cX9_comesTo 84 = .ok (.iaload, 1) := by decide +kernel
theorem dX9_comesTo_85 : decode cX9_comesTo 85 = .ok (.iastore, 1) := by decide +kernel
theorem dX9_comesTo_86 : decode cX9_comesTo 86 = .ok (.iload_n 3, 1) := by decide +kernel
theorem dX9_comesTo_87 : decode cX9_comesTo 87 = .ok (.iconst 1, 1) := by decide +kernel
theorem dX9_comesTo_88 : decode cX9_comesTo 88 = .ok (.iadd, 1) := by decide +kernel
theorem dX9_comesTo_89 : decode cX9_comesTo 89 = .ok (.istore_n 3, 1) := by decide +kernel
theorem dX9_comesTo_90 : decode cX9_comesTo 90 = .ok (.goto 140, 3) := by decide +kernel
theorem dX9_comesTo_93 : decode cX9_comesTo 93 = .ok (.iload 6, 2) := by decide +kernel
theorem dX9_comesTo_95 : decode cX9_comesTo 95 = .ok (.bipush 10, 2) := by decide +kernel
theorem dX9_comesTo_97 : decode cX9_comesTo 97 = .ok (.if_icmp .ne 24, 3) := by decide +kernel
theorem dX9_comesTo_100 : decode cX9_comesTo 100 = .ok (.aload_n 0, 1) := by decide +kernel
theorem dX9_comesTo_101 : decode cX9_comesTo 101 = .ok (.getfield 56, 3) := by decide +kernel
theorem dX9_comesTo_104 : decode cX9_comesTo 104 = .ok (.iload_n 3, 1) := by decide +kernel
theorem dX9_comesTo_105 : decode cX9_comesTo 105 = .ok (.iconst 1, 1) := by decide +kernel
theorem dX9_comesTo_106 : decode cX9_comesTo 106 = .ok (.isub, 1) := by decide +kernel
theorem dX9_comesTo_107 : decode cX9_comesTo 107 = .ok (.iconst 1, 1) := by decide +kernel
theorem dX9_comesTo_108 : decode cX9_comesTo 108 = .ok (.aload_n 0, 1) := by decide +kernel
theorem dX9_comesTo_109 : decode cX9_comesTo 109 = .ok (.getfield 56, 3) := by decide +kernel
theorem dX9_comesTo_112 : decode cX9_comesTo 112 = .ok (.iload_n 3, 1) := by decide +kernel
theorem dX9_comesTo_113 : decode cX9_comesTo 113 = .ok (.iconst 1, 1) := by decide +kernel
theorem dX9_comesTo_114 : decode cX9_comesTo 114 = .ok (.isub, 1) := by decide +kernel
theorem dX9_comesTo_115 : decode cX9_comesTo 115 = .ok (.iaload, 1) := by decide +kernel
theorem dX9_comesTo_116 : decode cX9_comesTo 116 = .ok (.isub, 1) := by decide +kernel
theorem dX9_comesTo_117 : decode cX9_comesTo 117 = .ok (.iastore, 1) := by decide +kernel
theorem dX9_comesTo_118 : decode cX9_comesTo 118 = .ok (.goto 112, 3) := by decide +kernel
theorem dX9_comesTo_121 : decode cX9_comesTo 121 = .ok (.iload 6, 2) := by decide +kernel
theorem dX9_comesTo_123 : decode cX9_comesTo 123 = .ok (.bipush 11, 2) := by decide +kernel
theorem dX9_comesTo_125 : decode cX9_comesTo 125 = .ok (.if_icmp .eq 10, 3) := by decide +kernel
theorem dX9_comesTo_128 : decode cX9_comesTo 128 = .ok (.iload 6, 2) := by decide +kernel
theorem dX9_comesTo_130 : decode cX9_comesTo 130 = .ok (.bipush 12, 2) := by decide +kernel
theorem dX9_comesTo_132 : decode cX9_comesTo 132 = .ok (.if_icmp .ne 43, 3) := by decide +kernel
theorem dX9_comesTo_135 : decode cX9_comesTo 135 = .ok (.aload_n 0, 1) := by decide +kernel
theorem dX9_comesTo_136 : decode cX9_comesTo 136 = .ok (.getfield 56, 3) := by decide +kernel
theorem dX9_comesTo_139 : decode cX9_comesTo 139 = .ok (.iload_n 3, 1) := by decide +kernel
theorem dX9_comesTo_140 : decode cX9_comesTo 140 = .ok (.iconst 1, 1) := by decide +kernel
theorem dX9_comesTo_141 : decode cX9_comesTo 141 = .ok (.isub, 1) := by decide +kernel
theorem dX9_comesTo_142 : decode cX9_comesTo 142 = .ok (.iaload, 1) := by decide +kernel
theorem dX9_comesTo_143 : decode cX9_comesTo 143 = .ok (.iload 6, 2) := by decide +kernel
theorem dX9_comesTo_145 : decode cX9_comesTo 145 = .ok (.bipush 12, 2) := by decide +kernel
theorem dX9_comesTo_147 : decode cX9_comesTo 147 = .ok (.if_icmp .ne 7, 3) := by decide +kernel
theorem dX9_comesTo_150 : decode cX9_comesTo 150 = .ok (.iconst 1, 1) := by decide +kernel
theorem dX9_comesTo_151 : decode cX9_comesTo 151 = .ok (.goto 4, 3) := by decide +kernel
theorem dX9_comesTo_154 : decode cX9_comesTo 154 = .ok (.iconst 0, 1) := by decide +kernel
theorem dX9_comesTo_155 : decode cX9_comesTo 155 = .ok (.if_icmp .ne 13, 3) := by decide +kernel
theorem dX9_comesTo_158 : decode cX9_comesTo 158 = .ok (.iload 4, 2) := by decide +kernel
theorem dX9_comesTo_160 : decode cX9_comesTo 160 = .ok (.iload 7, 2) := by decide +kernel
theorem dX9_comesTo_162 : decode cX9_comesTo 162 = .ok (.iadd, 1) := by decide +kernel
theorem dX9_comesTo_163 : decode cX9_comesTo 163 = .ok (.istore 5, 2) := by decide +kernel
theorem dX9_comesTo_165 : decode cX9_comesTo 165 = .ok (.goto 65, 3) := by decide +kernel
theorem dX9_comesTo_168 : decode cX9_comesTo 168 = .ok (.iload_n 3, 1) := by decide +kernel
theorem dX9_comesTo_169 : decode cX9_comesTo 169 = .ok (.iconst 1, 1) := by decide +kernel
theorem dX9_comesTo_170 : decode cX9_comesTo 170 = .ok (.isub, 1) := by decide +kernel
theorem dX9_comesTo_171 : decode cX9_comesTo 171 = .ok (.istore_n 3, 1) := by decide +kernel
theorem dX9_comesTo_172 : decode cX9_comesTo 172 = .ok (.goto 58, 3) := by decide +kernel
theorem dX9_comesTo_175 : decode cX9_comesTo 175 = .ok (.iload_n 3, 1) := by decide +kernel
theorem dX9_comesTo_176 : decode cX9_comesTo 176 = .ok (.iconst 1, 1) := by decide +kernel
theorem dX9_comesTo_177 : decode cX9_comesTo 177 = .ok (.isub, 1) := by decide +kernel
theorem dX9_comesTo_178 : decode cX9_comesTo 178 = .ok (.istore_n 3, 1) := by decide +kernel
theorem dX9_comesTo_179 : decode cX9_comesTo 179 = .ok (.iload 6, 2) := by decide +kernel
theorem dX9_comesTo_181 : decode cX9_comesTo 181 = .ok (.iconst 5, 1) := by decide +kernel
theorem dX9_comesTo_182 : decode cX9_comesTo 182 = .ok (.if_icmp .eq 10, 3) := by decide +kernel
theorem dX9_comesTo_185 : decode cX9_comesTo 185 = .ok (.iload 6, 2) := by decide +kernel
theorem dX9_comesTo_187 : decode cX9_comesTo 187 = .ok (.bipush 6, 2) := by decide +kernel
theorem dX9_comesTo_189 : decode cX9_comesTo 189 = .ok (.if_icmp .ne 14, 3) := by decide +kernel
theorem dX9_comesTo_192 : decode cX9_comesTo 192 = .ok (.aload_n 0, 1) := by decide +kernel
theorem dX9_comesTo_193 : decode cX9_comesTo 193 = .ok (.getfield 56, 3) := by decide +kernel
theorem dX9_comesTo_196 : decode cX9_comesTo 196 = .ok (.iload_n 3, 1) := by decide +kernel
theorem dX9_comesTo_197 : decode cX9_comesTo 197 = .ok (.iaload, 1) := by decide +kernel
theorem dX9_comesTo_198 : decode cX9_comesTo 198 = .ok (.ifCond .ne 5, 3) := by decide +kernel
theorem dX9_comesTo_201 : decode cX9_comesTo 201 = .ok (.iconst 0, 1) := by decide +kernel
theorem dX9_comesTo_202 : decode cX9_comesTo 202 = .ok (.ireturn, 1) := by decide +kernel
theorem dX9_comesTo_203 : decode cX9_comesTo 203 = .ok (.aload_n 0, 1) := by decide +kernel
theorem dX9_comesTo_204 : decode cX9_comesTo 204 = .ok (.getfield 56, 3) := by decide +kernel
theorem dX9_comesTo_207 : decode cX9_comesTo 207 = .ok (.iload_n 3, 1) := by decide +kernel
theorem dX9_comesTo_208 : decode cX9_comesTo 208 = .ok (.iconst 1, 1) := by decide +kernel
theorem dX9_comesTo_209 : decode cX9_comesTo 209 = .ok (.isub, 1) := by decide +kernel
theorem dX9_comesTo_210 : decode cX9_comesTo 210 = .ok (.iload 6, 2) := by decide +kernel
theorem dX9_comesTo_212 : decode cX9_comesTo 212 = .ok (.aload_n 0, 1) := by decide +kernel
theorem dX9_comesTo_213 : decode cX9_comesTo 213 = .ok (.getfield 56, 3) := by decide +kernel
theorem dX9_comesTo_216 : decode cX9_comesTo 216 = .ok (.iload_n 3, 1) := by decide +kernel
theorem dX9_comesTo_217 : decode cX9_comesTo 217 = .ok (.iconst 1, 1) := by decide +kernel
theorem dX9_comesTo_218 : decode cX9_comesTo 218 = .ok (.isub, 1) := by decide +kernel
theorem dX9_comesTo_219 : decode cX9_comesTo 219 = .ok (.iaload, 1) := by decide +kernel
theorem dX9_comesTo_220 : decode cX9_comesTo 220 = .ok (.aload_n 0, 1) := by decide +kernel
theorem dX9_comesTo_221 : decode cX9_comesTo 221 = .ok (.getfield 56, 3) := by decide +kernel
theorem dX9_comesTo_224 : decode cX9_comesTo 224 = .ok (.iload_n 3, 1) := by decide +kernel
theorem dX9_comesTo_225 : decode cX9_comesTo 225 = .ok (.iaload, 1) := by decide +kernel
theorem dX9_comesTo_226 : decode cX9_comesTo 226 = .ok (.invokestatic 218, 3) := by decide +kernel
theorem dX9_comesTo_229 : decode cX9_comesTo 229 = .ok (.iastore, 1) := by decide +kernel
theorem dX9_comesTo_230 : decode cX9_comesTo 230 = .ok (.goto (-214), 3) := by decide +kernel
theorem dX9_comesTo_233 : decode cX9_comesTo 233 = .ok (.aload_n 0, 1) := by decide +kernel
theorem dX9_comesTo_234 : decode cX9_comesTo 234 = .ok (.getfield 56, 3) := by decide +kernel
theorem dX9_comesTo_237 : decode cX9_comesTo 237 = .ok (.iconst 0, 1) := by decide +kernel
theorem dX9_comesTo_238 : decode cX9_comesTo 238 = .ok (.iaload, 1) := by decide +kernel
theorem dX9_comesTo_239 : decode cX9_comesTo 239 = .ok (.ireturn, 1) := by decide +kernel
theorem dX9_byLaw_0 : decode cX9_byLaw 0 = .ok (.iconst 0, 1) := by decide +kernel
theorem dX9_byLaw_1 : decode cX9_byLaw 1 = .ok (.istore 4, 2) := by decide +kernel
theorem dX9_byLaw_3 : decode cX9_byLaw 3 = .ok (.iload 4, 2) := by decide +kernel
theorem dX9_byLaw_5 : decode cX9_byLaw 5 = .ok (.aload_n 0, 1) := by decide +kernel
theorem dX9_byLaw_6 : decode cX9_byLaw 6 = .ok (.getfield 215, 3) := by decide +kernel
theorem dX9_byLaw_9 : decode cX9_byLaw 9 = .ok (.if_icmp .ge 88, 3) := by decide +kernel
theorem dX9_byLaw_12 : decode cX9_byLaw 12 = .ok (.aload_n 0, 1) := by decide +kernel
theorem dX9_byLaw_13 : decode cX9_byLaw 13 = .ok (.getfield 44, 3) := by decide +kernel
theorem dX9_byLaw_16 : decode cX9_byLaw 16 = .ok (.iload 4, 2) := by decide +kernel
theorem dX9_byLaw_18 : decode cX9_byLaw 18 = .ok (.iaload, 1) := by decide +kernel
theorem dX9_byLaw_19 : decode cX9_byLaw 19 = .ok (.iload_n 1, 1) := by decide +kernel
theorem dX9_byLaw_20 : decode cX9_byLaw 20 = .ok (.if_icmp .ne 71, 3) := by decide +kernel
theorem dX9_byLaw_23 : decode cX9_byLaw 23 = .ok (.aload_n 0, 1) := by decide +kernel
theorem dX9_byLaw_24 : decode cX9_byLaw 24 = .ok (.aload_n 0, 1) := by decide +kernel
theorem dX9_byLaw_25 : decode cX9_byLaw 25 = .ok (.getfield 50, 3) := by decide +kernel
theorem dX9_byLaw_28 : decode cX9_byLaw 28 = .ok (.iload 4, 2) := by decide +kernel
theorem dX9_byLaw_30 : decode cX9_byLaw 30 = .ok (.iaload, 1) := by decide +kernel
theorem dX9_byLaw_31 : decode cX9_byLaw 31 = .ok (.aload_n 0, 1) := by decide +kernel
theorem dX9_byLaw_32 : decode cX9_byLaw 32 = .ok (.getfield 53, 3) := by decide +kernel
theorem dX9_byLaw_35 : decode cX9_byLaw 35 = .ok (.iload 4, 2) := by decide +kernel
theorem dX9_byLaw_37 : decode cX9_byLaw 37 = .ok (.iaload, 1) := by decide +kernel
theorem dX9_byLaw_38 : decode cX9_byLaw 38 = .ok (.invokevirtual 222, 3) := by decide +kernel
theorem dX9_byLaw_41 : decode cX9_byLaw 41 = .ok (.iconst 1, 1) := by decide +kernel
theorem dX9_byLaw_42 : decode cX9_byLaw 42 = .ok (.if_icmp .eq 6, 3) := by decide +kernel
theorem dX9_byLaw_45 : decode cX9_byLaw 45 = .ok (.goto 46, 3) := by decide +kernel
theorem dX9_byLaw_48 : decode cX9_byLaw 48 = .ok (.aload_n 0, 1) := by decide +kernel
theorem dX9_byLaw_49 : decode cX9_byLaw 49 = .ok (.aload_n 0, 1) := by decide +kernel
theorem dX9_byLaw_50 : decode cX9_byLaw 50 = .ok (.getfield 47, 3) := by decide +kernel
theorem dX9_byLaw_53 : decode cX9_byLaw 53 = .ok (.iload 4, 2) := by decide +kernel
theorem dX9_byLaw_55 : decode cX9_byLaw 55 = .ok (.iaload, 1) := by decide +kernel
theorem dX9_byLaw_56 : decode cX9_byLaw 56 = .ok (.aload_n 0, 1) := by decide +kernel
theorem dX9_byLaw_57 : decode cX9_byLaw 57 = .ok (.getfield 50, 3) := by decide +kernel
theorem dX9_byLaw_60 : decode cX9_byLaw 60 = .ok (.iload 4, 2) := by decide +kernel
theorem dX9_byLaw_62 : decode cX9_byLaw 62 = .ok (.iaload, 1) := by decide +kernel
theorem dX9_byLaw_63 : decode cX9_byLaw 63 = .ok (.invokevirtual 222, 3) := by decide +kernel
theorem dX9_byLaw_66 : decode cX9_byLaw 66 = .ok (.istore 5, 2) := by decide +kernel
theorem dX9_byLaw_68 : decode cX9_byLaw 68 = .ok (.iload 5, 2) := by decide +kernel
theorem dX9_byLaw_70 : decode cX9_byLaw 70 = .ok (.iload_n 2, 1) := by decide +kernel
theorem dX9_byLaw_71 : decode cX9_byLaw 71 = .ok (.if_icmp .ge 7, 3) := by decide +kernel
theorem dX9_byLaw_74 : decode cX9_byLaw 74 = .ok (.iload_n 2, 1) := by decide +kernel
theorem dX9_byLaw_75 : decode cX9_byLaw 75 = .ok (.goto 15, 3) := by decide +kernel
theorem dX9_byLaw_78 : decode cX9_byLaw 78 = .ok (.iload 5, 2) := by decide +kernel
theorem dX9_byLaw_80 : decode cX9_byLaw 80 = .ok (.iload_n 3, 1) := by decide +kernel
theorem dX9_byLaw_81 : decode cX9_byLaw 81 = .ok (.if_icmp .le 7, 3) := by decide +kernel
theorem dX9_byLaw_84 : decode cX9_byLaw 84 = .ok (.iload_n 3, 1) := by decide +kernel
theorem dX9_byLaw_85 : decode cX9_byLaw 85 = .ok (.goto 5, 3) := by decide +kernel
theorem dX9_byLaw_88 : decode cX9_byLaw 88 = .ok (.iload 5, 2) := by decide +kernel
theorem dX9_byLaw_90 : decode cX9_byLaw 90 = .ok (.ireturn, 1) := by decide +kernel
theorem dX9_byLaw_91 : decode cX9_byLaw 91 = .ok (.iinc 4 1, 3) := by decide +kernel
theorem dX9_byLaw_94 : decode cX9_byLaw 94 = .ok (.goto (-91), 3) := by decide +kernel
theorem dX9_byLaw_97 : decode cX9_byLaw 97 = .ok (.iconst 0, 1) := by decide +kernel
theorem dX9_byLaw_98 : decode cX9_byLaw 98 = .ok (.ireturn, 1) := by decide +kernel
theorem dX9_feels_0 : decode cX9_feels 0 = .ok (.iconst 0, 1) := by decide +kernel
theorem dX9_feels_1 : decode cX9_feels 1 = .ok (.istore_n 1, 1) := by decide +kernel
theorem dX9_feels_2 : decode cX9_feels 2 = .ok (.iload_n 1, 1) := by decide +kernel
theorem dX9_feels_3 : decode cX9_feels 3 = .ok (.bipush 15, 2) := by decide +kernel
theorem dX9_feels_5 : decode cX9_feels 5 = .ok (.if_icmp .ge 16, 3) := by decide +kernel
theorem dX9_feels_8 : decode cX9_feels 8 = .ok (.aload_n 0, 1) := by decide +kernel
theorem dX9_feels_9 : decode cX9_feels 9 = .ok (.getfield 59, 3) := by decide +kernel
theorem dX9_feels_12 : decode cX9_feels 12 = .ok (.iload_n 1, 1) := by decide +kernel
theorem dX9_feels_13 : decode cX9_feels 13 = .ok (.iconst 0, 1) := by decide +kernel
theorem dX9_feels_14 : decode cX9_feels 14 = .ok (.iastore, 1) := by decide +kernel
theorem dX9_feels_15 : decode cX9_feels 15 = .ok (.iinc 1 1, 3) := by decide +kernel
theorem dX9_feels_18 : decode cX9_feels 18 = .ok (.goto (-16), 3) := by decide +kernel
theorem dX9_feels_21 : decode cX9_feels 21 = .ok (.aload_n 0, 1) := by decide +kernel
theorem dX9_feels_22 : decode cX9_feels 22 = .ok (.getfield 59, 3) := by decide +kernel
theorem dX9_feels_25 : decode cX9_feels 25 = .ok (.iconst 0, 1) := by decide +kernel
theorem dX9_feels_26 : decode cX9_feels 26 = .ok (.aload_n 0, 1) := by decide +kernel
theorem dX9_feels_27 : decode cX9_feels 27 = .ok (.getfield 7, 3) := by decide +kernel
theorem dX9_feels_30 : decode cX9_feels 30 = .ok (.sipush 328, 3) := by decide +kernel
theorem dX9_feels_33 : decode cX9_feels 33 = .ok (.iaload, 1) := by decide +kernel
theorem dX9_feels_34 : decode cX9_feels 34 = .ok (.iastore, 1) := by decide +kernel
theorem dX9_feels_35 : decode cX9_feels 35 = .ok (.aload_n 0, 1) := by decide +kernel
theorem dX9_feels_36 : decode cX9_feels 36 = .ok (.getfield 59, 3) := by decide +kernel
theorem dX9_feels_39 : decode cX9_feels 39 = .ok (.iconst 1, 1) := by decide +kernel
theorem dX9_feels_40 : decode cX9_feels 40 = .ok (.aload_n 0, 1) := by decide +kernel
theorem dX9_feels_41 : decode cX9_feels 41 = .ok (.getfield 7, 3) := by decide +kernel
theorem dX9_feels_44 : decode cX9_feels 44 = .ok (.sipush 327, 3) := by decide +kernel
theorem dX9_feels_47 : decode cX9_feels 47 = .ok (.iaload, 1) := by decide +kernel
theorem dX9_feels_48 : decode cX9_feels 48 = .ok (.iastore, 1) := by decide +kernel
theorem dX9_feels_49 : decode cX9_feels 49 = .ok (.return_, 1) := by decide +kernel
theorem dX9_isClouded_0 : decode cX9_isClouded 0 = .ok (.aload_n 0, 1) := by decide +kernel
theorem dX9_isClouded_1 : decode cX9_isClouded 1 = .ok (.getfield 7, 3) := by decide +kernel
theorem dX9_isClouded_4 : decode cX9_isClouded 4 = .ok (.sipush 329, 3) := by decide +kernel
theorem dX9_isClouded_7 : decode cX9_isClouded 7 = .ok (.iaload, 1) := by decide +kernel
theorem dX9_isClouded_8 : decode cX9_isClouded 8 = .ok (.aload_n 0, 1) := by decide +kernel
theorem dX9_isClouded_9 : decode cX9_isClouded 9 = .ok (.getfield 7, 3) := by decide +kernel
theorem dX9_isClouded_12 : decode cX9_isClouded 12 = .ok (.sipush 328, 3) := by decide +kernel
theorem dX9_isClouded_15 : decode cX9_isClouded 15 = .ok (.iaload, 1) := by decide +kernel
theorem dX9_isClouded_16 : decode cX9_isClouded 16 = .ok (.invokestatic 226, 3) := by decide +kernel
theorem dX9_isClouded_19 : decode cX9_isClouded 19 = .ok (.ireturn, 1) := by decide +kernel
theorem dX9_feelsHerd_0 : decode cX9_feelsHerd 0 = .ok (.aload_n 0, 1) := by decide +kernel
theorem dX9_feelsHerd_1 : decode cX9_feelsHerd 1 = .ok (.invokevirtual 229, 3) := by decide +kernel
theorem dX9_feelsHerd_4 : decode cX9_feelsHerd 4 = .ok (.aload_n 0, 1) := by decide +kernel
theorem dX9_feelsHerd_5 : decode cX9_feelsHerd 5 = .ok (.getfield 59, 3) := by decide +kernel
theorem dX9_feelsHerd_8 : decode cX9_feelsHerd 8 = .ok (.iconst 2, 1) := by decide +kernel
theorem dX9_feelsHerd_9 : decode cX9_feelsHerd 9 = .ok (.iload_n 1, 1) := by decide +kernel
theorem dX9_feelsHerd_10 : decode cX9_feelsHerd 10 = .ok (.iastore, 1) := by decide +kernel
theorem dX9_feelsHerd_11 : decode cX9_feelsHerd 11 = .ok (.aload_n 0, 1) := by decide +kernel
theorem dX9_feelsHerd_12 : decode cX9_feelsHerd 12 = .ok (.getfield 59, 3) := by decide +kernel
theorem dX9_feelsHerd_15 : decode cX9_feelsHerd 15 = .ok (.iconst 3, 1) := by decide +kernel
theorem dX9_feelsHerd_16 : decode cX9_feelsHerd 16 = .ok (.aload_n 0, 1) := by decide +kernel
theorem dX9_feelsHerd_17 : decode cX9_feelsHerd 17 = .ok (.getfield 7, 3) := by decide +kernel
theorem dX9_feelsHerd_20 : decode cX9_feelsHerd 20 = .ok (.sipush 280, 3) := by decide +kernel
theorem dX9_feelsHerd_23 : decode cX9_feelsHerd 23 = .ok (.iload_n 1, 1) := by decide +kernel
theorem dX9_feelsHerd_24 : decode cX9_feelsHerd 24 = .ok (.iadd, 1) := by decide +kernel
theorem dX9_feelsHerd_25 : decode cX9_feelsHerd 25 = .ok (.iaload, 1) := by decide +kernel
theorem dX9_feelsHerd_26 : decode cX9_feelsHerd 26 = .ok (.iastore, 1) := by decide +kernel
theorem dX9_feelsHerd_27 : decode cX9_feelsHerd 27 = .ok (.aload_n 0, 1) := by decide +kernel
theorem dX9_feelsHerd_28 : decode cX9_feelsHerd 28 = .ok (.getfield 59, 3) := by decide +kernel
theorem dX9_feelsHerd_31 : decode cX9_feelsHerd 31 = .ok (.iconst 4, 1) := by decide +kernel
theorem dX9_feelsHerd_32 : decode cX9_feelsHerd 32 = .ok (.aload_n 0, 1) := by decide +kernel
theorem dX9_feelsHerd_33 : decode cX9_feelsHerd 33 = .ok (.getfield 7, 3) := by decide +kernel
theorem dX9_feelsHerd_36 : decode cX9_feelsHerd 36 = .ok (.sipush 286, 3) := by decide +kernel
theorem dX9_feelsHerd_39 : decode cX9_feelsHerd 39 = .ok (.iload_n 1, 1) := by decide +kernel
theorem dX9_feelsHerd_40 : decode cX9_feelsHerd 40 = .ok (.iadd, 1) := by decide +kernel
theorem dX9_feelsHerd_41 : decode cX9_feelsHerd 41 = .ok (.iaload, 1) := by decide +kernel
theorem dX9_feelsHerd_42 : decode cX9_feelsHerd 42 = .ok (.iastore, 1) := by decide +kernel
theorem dX9_feelsHerd_43 : decode cX9_feelsHerd 43 = .ok (.aload_n 0, 1) := by decide +kernel
theorem dX9_feelsHerd_44 : decode cX9_feelsHerd 44 = .ok (.getfield 59, 3) := by decide +kernel
theorem dX9_feelsHerd_47 : decode cX9_feelsHerd 47 = .ok (.iconst 5, 1) := by decide +kernel
theorem dX9_feelsHerd_48 : decode cX9_feelsHerd 48 = .ok (.aload_n 0, 1) := by decide +kernel
theorem dX9_feelsHerd_49 : decode cX9_feelsHerd 49 = .ok (.getfield 7, 3) := by decide +kernel
theorem dX9_feelsHerd_52 : decode cX9_feelsHerd 52 = .ok (.sipush 292, 3) := by decide +kernel
theorem dX9_feelsHerd_55 : decode cX9_feelsHerd 55 = .ok (.iload_n 1, 1) := by decide +kernel
theorem dX9_feelsHerd_56 : decode cX9_feelsHerd 56 = .ok (.iadd, 1) := by decide +kernel
theorem dX9_feelsHerd_57 : decode cX9_feelsHerd 57 = .ok (.iaload, 1) := by decide +kernel
theorem dX9_feelsHerd_58 : decode cX9_feelsHerd 58 = .ok (.iastore, 1) := by decide +kernel
theorem dX9_feelsHerd_59 : decode cX9_feelsHerd 59 = .ok (.aload_n 0, 1) := by decide +kernel
theorem dX9_feelsHerd_60 : decode cX9_feelsHerd 60 = .ok (.getfield 59, 3) := by decide +kernel
theorem dX9_feelsHerd_63 : decode cX9_feelsHerd 63 = .ok (.bipush 6, 2) := by decide +kernel
theorem dX9_feelsHerd_65 : decode cX9_feelsHerd 65 = .ok (.aload_n 0, 1) := by decide +kernel
theorem dX9_feelsHerd_66 : decode cX9_feelsHerd 66 = .ok (.getfield 7, 3) := by decide +kernel
theorem dX9_feelsHerd_69 : decode cX9_feelsHerd 69 = .ok (.sipush 274, 3) := by decide +kernel
theorem dX9_feelsHerd_72 : decode cX9_feelsHerd 72 = .ok (.iload_n 1, 1) := by decide +kernel
theorem dX9_feelsHerd_73 : decode cX9_feelsHerd 73 = .ok (.iadd, 1) := by decide +kernel
theorem dX9_feelsHerd_74 : decode cX9_feelsHerd 74 = .ok (.iaload, 1) := by decide +kernel
theorem dX9_feelsHerd_75 : decode cX9_feelsHerd 75 = .ok (.bipush 14, 2) := by decide +kernel
theorem dX9_feelsHerd_77 : decode cX9_feelsHerd 77 = .ok (.irem, 1) := by decide +kernel
theorem dX9_feelsHerd_78 : decode cX9_feelsHerd 78 = .ok (.iastore, 1) := by decide +kernel
theorem dX9_feelsHerd_79 : decode cX9_feelsHerd 79 = .ok (.aload_n 0, 1) := by decide +kernel
theorem dX9_feelsHerd_80 : decode cX9_feelsHerd 80 = .ok (.getfield 59, 3) := by decide +kernel
theorem dX9_feelsHerd_83 : decode cX9_feelsHerd 83 = .ok (.bipush 7, 2) := by decide +kernel
theorem dX9_feelsHerd_85 : decode cX9_feelsHerd 85 = .ok (.aload_n 0, 1) := by decide +kernel
theorem dX9_feelsHerd_86 : decode cX9_feelsHerd 86 = .ok (.getfield 7, 3) := by decide +kernel
theorem dX9_feelsHerd_89 : decode cX9_feelsHerd 89 = .ok (.sipush 274, 3) := by decide +kernel
theorem dX9_feelsHerd_92 : decode cX9_feelsHerd 92 = .ok (.iload_n 1, 1) := by decide +kernel
theorem dX9_feelsHerd_93 : decode cX9_feelsHerd 93 = .ok (.iadd, 1) := by decide +kernel
theorem dX9_feelsHerd_94 : decode cX9_feelsHerd 94 = .ok (.iaload, 1) := by decide +kernel
theorem dX9_feelsHerd_95 : decode cX9_feelsHerd 95 = .ok (.bipush 14, 2) := by decide +kernel
theorem dX9_feelsHerd_97 : decode cX9_feelsHerd 97 = .ok (.idiv, 1) := by decide +kernel
theorem dX9_feelsHerd_98 : decode cX9_feelsHerd 98 = .ok (.iastore, 1) := by decide +kernel
theorem dX9_feelsHerd_99 : decode cX9_feelsHerd 99 = .ok (.aload_n 0, 1) := by decide +kernel
theorem dX9_feelsHerd_100 : decode cX9_feelsHerd 100 = .ok (.getfield 59, 3) := by decide +kernel
theorem dX9_feelsHerd_103 : decode cX9_feelsHerd 103 = .ok (.bipush 8, 2) := by decide +kernel
theorem dX9_feelsHerd_105 : decode cX9_feelsHerd 105 = .ok (.aload_n 0, 1) := by decide +kernel
theorem dX9_feelsHerd_106 : decode cX9_feelsHerd 106 = .ok (.getfield 7, 3) := by decide +kernel
theorem dX9_feelsHerd_109 : decode cX9_feelsHerd 109 = .ok (.iconst 0, 1) := by decide +kernel
theorem dX9_feelsHerd_110 : decode cX9_feelsHerd 110 = .ok (.aload_n 0, 1) := by decide +kernel
theorem dX9_feelsHerd_111 : decode cX9_feelsHerd 111 = .ok (.getfield 7, 3) := by decide +kernel
theorem dX9_feelsHerd_114 : decode cX9_feelsHerd 114 = .ok (.sipush 274, 3) := by decide +kernel
theorem dX9_feelsHerd_117 : decode cX9_feelsHerd 117 = .ok (.iload_n 1, 1) := by decide +kernel
theorem dX9_feelsHerd_118 : decode cX9_feelsHerd 118 = .ok (.iadd, 1) := by decide +kernel
theorem dX9_feelsHerd_119 : decode cX9_feelsHerd 119 = .ok (.iaload, 1) := by decide +kernel
theorem dX9_feelsHerd_120 : decode cX9_feelsHerd 120 = .ok (.iadd, 1) := by decide +kernel
theorem dX9_feelsHerd_121 : decode cX9_feelsHerd 121 = .ok (.iaload, 1) := by decide +kernel
theorem dX9_feelsHerd_122 : decode cX9_feelsHerd 122 = .ok (.iastore, 1) := by decide +kernel
theorem dX9_feelsHerd_123 : decode cX9_feelsHerd 123 = .ok (.aload_n 0, 1) := by decide +kernel
theorem dX9_feelsHerd_124 : decode cX9_feelsHerd 124 = .ok (.getfield 59, 3) := by decide +kernel
theorem dX9_feelsHerd_127 : decode cX9_feelsHerd 127 = .ok (.bipush 9, 2) := by decide +kernel
theorem dX9_feelsHerd_129 : decode cX9_feelsHerd 129 = .ok (.aload_n 0, 1) := by decide +kernel
theorem dX9_feelsHerd_130 : decode cX9_feelsHerd 130 = .ok (.invokevirtual 232, 3) := by decide +kernel
theorem dX9_feelsHerd_133 : decode cX9_feelsHerd 133 = .ok (.ifCond .eq 7, 3) := by decide +kernel
theorem dX9_feelsHerd_136 : decode cX9_feelsHerd 136 = .ok (.iconst 1, 1) := by decide +kernel
theorem dX9_feelsHerd_137 : decode cX9_feelsHerd 137 = .ok (.goto 4, 3) := by decide +kernel
theorem dX9_feelsHerd_140 : decode cX9_feelsHerd 140 = .ok (.iconst 0, 1) := by decide +kernel
theorem dX9_feelsHerd_141 : decode cX9_feelsHerd 141 = .ok (.iastore, 1) := by decide +kernel
theorem dX9_feelsHerd_142 : decode cX9_feelsHerd 142 = .ok (.aload_n 0, 1) := by decide +kernel
theorem dX9_feelsHerd_143 : decode cX9_feelsHerd 143 = .ok (.getfield 59, 3) := by decide +kernel
theorem dX9_feelsHerd_146 : decode cX9_feelsHerd 146 = .ok (.bipush 10, 2) := by decide +kernel
theorem dX9_feelsHerd_148 : decode cX9_feelsHerd 148 = .ok (.iload_n 2, 1) := by decide +kernel
theorem dX9_feelsHerd_149 : decode cX9_feelsHerd 149 = .ok (.iastore, 1) := by decide +kernel
theorem dX9_feelsHerd_150 : decode cX9_feelsHerd 150 = .ok (.return_, 1) := by decide +kernel
theorem dX9_pulls_0 : decode cX9_pulls 0 = .ok (.aload_n 0, 1) := by decide +kernel
theorem dX9_pulls_1 : decode cX9_pulls 1 = .ok (.iload_n 1, 1) := by decide +kernel
theorem dX9_pulls_2 : decode cX9_pulls 2 = .ok (.iconst 0, 1) := by decide +kernel
theorem dX9_pulls_3 : decode cX9_pulls 3 = .ok (.invokevirtual 235, 3) := by decide +kernel
theorem dX9_pulls_6 : decode cX9_pulls 6 = .ok (.aload_n 0, 1) := by decide +kernel
theorem dX9_pulls_7 : decode cX9_pulls 7 = .ok (.getfield 59, 3) := by decide +kernel
theorem dX9_pulls_10 : decode cX9_pulls 10 = .ok (.bipush 11, 2) := by decide +kernel
theorem dX9_pulls_12 : decode cX9_pulls 12 = .ok (.iload_n 2, 1) := by decide +kernel
theorem dX9_pulls_13 : decode cX9_pulls 13 = .ok (.iastore, 1) := by decide +kernel
theorem dX9_pulls_14 : decode cX9_pulls 14 = .ok (.aload_n 0, 1) := by decide +kernel
theorem dX9_pulls_15 : decode cX9_pulls 15 = .ok (.getfield 59, 3) := by decide +kernel
theorem dX9_pulls_18 : decode cX9_pulls 18 = .ok (.bipush 12, 2) := by decide +kernel
theorem dX9_pulls_20 : decode cX9_pulls 20 = .ok (.aload_n 0, 1) := by decide +kernel
theorem dX9_pulls_21 : decode cX9_pulls 21 = .ok (.iload_n 2, 1) := by decide +kernel
theorem dX9_pulls_22 : decode cX9_pulls 22 = .ok (.invokevirtual 238, 3) := by decide +kernel
theorem dX9_pulls_25 : decode cX9_pulls 25 = .ok (.iastore, 1) := by decide +kernel
theorem dX9_pulls_26 : decode cX9_pulls 26 = .ok (.aload_n 0, 1) := by decide +kernel
theorem dX9_pulls_27 : decode cX9_pulls 27 = .ok (.getfield 59, 3) := by decide +kernel
theorem dX9_pulls_30 : decode cX9_pulls 30 = .ok (.bipush 13, 2) := by decide +kernel
theorem dX9_pulls_32 : decode cX9_pulls 32 = .ok (.aload_n 0, 1) := by decide +kernel
theorem dX9_pulls_33 : decode cX9_pulls 33 = .ok (.getfield 7, 3) := by decide +kernel
theorem dX9_pulls_36 : decode cX9_pulls 36 = .ok (.sipush 274, 3) := by decide +kernel
theorem dX9_pulls_39 : decode cX9_pulls 39 = .ok (.iload_n 1, 1) := by decide +kernel
theorem dX9_pulls_40 : decode cX9_pulls 40 = .ok (.iadd, 1) := by decide +kernel
theorem dX9_pulls_41 : decode cX9_pulls 41 = .ok (.iaload, 1) := by decide +kernel
theorem dX9_pulls_42 : decode cX9_pulls 42 = .ok (.aload_n 0, 1) := by decide +kernel
theorem dX9_pulls_43 : decode cX9_pulls 43 = .ok (.iload_n 2, 1) := by decide +kernel
theorem dX9_pulls_44 : decode cX9_pulls 44 = .ok (.invokevirtual 241, 3) := by decide +kernel
theorem dX9_pulls_47 : decode cX9_pulls 47 = .ok (.invokestatic 244, 3) := by decide +kernel
theorem dX9_pulls_50 : decode cX9_pulls 50 = .ok (.iastore, 1) := by decide +kernel
theorem dX9_pulls_51 : decode cX9_pulls 51 = .ok (.aload_n 0, 1) := by decide +kernel
theorem dX9_pulls_52 : decode cX9_pulls 52 = .ok (.bipush 97, 2) := by decide +kernel
theorem dX9_pulls_54 : decode cX9_pulls 54 = .ok (.iconst 0, 1) := by decide +kernel
theorem dX9_pulls_55 : decode cX9_pulls 55 = .ok (.sipush 999, 3) := by decide +kernel
theorem dX9_pulls_58 : decode cX9_pulls 58 = .ok (.invokevirtual 247, 3) := by decide +kernel
theorem dX9_pulls_61 : decode cX9_pulls 61 = .ok (.ireturn, 1) := by decide +kernel
theorem dX9_priceOf_0 : decode cX9_priceOf 0 = .ok (.aload_n 0, 1) := by decide +kernel
theorem dX9_priceOf_1 : decode cX9_priceOf 1 = .ok (.invokevirtual 229, 3) := by decide +kernel
theorem dX9_priceOf_4 : decode cX9_priceOf 4 = .ok (.aload_n 0, 1) := by decide +kernel
theorem dX9_priceOf_5 : decode cX9_priceOf 5 = .ok (.getfield 59, 3) := by decide +kernel
theorem dX9_priceOf_8 : decode cX9_priceOf 8 = .ok (.bipush 11, 2) := by decide +kernel
theorem dX9_priceOf_10 : decode cX9_priceOf 10 = .ok (.iload_n 1, 1) := by decide +kernel
theorem dX9_priceOf_11 : decode cX9_priceOf 11 = .ok (.iastore, 1) := by decide +kernel
theorem dX9_priceOf_12 : decode cX9_priceOf 12 = .ok (.aload_n 0, 1) := by decide +kernel
theorem dX9_priceOf_13 : decode cX9_priceOf 13 = .ok (.getfield 59, 3) := by decide +kernel
theorem dX9_priceOf_16 : decode cX9_priceOf 16 = .ok (.bipush 12, 2) := by decide +kernel
theorem dX9_priceOf_18 : decode cX9_priceOf 18 = .ok (.aload_n 0, 1) := by decide +kernel
theorem dX9_priceOf_19 : decode cX9_priceOf 19 = .ok (.getfield 7, 3) := by decide +kernel
theorem dX9_priceOf_22 : decode cX9_priceOf 22 = .ok (.sipush 220, 3) := by decide +kernel
theorem dX9_priceOf_25 : decode cX9_priceOf 25 = .ok (.iload_n 1, 1) := by decide +kernel
theorem dX9_priceOf_26 : decode cX9_priceOf 26 = .ok (.iadd, 1) := by decide +kernel
theorem dX9_priceOf_27 : decode cX9_priceOf 27 = .ok (.iaload, 1) := by decide +kernel
theorem dX9_priceOf_28 : decode cX9_priceOf 28 = .ok (.iastore, 1) := by decide +kernel
theorem dX9_priceOf_29 : decode cX9_priceOf 29 = .ok (.aload_n 0, 1) := by decide +kernel
theorem dX9_priceOf_30 : decode cX9_priceOf 30 = .ok (.getfield 59, 3) := by decide +kernel
theorem dX9_priceOf_33 : decode cX9_priceOf 33 = .ok (.bipush 14, 2) := by decide +kernel
theorem dX9_priceOf_35 : decode cX9_priceOf 35 = .ok (.aload_n 0, 1) := by decide +kernel
theorem dX9_priceOf_36 : decode cX9_priceOf 36 = .ok (.getfield 7, 3) := by decide +kernel
theorem dX9_priceOf_39 : decode cX9_priceOf 39 = .ok (.sipush 232, 3) := by decide +kernel
theorem dX9_priceOf_42 : decode cX9_priceOf 42 = .ok (.iload_n 1, 1) := by decide +kernel
theorem dX9_priceOf_43 : decode cX9_priceOf 43 = .ok (.iadd, 1) := by decide +kernel
theorem dX9_priceOf_44 : decode cX9_priceOf 44 = .ok (.iaload, 1) := by decide +kernel
theorem dX9_priceOf_45 : decode cX9_priceOf 45 = .ok (.iastore, 1) := by decide +kernel
theorem dX9_priceOf_46 : decode cX9_priceOf 46 = .ok (.aload_n 0, 1) := by decide +kernel
theorem dX9_priceOf_47 : decode cX9_priceOf 47 = .ok (.bipush 98, 2) := by decide +kernel
theorem dX9_priceOf_49 : decode cX9_priceOf 49 = .ok (.iconst 0, 1) := by decide +kernel
theorem dX9_priceOf_50 : decode cX9_priceOf 50 = .ok (.sipush 999, 3) := by decide +kernel
theorem dX9_priceOf_53 : decode cX9_priceOf 53 = .ok (.invokevirtual 247, 3) := by decide +kernel
theorem dX9_priceOf_56 : decode cX9_priceOf 56 = .ok (.ireturn, 1) := by decide +kernel
theorem dX9_price_0 : decode cX9_price 0 = .ok (.iload_n 1, 1) := by decide +kernel
theorem dX9_price_1 : decode cX9_price 1 = .ok (.invokestatic 102, 3) := by decide +kernel
theorem dX9_price_4 : decode cX9_price 4 = .ok (.ifCond .eq 19, 3) := by decide +kernel
theorem dX9_price_7 : decode cX9_price 7 = .ok (.aload_n 0, 1) := by decide +kernel
theorem dX9_price_8 : decode cX9_price 8 = .ok (.iload_n 1, 1) := by decide +kernel
theorem dX9_price_9 : decode cX9_price 9 = .ok (.invokevirtual 109, 3) := by decide +kernel
theorem dX9_price_12 : decode cX9_price 12 = .ok (.ifCond .eq 11, 3) := by decide +kernel
theorem dX9_price_15 : decode cX9_price 15 = .ok (.aload_n 0, 1) := by decide +kernel
theorem dX9_price_16 : decode cX9_price 16 = .ok (.iload_n 1, 1) := by decide +kernel
theorem dX9_price_17 : decode cX9_price 17 = .ok (.invokevirtual 250, 3) := by decide +kernel
theorem dX9_price_20 : decode cX9_price 20 = .ok (.goto 4, 3) := by decide +kernel
theorem dX9_price_23 : decode cX9_price 23 = .ok (.iconst (-1), 1) := by decide +kernel
theorem dX9_price_24 : decode cX9_price 24 = .ok (.ireturn, 1) := by decide +kernel
theorem dX9_pay_0 : decode cX9_pay 0 = .ok (.iload_n 1, 1) := by decide +kernel
theorem dX9_pay_1 : decode cX9_pay 1 = .ok (.invokestatic 112, 3) := by decide +kernel
theorem dX9_pay_4 : decode cX9_pay 4 = .ok (.ifCond .eq 28, 3) := by decide +kernel
theorem dX9_pay_7 : decode cX9_pay 7 = .ok (.iload_n 2, 1) := by decide +kernel
theorem dX9_pay_8 : decode cX9_pay 8 = .ok (.invokestatic 102, 3) := by decide +kernel
theorem dX9_pay_11 : decode cX9_pay 11 = .ok (.ifCond .eq 21, 3) := by decide +kernel
theorem dX9_pay_14 : decode cX9_pay 14 = .ok (.aload_n 0, 1) := by decide +kernel
theorem dX9_pay_15 : decode cX9_pay 15 = .ok (.iload_n 2, 1) := by decide +kernel
theorem dX9_pay_16 : decode cX9_pay 16 = .ok (.invokevirtual 109, 3) := by decide +kernel
theorem dX9_pay_19 : decode cX9_pay 19 = .ok (.ifCond .eq 13, 3) := by decide +kernel
theorem dX9_pay_22 : decode cX9_pay 22 = .ok (.iload_n 3, 1) := by decide +kernel
theorem dX9_pay_23 : decode cX9_pay 23 = .ok (.iconst 1, 1) := by decide +kernel
theorem dX9_pay_24 : decode cX9_pay 24 = .ok (.bipush 9, 2) := by decide +kernel
theorem dX9_pay_26 : decode cX9_pay 26 = .ok (.invokestatic 92, 3) := by decide +kernel
theorem dX9_pay_29 : decode cX9_pay 29 = .ok (.ifCond .ne 5, 3) := by decide +kernel
theorem dX9_pay_32 : decode cX9_pay 32 = .ok (.iconst (-1), 1) := by decide +kernel
theorem dX9_pay_33 : decode cX9_pay 33 = .ok (.ireturn, 1) := by decide +kernel
theorem dX9_pay_34 : decode cX9_pay 34 = .ok (.aload_n 0, 1) := by decide +kernel
theorem dX9_pay_35 : decode cX9_pay 35 = .ok (.iload_n 2, 1) := by decide +kernel
theorem dX9_pay_36 : decode cX9_pay 36 = .ok (.invokevirtual 250, 3) := by decide +kernel
theorem dX9_pay_39 : decode cX9_pay 39 = .ok (.iload_n 3, 1) := by decide +kernel
theorem dX9_pay_40 : decode cX9_pay 40 = .ok (.imul, 1) := by decide +kernel
theorem dX9_pay_41 : decode cX9_pay 41 = .ok (.istore 4, 2) := by decide +kernel
theorem dX9_pay_43 : decode cX9_pay 43 = .ok (.iload 4, 2) := by decide +kernel
theorem dX9_pay_45 : decode cX9_pay 45 = .ok (.aload_n 0, 1) := by decide +kernel
theorem dX9_pay_46 : decode cX9_pay 46 = .ok (.getfield 7, 3) := by decide +kernel
theorem dX9_pay_49 : decode cX9_pay 49 = .ok (.sipush 304, 3) := by decide +kernel
theorem dX9_pay_52 : decode cX9_pay 52 = .ok (.iload_n 1, 1) := by decide +kernel
theorem dX9_pay_53 : decode cX9_pay 53 = .ok (.iadd, 1) := by decide +kernel
theorem dX9_pay_54 : decode cX9_pay 54 = .ok (.iaload, 1) := by decide +kernel
theorem dX9_pay_55 : decode cX9_pay 55 = .ok (.if_icmp .le 6, 3) := by decide +kernel
theorem dX9_pay_58 : decode cX9_pay 58 = .ok (.bipush (-2), 2) := by decide +kernel
theorem dX9_pay_60 : decode cX9_pay 60 = .ok (.ireturn, 1) := by decide +kernel
theorem dX9_pay_61 : decode cX9_pay 61 = .ok (.aload_n 0, 1) := by decide +kernel
theorem dX9_pay_62 : decode cX9_pay 62 = .ok (.getfield 7, 3) := by decide +kernel
theorem dX9_pay_65 : decode cX9_pay 65 = .ok (.sipush 232, 3) := by decide +kernel
theorem dX9_pay_68 : decode cX9_pay 68 = .ok (.iload_n 2, 1) := by decide +kernel
theorem dX9_pay_69 : decode cX9_pay 69 = .ok (.iadd, 1) := by decide +kernel
theorem dX9_pay_70 : decode cX9_pay 70 = .ok (.iaload, 1) := by decide +kernel
theorem dX9_pay_71 : decode cX9_pay 71 = .ok (.iload_n 3, 1) := by decide +kernel
theorem dX9_pay_72 : decode cX9_pay 72 = .ok (.iadd, 1) := by decide +kernel
theorem dX9_pay_73 : decode cX9_pay 73 = .ok (.bipush 99, 2) := by decide +kernel
theorem dX9_pay_75 : decode cX9_pay 75 = .ok (.if_icmp .le 6, 3) := by decide +kernel
theorem dX9_pay_78 : decode cX9_pay 78 = .ok (.bipush (-3), 2) := by decide +kernel
theorem dX9_pay_80 : decode cX9_pay 80 = .ok (.ireturn, 1) := by decide +kernel
theorem dX9_pay_81 : decode cX9_pay 81 = .ok (.aload_n 0, 1) := by decide +kernel
theorem dX9_pay_82 : decode cX9_pay 82 = .ok (.getfield 7, 3) := by decide +kernel
theorem dX9_pay_85 : decode cX9_pay 85 = .ok (.sipush 304, 3) := by decide +kernel
theorem dX9_pay_88 : decode cX9_pay 88 = .ok (.iload_n 1, 1) := by decide +kernel
theorem dX9_pay_89 : decode cX9_pay 89 = .ok (.iadd, 1) := by decide +kernel
theorem dX9_pay_90 : decode cX9_pay 90 = .ok (.aload_n 0, 1) := by decide +kernel
theorem dX9_pay_91 : decode cX9_pay 91 = .ok (.getfield 7, 3) := by decide +kernel
theorem dX9_pay_94 : decode cX9_pay 94 = .ok (.sipush 304, 3) := by decide +kernel
theorem dX9_pay_97 : decode cX9_pay 97 = .ok (.iload_n 1, 1) := by decide +kernel
theorem dX9_pay_98 : decode cX9_pay 98 = .ok (.iadd, 1) := by decide +kernel
theorem dX9_pay_99 : decode cX9_pay 99 = .ok (.iaload, 1) := by decide +kernel
theorem dX9_pay_100 : decode cX9_pay 100 = .ok (.iload 4, 2) := by decide +kernel
theorem dX9_pay_102 : decode cX9_pay 102 = .ok (.isub, 1) := by decide +kernel
theorem dX9_pay_103 : decode cX9_pay 103 = .ok (.iastore, 1) := by decide +kernel
theorem dX9_pay_104 : decode cX9_pay 104 = .ok (.aload_n 0, 1) := by decide +kernel
theorem dX9_pay_105 : decode cX9_pay 105 = .ok (.getfield 7, 3) := by decide +kernel
theorem dX9_pay_108 : decode cX9_pay 108 = .ok (.sipush 232, 3) := by decide +kernel
theorem dX9_pay_111 : decode cX9_pay 111 = .ok (.iload_n 2, 1) := by decide +kernel
theorem dX9_pay_112 : decode cX9_pay 112 = .ok (.iadd, 1) := by decide +kernel
theorem dX9_pay_113 : decode cX9_pay 113 = .ok (.aload_n 0, 1) := by decide +kernel
theorem dX9_pay_114 : decode cX9_pay 114 = .ok (.getfield 7, 3) := by decide +kernel
theorem dX9_pay_117 : decode cX9_pay 117 = .ok (.sipush 232, 3) := by decide +kernel
theorem dX9_pay_120 : decode cX9_pay 120 = .ok (.iload_n 2, 1) := by decide +kernel
theorem dX9_pay_121 : decode cX9_pay 121 = .ok (.iadd, 1) := by decide +kernel
theorem dX9_pay_122 : decode cX9_pay 122 = .ok (.iaload, 1) := by decide +kernel
theorem dX9_pay_123 : decode cX9_pay 123 = .ok (.iload_n 3, 1) := by decide +kernel
theorem dX9_pay_124 : decode cX9_pay 124 = .ok (.iadd, 1) := by decide +kernel
theorem dX9_pay_125 : decode cX9_pay 125 = .ok (.iastore, 1) := by decide +kernel
theorem dX9_pay_126 : decode cX9_pay 126 = .ok (.iload 4, 2) := by decide +kernel
theorem dX9_pay_128 : decode cX9_pay 128 = .ok (.ireturn, 1) := by decide +kernel
theorem dX9_clouds_0 : decode cX9_clouds 0 = .ok (.iload_n 1, 1) := by decide +kernel
theorem dX9_clouds_1 : decode cX9_clouds 1 = .ok (.iconst 0, 1) := by decide +kernel
theorem dX9_clouds_2 : decode cX9_clouds 2 = .ok (.sipush 255, 3) := by decide +kernel
theorem dX9_clouds_5 : decode cX9_clouds 5 = .ok (.invokestatic 92, 3) := by decide +kernel
theorem dX9_clouds_8 : decode cX9_clouds 8 = .ok (.ifCond .ne 5, 3) := by decide +kernel
theorem dX9_clouds_11 : decode cX9_clouds 11 = .ok (.iconst 0, 1) := by decide +kernel
theorem dX9_clouds_12 : decode cX9_clouds 12 = .ok (.ireturn, 1) := by decide +kernel
theorem dX9_clouds_13 : decode cX9_clouds 13 = .ok (.aload_n 0, 1) := by decide +kernel
theorem dX9_clouds_14 : decode cX9_clouds 14 = .ok (.getfield 7, 3) := by decide +kernel
theorem dX9_clouds_17 : decode cX9_clouds 17 = .ok (.sipush 329, 3) := by decide +kernel
theorem dX9_clouds_20 : decode cX9_clouds 20 = .ok (.iload_n 1, 1) := by decide +kernel
theorem dX9_clouds_21 : decode cX9_clouds 21 = .ok (.iastore, 1) := by decide +kernel
theorem dX9_clouds_22 : decode cX9_clouds 22 = .ok (.iconst 1, 1) := by decide +kernel
theorem dX9_clouds_23 : decode cX9_clouds 23 = .ok (.ireturn, 1) := by decide +kernel
theorem dX9_lit_0 : decode cX9_lit 0 = .ok (.iload_n 1, 1) := by decide +kernel
theorem dX9_lit_1 : decode cX9_lit 1 = .ok (.bipush 12, 2) := by decide +kernel
theorem dX9_lit_3 : decode cX9_lit 3 = .ok (.if_icmp .lt 14, 3) := by decide +kernel
theorem dX9_lit_6 : decode cX9_lit 6 = .ok (.aload_n 0, 1) := by decide +kernel
theorem dX9_lit_7 : decode cX9_lit 7 = .ok (.iload_n 1, 1) := by decide +kernel
theorem dX9_lit_8 : decode cX9_lit 8 = .ok (.bipush 12, 2) := by decide +kernel
theorem dX9_lit_10 : decode cX9_lit 10 = .ok (.isub, 1) := by decide +kernel
theorem dX9_lit_11 : decode cX9_lit 11 = .ok (.invokevirtual 81, 3) := by decide +kernel
theorem dX9_lit_14 : decode cX9_lit 14 = .ok (.goto 8, 3) := by decide +kernel
theorem dX9_lit_17 : decode cX9_lit 17 = .ok (.aload_n 0, 1) := by decide +kernel
theorem dX9_lit_18 : decode cX9_lit 18 = .ok (.iload_n 1, 1) := by decide +kernel
theorem dX9_lit_19 : decode cX9_lit 19 = .ok (.invokevirtual 109, 3) := by decide +kernel
theorem dX9_lit_22 : decode cX9_lit 22 = .ok (.istore_n 2, 1) := by decide +kernel
theorem dX9_lit_23 : decode cX9_lit 23 = .ok (.iload_n 2, 1) := by decide +kernel
theorem dX9_lit_24 : decode cX9_lit 24 = .ok (.ifCond .ne 7, 3) := by decide +kernel
theorem dX9_lit_27 : decode cX9_lit 27 = .ok (.iconst (-1), 1) := by decide +kernel
theorem dX9_lit_28 : decode cX9_lit 28 = .ok (.goto 16, 3) := by decide +kernel
theorem dX9_lit_31 : decode cX9_lit 31 = .ok (.aload_n 0, 1) := by decide +kernel
theorem dX9_lit_32 : decode cX9_lit 32 = .ok (.iload_n 1, 1) := by decide +kernel
theorem dX9_lit_33 : decode cX9_lit 33 = .ok (.invokevirtual 253, 3) := by decide +kernel
theorem dX9_lit_36 : decode cX9_lit 36 = .ok (.ifCond .eq 7, 3) := by decide +kernel
theorem dX9_lit_39 : decode cX9_lit 39 = .ok (.iconst 1, 1) := by decide +kernel
theorem dX9_lit_40 : decode cX9_lit 40 = .ok (.goto 4, 3) := by decide +kernel
theorem dX9_lit_43 : decode cX9_lit 43 = .ok (.iconst 0, 1) := by decide +kernel
theorem dX9_lit_44 : decode cX9_lit 44 = .ok (.ireturn, 1) := by decide +kernel
theorem dX9_pull_0 : decode cX9_pull 0 = .ok (.iload_n 2, 1) := by decide +kernel
theorem dX9_pull_1 : decode cX9_pull 1 = .ok (.bipush 12, 2) := by decide +kernel
theorem dX9_pull_3 : decode cX9_pull 3 = .ok (.if_icmp .lt 14, 3) := by decide +kernel
theorem dX9_pull_6 : decode cX9_pull 6 = .ok (.aload_n 0, 1) := by decide +kernel
theorem dX9_pull_7 : decode cX9_pull 7 = .ok (.iload_n 2, 1) := by decide +kernel
theorem dX9_pull_8 : decode cX9_pull 8 = .ok (.bipush 12, 2) := by decide +kernel
theorem dX9_pull_10 : decode cX9_pull 10 = .ok (.isub, 1) := by decide +kernel
theorem dX9_pull_11 : decode cX9_pull 11 = .ok (.invokevirtual 85, 3) := by decide +kernel
theorem dX9_pull_14 : decode cX9_pull 14 = .ok (.goto 8, 3) := by decide +kernel
theorem dX9_pull_17 : decode cX9_pull 17 = .ok (.aload_n 0, 1) := by decide +kernel
theorem dX9_pull_18 : decode cX9_pull 18 = .ok (.iload_n 2, 1) := by decide +kernel
theorem dX9_pull_19 : decode cX9_pull 19 = .ok (.invokevirtual 109, 3) := by decide +kernel
theorem dX9_pull_22 : decode cX9_pull 22 = .ok (.istore_n 3, 1) := by decide +kernel
theorem dX9_pull_23 : decode cX9_pull 23 = .ok (.iload_n 3, 1) := by decide +kernel
theorem dX9_pull_24 : decode cX9_pull 24 = .ok (.ifCond .eq 19, 3) := by decide +kernel
theorem dX9_pull_27 : decode cX9_pull 27 = .ok (.aload_n 0, 1) := by decide +kernel
theorem dX9_pull_28 : decode cX9_pull 28 = .ok (.iload_n 1, 1) := by decide +kernel
theorem dX9_pull_29 : decode cX9_pull 29 = .ok (.invokevirtual 85, 3) := by decide +kernel
theorem dX9_pull_32 : decode cX9_pull 32 = .ok (.ifCond .eq 11, 3) := by decide +kernel
theorem dX9_pull_35 : decode cX9_pull 35 = .ok (.iload_n 2, 1) := by decide +kernel
theorem dX9_pull_36 : decode cX9_pull 36 = .ok (.bipush 12, 2) := by decide +kernel
theorem dX9_pull_38 : decode cX9_pull 38 = .ok (.iload_n 1, 1) := by decide +kernel
theorem dX9_pull_39 : decode cX9_pull 39 = .ok (.iadd, 1) := by decide +kernel
theorem dX9_pull_40 : decode cX9_pull 40 = .ok (.if_icmp .ne 7, 3) := by decide +kernel
theorem dX9_pull_43 : decode cX9_pull 43 = .ok (.iconst (-1), 1) := by decide +kernel
theorem dX9_pull_44 : decode cX9_pull 44 = .ok (.goto 9, 3) := by decide +kernel
theorem dX9_pull_47 : decode cX9_pull 47 = .ok (.aload_n 0, 1) := by decide +kernel
theorem dX9_pull_48 : decode cX9_pull 48 = .ok (.iload_n 1, 1) := by decide +kernel
theorem dX9_pull_49 : decode cX9_pull 49 = .ok (.iload_n 2, 1) := by decide +kernel
theorem dX9_pull_50 : decode cX9_pull 50 = .ok (.invokevirtual 256, 3) := by decide +kernel
theorem dX9_pull_53 : decode cX9_pull 53 = .ok (.ireturn, 1) := by decide +kernel
theorem dX9_targetOf_0 : decode cX9_targetOf 0 = .ok (.iconst (-1), 1) := by decide +kernel
theorem dX9_targetOf_1 : decode cX9_targetOf 1 = .ok (.istore_n 2, 1) := by decide +kernel
theorem dX9_targetOf_2 : decode cX9_targetOf 2 = .ok (.iconst 0, 1) := by decide +kernel
theorem dX9_targetOf_3 : decode cX9_targetOf 3 = .ok (.istore_n 3, 1) := by decide +kernel
theorem dX9_targetOf_4 : decode cX9_targetOf 4 = .ok (.iconst 0, 1) := by decide +kernel
theorem dX9_targetOf_5 : decode cX9_targetOf 5 = .ok (.istore 4, 2) := by decide +kernel
theorem dX9_targetOf_7 : decode cX9_targetOf 7 = .ok (.iload 4, 2) := by decide +kernel
theorem dX9_targetOf_9 : decode cX9_targetOf 9 = .ok (.bipush 18, 2) := by decide +kernel
theorem dX9_targetOf_11 : decode cX9_targetOf 11 = .ok (.if_icmp .ge 89, 3) := by decide +kernel
theorem dX9_targetOf_14 : decode cX9_targetOf 14 = .ok (.iload 4, 2) := by decide +kernel
theorem dX9_targetOf_16 : decode cX9_targetOf 16 = .ok (.bipush 12, 2) := by decide +kernel
theorem dX9_targetOf_18 : decode cX9_targetOf 18 = .ok (.iload_n 1, 1) := by decide +kernel
theorem dX9_targetOf_19 : decode cX9_targetOf 19 = .ok (.iadd, 1) := by decide +kernel
theorem dX9_targetOf_20 : decode cX9_targetOf 20 = .ok (.if_icmp .eq 74, 3) := by decide +kernel
theorem dX9_targetOf_23 : decode cX9_targetOf 23 = .ok (.aload_n 0, 1) := by decide +kernel
theorem dX9_targetOf_24 : decode cX9_targetOf 24 = .ok (.iload 4, 2) := by decide +kernel
theorem dX9_targetOf_26 : decode cX9_targetOf 26 = .ok (.invokevirtual 253, 3) := by decide +kernel
theorem dX9_targetOf_29 : decode cX9_targetOf 29 = .ok (.ifCond .eq 65, 3) := by decide +kernel
theorem dX9_targetOf_32 : decode cX9_targetOf 32 = .ok (.aload_n 0, 1) := by decide +kernel
theorem dX9_targetOf_33 : decode cX9_targetOf 33 = .ok (.getfield 7, 3) := by decide +kernel
theorem dX9_targetOf_36 : decode cX9_targetOf 36 = .ok (.sipush 274, 3) := by decide +kernel
theorem dX9_targetOf_39 : decode cX9_targetOf 39 = .ok (.iload_n 1, 1) := by decide +kernel
theorem dX9_targetOf_40 : decode cX9_targetOf 40 = .ok (.iadd, 1) := by decide +kernel
theorem dX9_targetOf_41 : decode cX9_targetOf 41 = .ok (.iaload, 1) := by decide +kernel
theorem dX9_targetOf_42 : decode cX9_targetOf 42 = .ok (.aload_n 0, 1) := by decide +kernel
theorem dX9_targetOf_43 : decode cX9_targetOf 43 = .ok (.iload 4, 2) := by decide +kernel
theorem dX9_targetOf_45 : decode cX9_targetOf 45 = .ok (.invokevirtual 241, 3) := by decide +kernel
theorem dX9_targetOf_48 : decode cX9_targetOf 48 = .ok (.invokestatic 244, 3) := by decide +kernel
theorem dX9_targetOf_51 : decode cX9_targetOf 51 = .ok (.aload_n 0, 1) := by decide +kernel
theorem dX9_targetOf_52 : decode cX9_targetOf 52 = .ok (.invokevirtual 232, 3) := by decide +kernel
theorem dX9_targetOf_55 : decode cX9_targetOf 55 = .ok (.ifCond .eq 7, 3) := by decide +kernel
theorem dX9_targetOf_58 : decode cX9_targetOf 58 = .ok (.iconst 3, 1) := by decide +kernel
theorem dX9_targetOf_59 : decode cX9_targetOf 59 = .ok (.goto 5, 3) := by decide +kernel
theorem dX9_targetOf_62 : decode cX9_targetOf 62 = .ok (.bipush 6, 2) := by decide +kernel
theorem dX9_targetOf_64 : decode cX9_targetOf 64 = .ok (.if_icmp .le 6, 3) := by decide +kernel
theorem dX9_targetOf_67 : decode cX9_targetOf 67 = .ok (.goto 27, 3) := by decide +kernel
theorem dX9_targetOf_70 : decode cX9_targetOf 70 = .ok (.aload_n 0, 1) := by decide +kernel
theorem dX9_targetOf_71 : decode cX9_targetOf 71 = .ok (.iload_n 1, 1) := by decide +kernel
theorem dX9_targetOf_72 : decode cX9_targetOf 72 = .ok (.iload 4, 2) := by decide +kernel
theorem dX9_targetOf_74 : decode cX9_targetOf 74 = .ok (.invokevirtual 256, 3) := by decide +kernel
theorem dX9_targetOf_77 : decode cX9_targetOf 77 = .ok (.istore 5, 2) := by decide +kernel
theorem dX9_targetOf_79 : decode cX9_targetOf 79 = .ok (.iload 5, 2) := by decide +kernel
theorem dX9_targetOf_81 : decode cX9_targetOf 81 = .ok (.iload_n 3, 1) := by decide +kernel
theorem dX9_targetOf_82 : decode cX9_targetOf 82 = .ok (.if_icmp .gt 6, 3) := by decide +kernel
theorem dX9_targetOf_85 : decode cX9_targetOf 85 = .ok (.goto 9, 3) := by decide +kernel
theorem dX9_targetOf_88 : decode cX9_targetOf 88 = .ok (.iload 5, 2) := by decide +kernel
theorem dX9_targetOf_90 : decode cX9_targetOf 90 = .ok (.istore_n 3, 1) := by decide +kernel
theorem dX9_targetOf_91 : decode cX9_targetOf 91 = .ok (.iload 4, 2) := by decide +kernel
theorem dX9_targetOf_93 : decode cX9_targetOf 93 = .ok (.istore_n 2, 1) := by decide +kernel
theorem dX9_targetOf_94 : decode cX9_targetOf 94 = .ok (.iinc 4 1, 3) := by decide +kernel
theorem dX9_targetOf_97 : decode cX9_targetOf 97 = .ok (.goto (-90), 3) := by decide +kernel
theorem dX9_targetOf_100 : decode cX9_targetOf 100 = .ok (.iload_n 2, 1) := by decide +kernel
theorem dX9_targetOf_101 : decode cX9_targetOf 101 = .ok (.ireturn, 1) := by decide +kernel
theorem dX9_target_0 : decode cX9_target 0 = .ok (.aload_n 0, 1) := by decide +kernel
theorem dX9_target_1 : decode cX9_target 1 = .ok (.iload_n 1, 1) := by decide +kernel
theorem dX9_target_2 : decode cX9_target 2 = .ok (.invokevirtual 85, 3) := by decide +kernel
theorem dX9_target_5 : decode cX9_target 5 = .ok (.ifCond .ne 5, 3) := by decide +kernel
theorem dX9_target_8 : decode cX9_target 8 = .ok (.iconst (-1), 1) := by decide +kernel
theorem dX9_target_9 : decode cX9_target 9 = .ok (.ireturn, 1) := by decide +kernel
theorem dX9_target_10 : decode cX9_target 10 = .ok (.aload_n 0, 1) := by decide +kernel
theorem dX9_target_11 : decode cX9_target 11 = .ok (.iload_n 1, 1) := by decide +kernel
theorem dX9_target_12 : decode cX9_target 12 = .ok (.invokevirtual 259, 3) := by decide +kernel
theorem dX9_target_15 : decode cX9_target 15 = .ok (.istore_n 2, 1) := by decide +kernel
theorem dX9_target_16 : decode cX9_target 16 = .ok (.iload_n 2, 1) := by decide +kernel
theorem dX9_target_17 : decode cX9_target 17 = .ok (.iconst (-1), 1) := by decide +kernel
theorem dX9_target_18 : decode cX9_target 18 = .ok (.if_icmp .ne 8, 3) := by decide +kernel
theorem dX9_target_21 : decode cX9_target 21 = .ok (.bipush (-2), 2) := by decide +kernel
theorem dX9_target_23 : decode cX9_target 23 = .ok (.goto 4, 3) := by decide +kernel
theorem dX9_target_26 : decode cX9_target 26 = .ok (.iload_n 2, 1) := by decide +kernel
theorem dX9_target_27 : decode cX9_target 27 = .ok (.ireturn, 1) := by decide +kernel
theorem dX9_steps_0 : decode cX9_steps 0 = .ok (.aload_n 0, 1) := by decide +kernel
theorem dX9_steps_1 : decode cX9_steps 1 = .ok (.getfield 7, 3) := by decide +kernel
theorem dX9_steps_4 : decode cX9_steps 4 = .ok (.sipush 274, 3) := by decide +kernel
theorem dX9_steps_7 : decode cX9_steps 7 = .ok (.iload_n 1, 1) := by decide +kernel
theorem dX9_steps_8 : decode cX9_steps 8 = .ok (.iadd, 1) := by decide +kernel
theorem dX9_steps_9 : decode cX9_steps 9 = .ok (.iaload, 1) := by decide +kernel
theorem dX9_steps_10 : decode cX9_steps 10 = .ok (.bipush 14, 2) := by decide +kernel
theorem dX9_steps_12 : decode cX9_steps 12 = .ok (.irem, 1) := by decide +kernel
theorem dX9_steps_13 : decode cX9_steps 13 = .ok (.iload_n 2, 1) := by decide +kernel
theorem dX9_steps_14 : decode cX9_steps 14 = .ok (.iadd, 1) := by decide +kernel
theorem dX9_steps_15 : decode cX9_steps 15 = .ok (.istore 4, 2) := by decide +kernel
theorem dX9_steps_17 : decode cX9_steps 17 = .ok (.aload_n 0, 1) := by decide +kernel
theorem dX9_steps_18 : decode cX9_steps 18 = .ok (.getfield 7, 3) := by decide +kernel
theorem dX9_steps_21 : decode cX9_steps 21 = .ok (.sipush 274, 3) := by decide +kernel
theorem dX9_steps_24 : decode cX9_steps 24 = .ok (.iload_n 1, 1) := by decide +kernel
theorem dX9_steps_25 : decode cX9_steps 25 = .ok (.iadd, 1) := by decide +kernel
theorem dX9_steps_26 : decode cX9_steps 26 = .ok (.iaload, 1) := by decide +kernel
theorem dX9_steps_27 : decode cX9_steps 27 = .ok (.bipush 14, 2) := by decide +kernel
theorem dX9_steps_29 : decode cX9_steps 29 = .ok (.idiv, 1) := by decide +kernel
theorem dX9_steps_30 : decode cX9_steps 30 = .ok (.iload_n 3, 1) := by decide +kernel
theorem dX9_steps_31 : decode cX9_steps 31 = .ok (.iadd, 1) := by decide +kernel
theorem dX9_steps_32 : decode cX9_steps 32 = .ok (.istore 5, 2) := by decide +kernel
theorem dX9_steps_34 : decode cX9_steps 34 = .ok (.iload 4, 2) := by decide +kernel
theorem dX9_steps_36 : decode cX9_steps 36 = .ok (.iload 5, 2) := by decide +kernel
theorem dX9_steps_38 : decode cX9_steps 38 = .ok (.invokestatic 88, 3) := by decide +kernel
theorem dX9_steps_41 : decode cX9_steps 41 = .ok (.ifCond .eq 18, 3) := by decide +kernel
theorem dX9_steps_44 : decode cX9_steps 44 = .ok (.aload_n 0, 1) := by decide +kernel
theorem dX9_steps_45 : decode cX9_steps 45 = .ok (.bipush 14, 2) := by decide +kernel
theorem dX9_steps_47 : decode cX9_steps 47 = .ok (.iload 5, 2) := by decide +kernel
theorem dX9_steps_49 : decode cX9_steps 49 = .ok (.imul, 1) := by decide +kernel
theorem dX9_steps_50 : decode cX9_steps 50 = .ok (.iload 4, 2) := by decide +kernel
theorem dX9_steps_52 : decode cX9_steps 52 = .ok (.iadd, 1) := by decide +kernel
theorem dX9_steps_53 : decode cX9_steps 53 = .ok (.invokevirtual 99, 3) := by decide +kernel
theorem dX9_steps_56 : decode cX9_steps 56 = .ok (.ifCond .eq 5, 3) := by decide +kernel
theorem dX9_steps_59 : decode cX9_steps 59 = .ok (.iconst 0, 1) := by decide +kernel
theorem dX9_steps_60 : decode cX9_steps 60 = .ok (.ireturn, 1) := by decide +kernel
theorem dX9_steps_61 : decode cX9_steps 61 = .ok (.aload_n 0, 1) := by decide +kernel
theorem dX9_steps_62 : decode cX9_steps 62 = .ok (.getfield 7, 3) := by decide +kernel
theorem dX9_steps_65 : decode cX9_steps 65 = .ok (.sipush 274, 3) := by decide +kernel
theorem dX9_steps_68 : decode cX9_steps 68 = .ok (.iload_n 1, 1) := by decide +kernel
theorem dX9_steps_69 : decode cX9_steps 69 = .ok (.iadd, 1) := by decide +kernel
theorem dX9_steps_70 : decode cX9_steps 70 = .ok (.bipush 14, 2) := by decide +kernel
theorem dX9_steps_72 : decode cX9_steps 72 = .ok (.iload 5, 2) := by decide +kernel
theorem dX9_steps_74 : decode cX9_steps 74 = .ok (.imul, 1) := by decide +kernel
theorem dX9_steps_75 : decode cX9_steps 75 = .ok (.iload 4, 2) := by decide +kernel
theorem dX9_steps_77 : decode cX9_steps 77 = .ok (.iadd, 1) := by decide +kernel
theorem dX9_steps_78 : decode cX9_steps 78 = .ok (.iastore, 1) := by decide +kernel
theorem dX9_steps_79 : decode cX9_steps 79 = .ok (.iconst 1, 1) := by decide +kernel
theorem dX9_steps_80 : decode cX9_steps 80 = .ok (.ireturn, 1) := by decide +kernel
theorem dX9_stampedes_0 : decode cX9_stampedes 0 = .ok (.iload_n 2, 1) := by decide +kernel
theorem dX9_stampedes_1 : decode cX9_stampedes 1 = .ok (.iconst 4, 1) := by decide +kernel
theorem dX9_stampedes_2 : decode cX9_stampedes 2 = .ok (.irem, 1) := by decide +kernel
theorem dX9_stampedes_3 : decode cX9_stampedes 3 = .ok (.istore_n 3, 1) := by decide +kernel
theorem dX9_stampedes_4 : decode cX9_stampedes 4 = .ok (.iconst 0, 1) := by decide +kernel
theorem dX9_stampedes_5 : decode cX9_stampedes 5 = .ok (.istore 4, 2) := by decide +kernel
theorem dX9_stampedes_7 : decode cX9_stampedes 7 = .ok (.iload 4, 2) := by decide +kernel
theorem dX9_stampedes_9 : decode cX9_stampedes 9 = .ok (.iconst 2, 1) := by decide +kernel
theorem dX9_stampedes_10 : decode cX9_stampedes 10 = .ok (.if_icmp .ge 52, 3) := by decide +kernel
theorem dX9_stampedes_13 : decode cX9_stampedes 13 = .ok (.aload_n 0, 1) := by decide +kernel
theorem dX9_stampedes_14 : decode cX9_stampedes 14 = .ok (.iload_n 1, 1) := by decide +kernel
theorem dX9_stampedes_15 : decode cX9_stampedes 15 = .ok (.iload_n 3, 1) := by decide +kernel
theorem dX9_stampedes_16 : decode cX9_stampedes 16 = .ok (.iconst 1, 1) := by decide +kernel
theorem dX9_stampedes_17 : decode cX9_stampedes 17 = .ok (.if_icmp .ne 7, 3) := by decide +kernel
theorem dX9_stampedes_20 : decode cX9_stampedes 20 = .ok (.iconst 1, 1) := by decide +kernel
theorem dX9_stampedes_21 : decode cX9_stampedes 21 = .ok (.goto 13, 3) := by decide +kernel
theorem dX9_stampedes_24 : decode cX9_stampedes 24 = .ok (.iload_n 3, 1) := by decide +kernel
theorem dX9_stampedes_25 : decode cX9_stampedes 25 = .ok (.iconst 3, 1) := by decide +kernel
theorem dX9_stampedes_26 : decode cX9_stampedes 26 = .ok (.if_icmp .ne 7, 3) := by decide +kernel
theorem dX9_stampedes_29 : decode cX9_stampedes 29 = .ok (.iconst (-1), 1) := by decide +kernel
theorem dX9_stampedes_30 : decode cX9_stampedes 30 = .ok (.goto 4, 3) := by decide +kernel
theorem dX9_stampedes_33 : decode cX9_stampedes 33 = .ok (.iconst 0, 1) := by decide +kernel
theorem dX9_stampedes_34 : decode cX9_stampedes 34 = .ok (.iload_n 3, 1) := by decide +kernel
theorem dX9_stampedes_35 : decode cX9_stampedes 35 = .ok (.ifCond .ne 7, 3) := by decide +kernel
theorem dX9_stampedes_38 : decode cX9_stampedes 38 = .ok (.iconst 1, 1) := by decide +kernel
theorem dX9_stampedes_39 : decode cX9_stampedes 39 = .ok (.goto 13, 3) := by decide +kernel
theorem dX9_stampedes_42 : decode cX9_stampedes 42 = .ok (.iload_n 3, 1) := by decide +kernel
theorem dX9_stampedes_43 : decode cX9_stampedes 43 = .ok (.iconst 2, 1) := by decide +kernel
theorem dX9_stampedes_44 : decode cX9_stampedes 44 = .ok (.if_icmp .ne 7, 3) := by decide +kernel
theorem dX9_stampedes_47 : decode cX9_stampedes 47 = .ok (.iconst (-1), 1) := by decide +kernel
theorem dX9_stampedes_48 : decode cX9_stampedes 48 = .ok (.goto 4, 3) := by decide +kernel
theorem dX9_stampedes_51 : decode cX9_stampedes 51 = .ok (.iconst 0, 1) := by decide +kernel
theorem dX9_stampedes_52 : decode cX9_stampedes 52 = .ok (.invokevirtual 262, 3) := by decide +kernel
theorem dX9_stampedes_55 : decode cX9_stampedes 55 = .ok (.pop, 1) := by decide +kernel
theorem dX9_stampedes_56 : decode cX9_stampedes 56 = .ok (.iinc 4 1, 3) := by decide +kernel
theorem dX9_stampedes_59 : decode cX9_stampedes 59 = .ok (.goto (-52), 3) := by decide +kernel
theorem dX9_stampedes_62 : decode cX9_stampedes 62 = .ok (.return_, 1) := by decide +kernel
theorem dX9_sign_0 : decode cX9_sign 0 = .ok (.iload_n 0, 1) := by decide +kernel
theorem dX9_sign_1 : decode cX9_sign 1 = .ok (.ifCond .le 7, 3) := by decide +kernel
theorem dX9_sign_4 : decode cX9_sign 4 = .ok (.iconst 1, 1) := by decide +kernel
theorem dX9_sign_5 : decode cX9_sign 5 = .ok (.goto 12, 3) := by decide +kernel
theorem dX9_sign_8 : decode cX9_sign 8 = .ok (.iload_n 0, 1) := by decide +kernel
theorem dX9_sign_9 : decode cX9_sign 9 = .ok (.ifCond .ge 7, 3) := by decide +kernel
theorem dX9_sign_12 : decode cX9_sign 12 = .ok (.iconst (-1), 1) := by decide +kernel
theorem dX9_sign_13 : decode cX9_sign 13 = .ok (.goto 4, 3) := by decide +kernel
theorem dX9_sign_16 : decode cX9_sign 16 = .ok (.iconst 0, 1) := by decide +kernel
theorem dX9_sign_17 : decode cX9_sign 17 = .ok (.ireturn, 1) := by decide +kernel
theorem dX9_goesTo_0 : decode cX9_goesTo 0 = .ok (.iload_n 2, 1) := by decide +kernel
theorem dX9_goesTo_1 : decode cX9_goesTo 1 = .ok (.bipush 14, 2) := by decide +kernel
theorem dX9_goesTo_3 : decode cX9_goesTo 3 = .ok (.irem, 1) := by decide +kernel
theorem dX9_goesTo_4 : decode cX9_goesTo 4 = .ok (.aload_n 0, 1) := by decide +kernel
theorem dX9_goesTo_5 : decode cX9_goesTo 5 = .ok (.getfield 7, 3) := by decide +kernel
theorem dX9_goesTo_8 : decode cX9_goesTo 8 = .ok (.sipush 274, 3) := by decide +kernel
theorem dX9_goesTo_11 : decode cX9_goesTo 11 = .ok (.iload_n 1, 1) := by decide +kernel
theorem dX9_goesTo_12 : decode cX9_goesTo 12 = .ok (.iadd, 1) := by decide +kernel
theorem dX9_goesTo_13 : decode cX9_goesTo 13 = .ok (.iaload, 1) := by decide +kernel
theorem dX9_goesTo_14 : decode cX9_goesTo 14 = .ok (.bipush 14, 2) := by decide +kernel
theorem dX9_goesTo_16 : decode cX9_goesTo 16 = .ok (.irem, 1) := by decide +kernel
theorem dX9_goesTo_17 : decode cX9_goesTo 17 = .ok (.isub, 1) := by decide +kernel
theorem dX9_goesTo_18 : decode cX9_goesTo 18 = .ok (.istore_n 3, 1) := by decide +kernel
theorem dX9_goesTo_19 : decode cX9_goesTo 19 = .ok (.iload_n 2, 1) := by decide +kernel
theorem dX9_goesTo_20 : decode cX9_goesTo 20 = .ok (.bipush 14, 2) := by decide +kernel
theorem dX9_goesTo_22 : decode cX9_goesTo 22 = .ok (.idiv, 1) := by decide +kernel
theorem dX9_goesTo_23 : decode cX9_goesTo 23 = .ok (.aload_n 0, 1) := by decide +kernel
theorem dX9_goesTo_24 : decode cX9_goesTo 24 = .ok (.getfield 7, 3) := by decide +kernel
theorem dX9_goesTo_27 : decode cX9_goesTo 27 = .ok (.sipush 274, 3) := by decide +kernel
theorem dX9_goesTo_30 : decode cX9_goesTo 30 = .ok (.iload_n 1, 1) := by decide +kernel
theorem dX9_goesTo_31 : decode cX9_goesTo 31 = .ok (.iadd, 1) := by decide +kernel
theorem dX9_goesTo_32 : decode cX9_goesTo 32 = .ok (.iaload, 1) := by decide +kernel
theorem dX9_goesTo_33 : decode cX9_goesTo 33 = .ok (.bipush 14, 2) := by decide +kernel
theorem dX9_goesTo_35 : decode cX9_goesTo 35 = .ok (.idiv, 1) := by decide +kernel
theorem dX9_goesTo_36 : decode cX9_goesTo 36 = .ok (.isub, 1) := by decide +kernel
theorem dX9_goesTo_37 : decode cX9_goesTo 37 = .ok (.istore 4, 2) := by decide +kernel
theorem dX9_goesTo_39 : decode cX9_goesTo 39 = .ok (.iload_n 3, 1) := by decide +kernel
theorem dX9_goesTo_40 : decode cX9_goesTo 40 = .ok (.ifCond .ne 9, 3) := by decide +kernel
theorem dX9_goesTo_43 : decode cX9_goesTo 43 = .ok (.iload 4, 2) := by decide +kernel
theorem dX9_goesTo_45 : decode cX9_goesTo 45 = .ok (.ifCond .ne 4, 3) := by decide +kernel
theorem dX9_goesTo_48 : decode cX9_goesTo 48 = .ok (.return_, 1) := by decide +kernel
theorem dX9_goesTo_49 : decode cX9_goesTo 49 = .ok (.iload_n 3, 1) := by decide +kernel
theorem dX9_goesTo_50 : decode cX9_goesTo 50 = .ok (.invokestatic 77, 3) := by decide +kernel
theorem dX9_goesTo_53 : decode cX9_goesTo 53 = .ok (.iload 4, 2) := by decide +kernel
theorem dX9_goesTo_55 : decode cX9_goesTo 55 = .ok (.invokestatic 77, 3) := by decide +kernel
theorem dX9_goesTo_58 : decode cX9_goesTo 58 = .ok (.if_icmp .lt 7, 3) := by decide +kernel
theorem dX9_goesTo_61 : decode cX9_goesTo 61 = .ok (.iconst 1, 1) := by decide +kernel
theorem dX9_goesTo_62 : decode cX9_goesTo 62 = .ok (.goto 4, 3) := by decide +kernel
theorem dX9_goesTo_65 : decode cX9_goesTo 65 = .ok (.iconst 0, 1) := by decide +kernel
theorem dX9_goesTo_66 : decode cX9_goesTo 66 = .ok (.istore 5, 2) := by decide +kernel
theorem dX9_goesTo_68 : decode cX9_goesTo 68 = .ok (.iload 5, 2) := by decide +kernel
theorem dX9_goesTo_70 : decode cX9_goesTo 70 = .ok (.ifCond .eq 19, 3) := by decide +kernel
theorem dX9_goesTo_73 : decode cX9_goesTo 73 = .ok (.aload_n 0, 1) := by decide +kernel
theorem dX9_goesTo_74 : decode cX9_goesTo 74 = .ok (.iload_n 1, 1) := by decide +kernel
theorem dX9_goesTo_75 : decode cX9_goesTo 75 = .ok (.iload_n 3, 1) := by decide +kernel
theorem dX9_goesTo_76 : decode cX9_goesTo 76 = .ok (.invokestatic 265, 3) := by decide +kernel
theorem dX9_goesTo_79 : decode cX9_goesTo 79 = .ok (.iconst 0, 1) := by decide +kernel
theorem dX9_goesTo_80 : decode cX9_goesTo 80 = .ok (.invokevirtual 262, 3) := by decide +kernel
theorem dX9_goesTo_83 : decode cX9_goesTo 83 = .ok (.ifCond .eq 21, 3) := by decide +kernel
theorem dX9_goesTo_86 : decode cX9_goesTo 86 = .ok (.goto 17, 3) := by decide +kernel
theorem dX9_goesTo_89 : decode cX9_goesTo 89 = .ok (.aload_n 0, 1) := by decide +kernel
theorem dX9_goesTo_90 : decode cX9_goesTo 90 = .ok (.iload_n 1, 1) := by decide +kernel
theorem dX9_goesTo_91 : decode cX9_goesTo 91 = .ok (.iconst 0, 1) := by decide +kernel
theorem dX9_goesTo_92 : decode cX9_goesTo 92 = .ok (.iload 4, 2) := by decide +kernel
theorem dX9_goesTo_94 : decode cX9_goesTo 94 = .ok (.invokestatic 265, 3) := by decide +kernel
theorem dX9_goesTo_97 : decode cX9_goesTo 97 = .ok (.invokevirtual 262, 3) := by decide +kernel
theorem dX9_goesTo_100 : decode cX9_goesTo 100 = .ok (.ifCond .eq 4, 3) := by decide +kernel
theorem dX9_goesTo_103 : decode cX9_goesTo 103 = .ok (.return_, 1) := by decide +kernel
theorem dX9_goesTo_104 : decode cX9_goesTo 104 = .ok (.iload 5, 2) := by decide +kernel
theorem dX9_goesTo_106 : decode cX9_goesTo 106 = .ok (.ifCond .eq 20, 3) := by decide +kernel
theorem dX9_goesTo_109 : decode cX9_goesTo 109 = .ok (.iload 4, 2) := by decide +kernel
theorem dX9_goesTo_111 : decode cX9_goesTo 111 = .ok (.ifCond .eq 15, 3) := by decide +kernel
theorem dX9_goesTo_114 : decode cX9_goesTo 114 = .ok (.aload_n 0, 1) := by decide +kernel
theorem dX9_goesTo_115 : decode cX9_goesTo 115 = .ok (.iload_n 1, 1) := by decide +kernel
theorem dX9_goesTo_116 : decode cX9_goesTo 116 = .ok (.iconst 0, 1) := by decide +kernel
theorem dX9_goesTo_117 : decode cX9_goesTo 117 = .ok (.iload 4, 2) := by decide +kernel
theorem dX9_goesTo_119 : decode cX9_goesTo 119 = .ok (.invokestatic 265, 3) := by decide +kernel
theorem dX9_goesTo_122 : decode cX9_goesTo 122 = .ok (.invokevirtual 262, 3) := by decide +kernel
theorem dX9_goesTo_125 : decode cX9_goesTo 125 = .ok (.pop, 1) := by decide +kernel
theorem dX9_goesTo_126 : decode cX9_goesTo 126 = .ok (.iload 5, 2) := by decide +kernel
theorem dX9_goesTo_128 : decode cX9_goesTo 128 = .ok (.ifCond .ne 18, 3) := by decide +kernel
theorem dX9_goesTo_131 : decode cX9_goesTo 131 = .ok (.iload_n 3, 1) := by decide +kernel
theorem dX9_goesTo_132 : decode cX9_goesTo 132 = .ok (.ifCond .eq 14, 3) := by decide +kernel
theorem dX9_goesTo_135 : decode cX9_goesTo 135 = .ok (.aload_n 0, 1) := by decide +kernel
theorem dX9_goesTo_136 : decode cX9_goesTo 136 = .ok (.iload_n 1, 1) := by decide +kernel
theorem dX9_goesTo_137 : decode cX9_goesTo 137 = .ok (.iload_n 3, 1) := by decide +kernel
theorem dX9_goesTo_138 : decode cX9_goesTo 138 = .ok (.invokestatic 265, 3) := by decide +kernel
theorem dX9_goesTo_141 : decode cX9_goesTo 141 = .ok (.iconst 0, 1) := by decide +kernel
theorem dX9_goesTo_142 : decode cX9_goesTo 142 = .ok (.invokevirtual 262, 3) := by decide +kernel
theorem dX9_goesTo_145 : decode cX9_goesTo 145 = .ok (.pop, 1) := by decide +kernel
theorem dX9_goesTo_146 : decode cX9_goesTo 146 = .ok (.return_, 1) := by decide +kernel
theorem dX9_goesOn_0 : decode cX9_goesOn 0 = .ok (.aload_n 0, 1) := by decide +kernel
theorem dX9_goesOn_1 : decode cX9_goesOn 1 = .ok (.getfield 7, 3) := by decide +kernel
theorem dX9_goesOn_4 : decode cX9_goesOn 4 = .ok (.sipush 274, 3) := by decide +kernel
theorem dX9_goesOn_7 : decode cX9_goesOn 7 = .ok (.iload_n 1, 1) := by decide +kernel
theorem dX9_goesOn_8 : decode cX9_goesOn 8 = .ok (.iadd, 1) := by decide +kernel
theorem dX9_goesOn_9 : decode cX9_goesOn 9 = .ok (.iaload, 1) := by decide +kernel
theorem dX9_goesOn_10 : decode cX9_goesOn 10 = .ok (.bipush 14, 2) := by decide +kernel
theorem dX9_goesOn_12 : decode cX9_goesOn 12 = .ok (.idiv, 1) := by decide +kernel
theorem dX9_goesOn_13 : decode cX9_goesOn 13 = .ok (.bipush 13, 2) := by decide +kernel
theorem dX9_goesOn_15 : decode cX9_goesOn 15 = .ok (.if_icmp .ne 19, 3) := by decide +kernel
theorem dX9_goesOn_18 : decode cX9_goesOn 18 = .ok (.aload_n 0, 1) := by decide +kernel
theorem dX9_goesOn_19 : decode cX9_goesOn 19 = .ok (.getfield 7, 3) := by decide +kernel
theorem dX9_goesOn_22 : decode cX9_goesOn 22 = .ok (.sipush 274, 3) := by decide +kernel
theorem dX9_goesOn_25 : decode cX9_goesOn 25 = .ok (.iload_n 1, 1) := by decide +kernel
theorem dX9_goesOn_26 : decode cX9_goesOn 26 = .ok (.iadd, 1) := by decide +kernel
theorem dX9_goesOn_27 : decode cX9_goesOn 27 = .ok (.sipush 196, 3) := by decide +kernel
theorem dX9_goesOn_30 : decode cX9_goesOn 30 = .ok (.iastore, 1) := by decide +kernel
theorem dX9_goesOn_31 : decode cX9_goesOn 31 = .ok (.goto 11, 3) := by decide +kernel
theorem dX9_goesOn_34 : decode cX9_goesOn 34 = .ok (.aload_n 0, 1) := by decide +kernel
theorem dX9_goesOn_35 : decode cX9_goesOn 35 = .ok (.iload_n 1, 1) := by decide +kernel
theorem dX9_goesOn_36 : decode cX9_goesOn 36 = .ok (.iconst 0, 1) := by decide +kernel
theorem dX9_goesOn_37 : decode cX9_goesOn 37 = .ok (.iconst 1, 1) := by decide +kernel
theorem dX9_goesOn_38 : decode cX9_goesOn 38 = .ok (.invokevirtual 262, 3) := by decide +kernel
theorem dX9_goesOn_41 : decode cX9_goesOn 41 = .ok (.pop, 1) := by decide +kernel
theorem dX9_goesOn_42 : decode cX9_goesOn 42 = .ok (.return_, 1) := by decide +kernel
theorem dX9_loses_0 : decode cX9_loses 0 = .ok (.iload_n 2, 1) := by decide +kernel
theorem dX9_loses_1 : decode cX9_loses 1 = .ok (.aload_n 0, 1) := by decide +kernel
theorem dX9_loses_2 : decode cX9_loses 2 = .ok (.getfield 7, 3) := by decide +kernel
theorem dX9_loses_5 : decode cX9_loses 5 = .ok (.sipush 280, 3) := by decide +kernel
theorem dX9_loses_8 : decode cX9_loses 8 = .ok (.iload_n 1, 1) := by decide +kernel
theorem dX9_loses_9 : decode cX9_loses 9 = .ok (.iadd, 1) := by decide +kernel
theorem dX9_loses_10 : decode cX9_loses 10 = .ok (.iaload, 1) := by decide +kernel
theorem dX9_loses_11 : decode cX9_loses 11 = .ok (.invokestatic 268, 3) := by decide +kernel
theorem dX9_loses_14 : decode cX9_loses 14 = .ok (.istore 4, 2) := by decide +kernel
theorem dX9_loses_16 : decode cX9_loses 16 = .ok (.aload_n 0, 1) := by decide +kernel
theorem dX9_loses_17 : decode cX9_loses 17 = .ok (.getfield 7, 3) := by decide +kernel
theorem dX9_loses_20 : decode cX9_loses 20 = .ok (.sipush 280, 3) := by decide +kernel
theorem dX9_loses_23 : decode cX9_loses 23 = .ok (.iload_n 1, 1) := by decide +kernel
theorem dX9_loses_24 : decode cX9_loses 24 = .ok (.iadd, 1) := by decide +kernel
theorem dX9_loses_25 : decode cX9_loses 25 = .ok (.aload_n 0, 1) := by decide +kernel
theorem dX9_loses_26 : decode cX9_loses 26 = .ok (.getfield 7, 3) := by decide +kernel
theorem dX9_loses_29 : decode cX9_loses 29 = .ok (.sipush 280, 3) := by decide +kernel
theorem dX9_loses_32 : decode cX9_loses 32 = .ok (.iload_n 1, 1) := by decide +kernel
theorem dX9_loses_33 : decode cX9_loses 33 = .ok (.iadd, 1) := by decide +kernel
theorem dX9_loses_34 : decode cX9_loses 34 = .ok (.iaload, 1) := by decide +kernel
theorem dX9_loses_35 : decode cX9_loses 35 = .ok (.iload 4, 2) := by decide +kernel
theorem dX9_loses_37 : decode cX9_loses 37 = .ok (.isub, 1) := by decide +kernel
theorem dX9_loses_38 : decode cX9_loses 38 = .ok (.iastore, 1) := by decide +kernel
theorem dX9_loses_39 : decode cX9_loses 39 = .ok (.iload_n 3, 1) := by decide +kernel
theorem dX9_loses_40 : decode cX9_loses 40 = .ok (.iconst (-1), 1) := by decide +kernel
theorem dX9_loses_41 : decode cX9_loses 41 = .ok (.if_icmp .ne 8, 3) := by decide +kernel
theorem dX9_loses_44 : decode cX9_loses 44 = .ok (.bipush 18, 2) := by decide +kernel
theorem dX9_loses_46 : decode cX9_loses 46 = .ok (.goto 4, 3) := by decide +kernel
theorem dX9_loses_49 : decode cX9_loses 49 = .ok (.iload_n 3, 1) := by decide +kernel
theorem dX9_loses_50 : decode cX9_loses 50 = .ok (.istore 5, 2) := by decide +kernel
theorem dX9_loses_52 : decode cX9_loses 52 = .ok (.aload_n 0, 1) := by decide +kernel
theorem dX9_loses_53 : decode cX9_loses 53 = .ok (.getfield 7, 3) := by decide +kernel
theorem dX9_loses_56 : decode cX9_loses 56 = .ok (.sipush 308, 3) := by decide +kernel
theorem dX9_loses_59 : decode cX9_loses 59 = .ok (.iload 5, 2) := by decide +kernel
theorem dX9_loses_61 : decode cX9_loses 61 = .ok (.iadd, 1) := by decide +kernel
theorem dX9_loses_62 : decode cX9_loses 62 = .ok (.aload_n 0, 1) := by decide +kernel
theorem dX9_loses_63 : decode cX9_loses 63 = .ok (.getfield 7, 3) := by decide +kernel
theorem dX9_loses_66 : decode cX9_loses 66 = .ok (.sipush 308, 3) := by decide +kernel
theorem dX9_loses_69 : decode cX9_loses 69 = .ok (.iload 5, 2) := by decide +kernel
theorem dX9_loses_71 : decode cX9_loses 71 = .ok (.iadd, 1) := by decide +kernel
theorem dX9_loses_72 : decode cX9_loses 72 = .ok (.iaload, 1) := by decide +kernel
theorem dX9_loses_73 : decode cX9_loses 73 = .ok (.iload 4, 2) := by decide +kernel
theorem dX9_loses_75 : decode cX9_loses 75 = .ok (.iadd, 1) := by decide +kernel
theorem dX9_loses_76 : decode cX9_loses 76 = .ok (.iastore, 1) := by decide +kernel
theorem dX9_loses_77 : decode cX9_loses 77 = .ok (.iload 4, 2) := by decide +kernel
theorem dX9_loses_79 : decode cX9_loses 79 = .ok (.ireturn, 1) := by decide +kernel
theorem dX9_sinks_0 : decode cX9_sinks 0 = .ok (.aload_n 0, 1) := by decide +kernel
theorem dX9_sinks_1 : decode cX9_sinks 1 = .ok (.getfield 7, 3) := by decide +kernel
theorem dX9_sinks_4 : decode cX9_sinks 4 = .ok (.iconst 0, 1) := by decide +kernel
theorem dX9_sinks_5 : decode cX9_sinks 5 = .ok (.aload_n 0, 1) := by decide +kernel
theorem dX9_sinks_6 : decode cX9_sinks 6 = .ok (.getfield 7, 3) := by decide +kernel
theorem dX9_sinks_9 : decode cX9_sinks 9 = .ok (.sipush 274, 3) := by decide +kernel
theorem dX9_sinks_12 : decode cX9_sinks 12 = .ok (.iload_n 1, 1) := by decide +kernel
theorem dX9_sinks_13 : decode cX9_sinks 13 = .ok (.iadd, 1) := by decide +kernel
theorem dX9_sinks_14 : decode cX9_sinks 14 = .ok (.iaload, 1) := by decide +kernel
theorem dX9_sinks_15 : decode cX9_sinks 15 = .ok (.iadd, 1) := by decide +kernel
theorem dX9_sinks_16 : decode cX9_sinks 16 = .ok (.iaload, 1) := by decide +kernel
theorem dX9_sinks_17 : decode cX9_sinks 17 = .ok (.istore 4, 2) := by decide +kernel
theorem dX9_sinks_19 : decode cX9_sinks 19 = .ok (.iconst 0, 1) := by decide +kernel
theorem dX9_sinks_20 : decode cX9_sinks 20 = .ok (.istore 5, 2) := by decide +kernel
theorem dX9_sinks_22 : decode cX9_sinks 22 = .ok (.iload 4, 2) := by decide +kernel
theorem dX9_sinks_24 : decode cX9_sinks 24 = .ok (.iconst 1, 1) := by decide +kernel
theorem dX9_sinks_25 : decode cX9_sinks 25 = .ok (.if_icmp .ne 26, 3) := by decide +kernel
theorem dX9_sinks_28 : decode cX9_sinks 28 = .ok (.aload_n 0, 1) := by decide +kernel
theorem dX9_sinks_29 : decode cX9_sinks 29 = .ok (.iload_n 1, 1) := by decide +kernel
theorem dX9_sinks_30 : decode cX9_sinks 30 = .ok (.iload_n 2, 1) := by decide +kernel
theorem dX9_sinks_31 : decode cX9_sinks 31 = .ok (.invokevirtual 235, 3) := by decide +kernel
theorem dX9_sinks_34 : decode cX9_sinks 34 = .ok (.aload_n 0, 1) := by decide +kernel
theorem dX9_sinks_35 : decode cX9_sinks 35 = .ok (.iload_n 1, 1) := by decide +kernel
theorem dX9_sinks_36 : decode cX9_sinks 36 = .ok (.aload_n 0, 1) := by decide +kernel
theorem dX9_sinks_37 : decode cX9_sinks 37 = .ok (.bipush 115, 2) := by decide +kernel
theorem dX9_sinks_39 : decode cX9_sinks 39 = .ok (.iconst 0, 1) := by decide +kernel
theorem dX9_sinks_40 : decode cX9_sinks 40 = .ok (.bipush 99, 2) := by decide +kernel
theorem dX9_sinks_42 : decode cX9_sinks 42 = .ok (.invokevirtual 247, 3) := by decide +kernel
theorem dX9_sinks_45 : decode cX9_sinks 45 = .ok (.iload_n 3, 1) := by decide +kernel
theorem dX9_sinks_46 : decode cX9_sinks 46 = .ok (.invokevirtual 271, 3) := by decide +kernel
theorem dX9_sinks_49 : decode cX9_sinks 49 = .ok (.istore 5, 2) := by decide +kernel
theorem dX9_sinks_51 : decode cX9_sinks 51 = .ok (.aload_n 0, 1) := by decide +kernel
theorem dX9_sinks_52 : decode cX9_sinks 52 = .ok (.iload_n 1, 1) := by decide +kernel
theorem dX9_sinks_53 : decode cX9_sinks 53 = .ok (.iload_n 2, 1) := by decide +kernel
theorem dX9_sinks_54 : decode cX9_sinks 54 = .ok (.invokevirtual 235, 3) := by decide +kernel
theorem dX9_sinks_57 : decode cX9_sinks 57 = .ok (.aload_n 0, 1) := by decide +kernel
theorem dX9_sinks_58 : decode cX9_sinks 58 = .ok (.getfield 7, 3) := by decide +kernel
theorem dX9_sinks_61 : decode cX9_sinks 61 = .ok (.sipush 286, 3) := by decide +kernel
theorem dX9_sinks_64 : decode cX9_sinks 64 = .ok (.iload_n 1, 1) := by decide +kernel
theorem dX9_sinks_65 : decode cX9_sinks 65 = .ok (.iadd, 1) := by decide +kernel
theorem dX9_sinks_66 : decode cX9_sinks 66 = .ok (.iload 4, 2) := by decide +kernel
theorem dX9_sinks_68 : decode cX9_sinks 68 = .ok (.iconst 2, 1) := by decide +kernel
theorem dX9_sinks_69 : decode cX9_sinks 69 = .ok (.if_icmp .ne 7, 3) := by decide +kernel
theorem dX9_sinks_72 : decode cX9_sinks 72 = .ok (.iconst 0, 1) := by decide +kernel
theorem dX9_sinks_73 : decode cX9_sinks 73 = .ok (.goto 28, 3) := by decide +kernel
theorem dX9_sinks_76 : decode cX9_sinks 76 = .ok (.aload_n 0, 1) := by decide +kernel
theorem dX9_sinks_77 : decode cX9_sinks 77 = .ok (.getfield 7, 3) := by decide +kernel
theorem dX9_sinks_80 : decode cX9_sinks 80 = .ok (.sipush 286, 3) := by decide +kernel
theorem dX9_sinks_83 : decode cX9_sinks 83 = .ok (.iload_n 1, 1) := by decide +kernel
theorem dX9_sinks_84 : decode cX9_sinks 84 = .ok (.iadd, 1) := by decide +kernel
theorem dX9_sinks_85 : decode cX9_sinks 85 = .ok (.iaload, 1) := by decide +kernel
theorem dX9_sinks_86 : decode cX9_sinks 86 = .ok (.aload_n 0, 1) := by decide +kernel
theorem dX9_sinks_87 : decode cX9_sinks 87 = .ok (.bipush 119, 2) := by decide +kernel
theorem dX9_sinks_89 : decode cX9_sinks 89 = .ok (.iconst 0, 1) := by decide +kernel
theorem dX9_sinks_90 : decode cX9_sinks 90 = .ok (.bipush 99, 2) := by decide +kernel
theorem dX9_sinks_92 : decode cX9_sinks 92 = .ok (.invokevirtual 247, 3) := by decide +kernel
theorem dX9_sinks_95 : decode cX9_sinks 95 = .ok (.iadd, 1) := by decide +kernel
theorem dX9_sinks_96 : decode cX9_sinks 96 = .ok (.bipush 99, 2) := by decide +kernel
theorem dX9_sinks_98 : decode cX9_sinks 98 = .ok (.invokestatic 274, 3) := by decide +kernel
theorem dX9_sinks_101 : decode cX9_sinks 101 = .ok (.iastore, 1) := by decide +kernel
theorem dX9_sinks_102 : decode cX9_sinks 102 = .ok (.iload 5, 2) := by decide +kernel
theorem dX9_sinks_104 : decode cX9_sinks 104 = .ok (.ireturn, 1) := by decide +kernel
theorem dX9_herdGoes_0 : decode cX9_herdGoes 0 = .ok (.aload_n 0, 1) := by decide +kernel
theorem dX9_herdGoes_1 : decode cX9_herdGoes 1 = .ok (.iload_n 1, 1) := by decide +kernel
theorem dX9_herdGoes_2 : decode cX9_herdGoes 2 = .ok (.invokevirtual 259, 3) := by decide +kernel
theorem dX9_herdGoes_5 : decode cX9_herdGoes 5 = .ok (.istore_n 3, 1) := by decide +kernel
theorem dX9_herdGoes_6 : decode cX9_herdGoes 6 = .ok (.aload_n 0, 1) := by decide +kernel
theorem dX9_herdGoes_7 : decode cX9_herdGoes 7 = .ok (.iload_n 1, 1) := by decide +kernel
theorem dX9_herdGoes_8 : decode cX9_herdGoes 8 = .ok (.iload_n 2, 1) := by decide +kernel
theorem dX9_herdGoes_9 : decode cX9_herdGoes 9 = .ok (.invokevirtual 235, 3) := by decide +kernel
theorem dX9_herdGoes_12 : decode cX9_herdGoes 12 = .ok (.aload_n 0, 1) := by decide +kernel
theorem dX9_herdGoes_13 : decode cX9_herdGoes 13 = .ok (.getfield 7, 3) := by decide +kernel
theorem dX9_herdGoes_16 : decode cX9_herdGoes 16 = .ok (.sipush 292, 3) := by decide +kernel
theorem dX9_herdGoes_19 : decode cX9_herdGoes 19 = .ok (.iload_n 1, 1) := by decide +kernel
theorem dX9_herdGoes_20 : decode cX9_herdGoes 20 = .ok (.iadd, 1) := by decide +kernel
theorem dX9_herdGoes_21 : decode cX9_herdGoes 21 = .ok (.iaload, 1) := by decide +kernel
theorem dX9_herdGoes_22 : decode cX9_herdGoes 22 = .ok (.bipush 50, 2) := by decide +kernel
theorem dX9_herdGoes_24 : decode cX9_herdGoes 24 = .ok (.if_icmp .lt 27, 3) := by decide +kernel
theorem dX9_herdGoes_27 : decode cX9_herdGoes 27 = .ok (.iload_n 2, 1) := by decide +kernel
theorem dX9_herdGoes_28 : decode cX9_herdGoes 28 = .ok (.aload_n 0, 1) := by decide +kernel
theorem dX9_herdGoes_29 : decode cX9_herdGoes 29 = .ok (.bipush 122, 2) := by decide +kernel
theorem dX9_herdGoes_31 : decode cX9_herdGoes 31 = .ok (.iconst 0, 1) := by decide +kernel
theorem dX9_herdGoes_32 : decode cX9_herdGoes 32 = .ok (.bipush 10, 2) := by decide +kernel
theorem dX9_herdGoes_34 : decode cX9_herdGoes 34 = .ok (.invokevirtual 247, 3) := by decide +kernel
theorem dX9_herdGoes_37 : decode cX9_herdGoes 37 = .ok (.if_icmp .ge 14, 3) := by decide +kernel
theorem dX9_herdGoes_40 : decode cX9_herdGoes 40 = .ok (.iconst (-1), 1) := by decide +kernel
theorem dX9_herdGoes_41 : decode cX9_herdGoes 41 = .ok (.istore_n 3, 1) := by decide +kernel
theorem dX9_herdGoes_42 : decode cX9_herdGoes 42 = .ok (.aload_n 0, 1) := by decide +kernel
theorem dX9_herdGoes_43 : decode cX9_herdGoes 43 = .ok (.iload_n 1, 1) := by decide +kernel
theorem dX9_herdGoes_44 : decode cX9_herdGoes 44 = .ok (.iload_n 2, 1) := by decide +kernel
theorem dX9_herdGoes_45 : decode cX9_herdGoes 45 = .ok (.invokevirtual 277, 3) := by decide +kernel
theorem dX9_herdGoes_48 : decode cX9_herdGoes 48 = .ok (.goto 26, 3) := by decide +kernel
theorem dX9_herdGoes_51 : decode cX9_herdGoes 51 = .ok (.iload_n 3, 1) := by decide +kernel
theorem dX9_herdGoes_52 : decode cX9_herdGoes 52 = .ok (.iconst (-1), 1) := by decide +kernel
theorem dX9_herdGoes_53 : decode cX9_herdGoes 53 = .ok (.if_icmp .eq 16, 3) := by decide +kernel
theorem dX9_herdGoes_56 : decode cX9_herdGoes 56 = .ok (.aload_n 0, 1) := by decide +kernel
theorem dX9_herdGoes_57 : decode cX9_herdGoes 57 = .ok (.iload_n 1, 1) := by decide +kernel
theorem dX9_herdGoes_58 : decode cX9_herdGoes 58 = .ok (.aload_n 0, 1) := by decide +kernel
theorem dX9_herdGoes_59 : decode cX9_herdGoes 59 = .ok (.iload_n 3, 1) := by decide +kernel
theorem dX9_herdGoes_60 : decode cX9_herdGoes 60 = .ok (.invokevirtual 241, 3) := by decide +kernel
theorem dX9_herdGoes_63 : decode cX9_herdGoes 63 = .ok (.invokevirtual 280, 3) := by decide +kernel
theorem dX9_herdGoes_66 : decode cX9_herdGoes 66 = .ok (.goto 8, 3) := by decide +kernel
theorem dX9_herdGoes_69 : decode cX9_herdGoes 69 = .ok (.aload_n 0, 1) := by decide +kernel
theorem dX9_herdGoes_70 : decode cX9_herdGoes 70 = .ok (.iload_n 1, 1) := by decide +kernel
theorem dX9_herdGoes_71 : decode cX9_herdGoes 71 = .ok (.invokevirtual 283, 3) := by decide +kernel
theorem dX9_herdGoes_74 : decode cX9_herdGoes 74 = .ok (.aload_n 0, 1) := by decide +kernel
theorem dX9_herdGoes_75 : decode cX9_herdGoes 75 = .ok (.iload_n 1, 1) := by decide +kernel
theorem dX9_herdGoes_76 : decode cX9_herdGoes 76 = .ok (.invokevirtual 85, 3) := by decide +kernel
theorem dX9_herdGoes_79 : decode cX9_herdGoes 79 = .ok (.ifCond .ne 5, 3) := by decide +kernel
theorem dX9_herdGoes_82 : decode cX9_herdGoes 82 = .ok (.iconst 0, 1) := by decide +kernel
theorem dX9_herdGoes_83 : decode cX9_herdGoes 83 = .ok (.ireturn, 1) := by decide +kernel
theorem dX9_herdGoes_84 : decode cX9_herdGoes 84 = .ok (.aload_n 0, 1) := by decide +kernel
theorem dX9_herdGoes_85 : decode cX9_herdGoes 85 = .ok (.iload_n 1, 1) := by decide +kernel
theorem dX9_herdGoes_86 : decode cX9_herdGoes 86 = .ok (.iload_n 2, 1) := by decide +kernel
theorem dX9_herdGoes_87 : decode cX9_herdGoes 87 = .ok (.iload_n 3, 1) := by decide +kernel
theorem dX9_herdGoes_88 : decode cX9_herdGoes 88 = .ok (.invokevirtual 286, 3) := by decide +kernel
theorem dX9_herdGoes_91 : decode cX9_herdGoes 91 = .ok (.istore 4, 2) := by decide +kernel
theorem dX9_herdGoes_93 : decode cX9_herdGoes 93 = .ok (.aload_n 0, 1) := by decide +kernel
theorem dX9_herdGoes_94 : decode cX9_herdGoes 94 = .ok (.getfield 7, 3) := by decide +kernel
theorem dX9_herdGoes_97 : decode cX9_herdGoes 97 = .ok (.sipush 286, 3) := by decide +kernel
theorem dX9_herdGoes_100 : decode cX9_herdGoes 100 = .ok (.iload_n 1, 1) := by decide +kernel
theorem dX9_herdGoes_101 : decode cX9_herdGoes 101 = .ok (.iadd, 1) := by decide +kernel
theorem dX9_herdGoes_102 : decode cX9_herdGoes 102 = .ok (.iaload, 1) := by decide +kernel
theorem dX9_herdGoes_103 : decode cX9_herdGoes 103 = .ok (.bipush 99, 2) := by decide +kernel
theorem dX9_herdGoes_105 : decode cX9_herdGoes 105 = .ok (.if_icmp .ne 29, 3) := by decide +kernel
theorem dX9_herdGoes_108 : decode cX9_herdGoes 108 = .ok (.aload_n 0, 1) := by decide +kernel
theorem dX9_herdGoes_109 : decode cX9_herdGoes 109 = .ok (.iload_n 1, 1) := by decide +kernel
theorem dX9_herdGoes_110 : decode cX9_herdGoes 110 = .ok (.iload_n 2, 1) := by decide +kernel
theorem dX9_herdGoes_111 : decode cX9_herdGoes 111 = .ok (.invokevirtual 235, 3) := by decide +kernel
theorem dX9_herdGoes_114 : decode cX9_herdGoes 114 = .ok (.iload 4, 2) := by decide +kernel
theorem dX9_herdGoes_116 : decode cX9_herdGoes 116 = .ok (.aload_n 0, 1) := by decide +kernel
theorem dX9_herdGoes_117 : decode cX9_herdGoes 117 = .ok (.iload_n 1, 1) := by decide +kernel
theorem dX9_herdGoes_118 : decode cX9_herdGoes 118 = .ok (.aload_n 0, 1) := by decide +kernel
theorem dX9_herdGoes_119 : decode cX9_herdGoes 119 = .ok (.bipush 120, 2) := by decide +kernel
theorem dX9_herdGoes_121 : decode cX9_herdGoes 121 = .ok (.iconst 0, 1) := by decide +kernel
theorem dX9_herdGoes_122 : decode cX9_herdGoes 122 = .ok (.bipush 99, 2) := by decide +kernel
theorem dX9_herdGoes_124 : decode cX9_herdGoes 124 = .ok (.invokevirtual 247, 3) := by decide +kernel
theorem dX9_herdGoes_127 : decode cX9_herdGoes 127 = .ok (.iload_n 3, 1) := by decide +kernel
theorem dX9_herdGoes_128 : decode cX9_herdGoes 128 = .ok (.invokevirtual 271, 3) := by decide +kernel
theorem dX9_herdGoes_131 : decode cX9_herdGoes 131 = .ok (.iadd, 1) := by decide +kernel
theorem dX9_herdGoes_132 : decode cX9_herdGoes 132 = .ok (.istore 4, 2) := by decide +kernel
theorem dX9_herdGoes_134 : decode cX9_herdGoes 134 = .ok (.aload_n 0, 1) := by decide +kernel
theorem dX9_herdGoes_135 : decode cX9_herdGoes 135 = .ok (.iload_n 1, 1) := by decide +kernel
theorem dX9_herdGoes_136 : decode cX9_herdGoes 136 = .ok (.iload_n 2, 1) := by decide +kernel
theorem dX9_herdGoes_137 : decode cX9_herdGoes 137 = .ok (.invokevirtual 235, 3) := by decide +kernel
theorem dX9_herdGoes_140 : decode cX9_herdGoes 140 = .ok (.aload_n 0, 1) := by decide +kernel
theorem dX9_herdGoes_141 : decode cX9_herdGoes 141 = .ok (.getfield 7, 3) := by decide +kernel
theorem dX9_herdGoes_144 : decode cX9_herdGoes 144 = .ok (.sipush 292, 3) := by decide +kernel
theorem dX9_herdGoes_147 : decode cX9_herdGoes 147 = .ok (.iload_n 1, 1) := by decide +kernel
theorem dX9_herdGoes_148 : decode cX9_herdGoes 148 = .ok (.iadd, 1) := by decide +kernel
theorem dX9_herdGoes_149 : decode cX9_herdGoes 149 = .ok (.aload_n 0, 1) := by decide +kernel
theorem dX9_herdGoes_150 : decode cX9_herdGoes 150 = .ok (.getfield 7, 3) := by decide +kernel
theorem dX9_herdGoes_153 : decode cX9_herdGoes 153 = .ok (.sipush 292, 3) := by decide +kernel
theorem dX9_herdGoes_156 : decode cX9_herdGoes 156 = .ok (.iload_n 1, 1) := by decide +kernel
theorem dX9_herdGoes_157 : decode cX9_herdGoes 157 = .ok (.iadd, 1) := by decide +kernel
theorem dX9_herdGoes_158 : decode cX9_herdGoes 158 = .ok (.iaload, 1) := by decide +kernel
theorem dX9_herdGoes_159 : decode cX9_herdGoes 159 = .ok (.aload_n 0, 1) := by decide +kernel
theorem dX9_herdGoes_160 : decode cX9_herdGoes 160 = .ok (.bipush 102, 2) := by decide +kernel
theorem dX9_herdGoes_162 : decode cX9_herdGoes 162 = .ok (.bipush (-99), 2) := by decide +kernel
theorem dX9_herdGoes_164 : decode cX9_herdGoes 164 = .ok (.bipush 99, 2) := by decide +kernel
theorem dX9_herdGoes_166 : decode cX9_herdGoes 166 = .ok (.invokevirtual 247, 3) := by decide +kernel
theorem dX9_herdGoes_169 : decode cX9_herdGoes 169 = .ok (.iadd, 1) := by decide +kernel
theorem dX9_herdGoes_170 : decode cX9_herdGoes 170 = .ok (.bipush 99, 2) := by decide +kernel
theorem dX9_herdGoes_172 : decode cX9_herdGoes 172 = .ok (.invokestatic 274, 3) := by decide +kernel
theorem dX9_herdGoes_175 : decode cX9_herdGoes 175 = .ok (.iastore, 1) := by decide +kernel
theorem dX9_herdGoes_176 : decode cX9_herdGoes 176 = .ok (.iload 4, 2) := by decide +kernel
theorem dX9_herdGoes_178 : decode cX9_herdGoes 178 = .ok (.ireturn, 1) := by decide +kernel
theorem dX9_passes_0 : decode cX9_passes 0 = .ok (.iconst 0, 1) := by decide +kernel
theorem dX9_passes_1 : decode cX9_passes 1 = .ok (.istore_n 2, 1) := by decide +kernel
theorem dX9_passes_2 : decode cX9_passes 2 = .ok (.iconst 0, 1) := by decide +kernel
theorem dX9_passes_3 : decode cX9_passes 3 = .ok (.istore_n 3, 1) := by decide +kernel
theorem dX9_passes_4 : decode cX9_passes 4 = .ok (.iload_n 3, 1) := by decide +kernel
theorem dX9_passes_5 : decode cX9_passes 5 = .ok (.bipush 6, 2) := by decide +kernel
theorem dX9_passes_7 : decode cX9_passes 7 = .ok (.if_icmp .ge 26, 3) := by decide +kernel
theorem dX9_passes_10 : decode cX9_passes 10 = .ok (.aload_n 0, 1) := by decide +kernel
theorem dX9_passes_11 : decode cX9_passes 11 = .ok (.iload_n 3, 1) := by decide +kernel
theorem dX9_passes_12 : decode cX9_passes 12 = .ok (.invokevirtual 85, 3) := by decide +kernel
theorem dX9_passes_15 : decode cX9_passes 15 = .ok (.ifCond .eq 12, 3) := by decide +kernel
theorem dX9_passes_18 : decode cX9_passes 18 = .ok (.iload_n 2, 1) := by decide +kernel
theorem dX9_passes_19 : decode cX9_passes 19 = .ok (.aload_n 0, 1) := by decide +kernel
theorem dX9_passes_20 : decode cX9_passes 20 = .ok (.iload_n 3, 1) := by decide +kernel
theorem dX9_passes_21 : decode cX9_passes 21 = .ok (.iload_n 1, 1) := by decide +kernel
theorem dX9_passes_22 : decode cX9_passes 22 = .ok (.invokevirtual 289, 3) := by decide +kernel
theorem dX9_passes_25 : decode cX9_passes 25 = .ok (.iadd, 1) := by decide +kernel
theorem dX9_passes_26 : decode cX9_passes 26 = .ok (.istore_n 2, 1) := by decide +kernel
theorem dX9_passes_27 : decode cX9_passes 27 = .ok (.iinc 3 1, 3) := by decide +kernel
theorem dX9_passes_30 : decode cX9_passes 30 = .ok (.goto (-26), 3) := by decide +kernel
theorem dX9_passes_33 : decode cX9_passes 33 = .ok (.aload_n 0, 1) := by decide +kernel
theorem dX9_passes_34 : decode cX9_passes 34 = .ok (.getfield 7, 3) := by decide +kernel
theorem dX9_passes_37 : decode cX9_passes 37 = .ok (.sipush 328, 3) := by decide +kernel
theorem dX9_passes_40 : decode cX9_passes 40 = .ok (.aload_n 0, 1) := by decide +kernel
theorem dX9_passes_41 : decode cX9_passes 41 = .ok (.getfield 7, 3) := by decide +kernel
theorem dX9_passes_44 : decode cX9_passes 44 = .ok (.sipush 328, 3) := by decide +kernel
theorem dX9_passes_47 : decode cX9_passes 47 = .ok (.iaload, 1) := by decide +kernel
theorem dX9_passes_48 : decode cX9_passes 48 = .ok (.iconst 1, 1) := by decide +kernel
theorem dX9_passes_49 : decode cX9_passes 49 = .ok (.iadd, 1) := by decide +kernel
theorem dX9_passes_50 : decode cX9_passes 50 = .ok (.iastore, 1) := by decide +kernel
theorem dX9_passes_51 : decode cX9_passes 51 = .ok (.aload_n 0, 1) := by decide +kernel
theorem dX9_passes_52 : decode cX9_passes 52 = .ok (.getfield 7, 3) := by decide +kernel
theorem dX9_passes_55 : decode cX9_passes 55 = .ok (.sipush 328, 3) := by decide +kernel
theorem dX9_passes_58 : decode cX9_passes 58 = .ok (.iaload, 1) := by decide +kernel
theorem dX9_passes_59 : decode cX9_passes 59 = .ok (.bipush 8, 2) := by decide +kernel
theorem dX9_passes_61 : decode cX9_passes 61 = .ok (.if_icmp .ge 5, 3) := by decide +kernel
theorem dX9_passes_64 : decode cX9_passes 64 = .ok (.iload_n 2, 1) := by decide +kernel
theorem dX9_passes_65 : decode cX9_passes 65 = .ok (.ireturn, 1) := by decide +kernel
theorem dX9_passes_66 : decode cX9_passes 66 = .ok (.iconst 0, 1) := by decide +kernel
theorem dX9_passes_67 : decode cX9_passes 67 = .ok (.istore_n 3, 1) := by decide +kernel
theorem dX9_passes_68 : decode cX9_passes 68 = .ok (.iload_n 3, 1) := by decide +kernel
theorem dX9_passes_69 : decode cX9_passes 69 = .ok (.bipush 9, 2) := by decide +kernel
theorem dX9_passes_71 : decode cX9_passes 71 = .ok (.if_icmp .ge 63, 3) := by decide +kernel
theorem dX9_passes_74 : decode cX9_passes 74 = .ok (.aload_n 0, 1) := by decide +kernel
theorem dX9_passes_75 : decode cX9_passes 75 = .ok (.getfield 7, 3) := by decide +kernel
theorem dX9_passes_78 : decode cX9_passes 78 = .ok (.sipush 232, 3) := by decide +kernel
theorem dX9_passes_81 : decode cX9_passes 81 = .ok (.iload_n 3, 1) := by decide +kernel
theorem dX9_passes_82 : decode cX9_passes 82 = .ok (.iadd, 1) := by decide +kernel
theorem dX9_passes_83 : decode cX9_passes 83 = .ok (.aload_n 0, 1) := by decide +kernel
theorem dX9_passes_84 : decode cX9_passes 84 = .ok (.getfield 7, 3) := by decide +kernel
theorem dX9_passes_87 : decode cX9_passes 87 = .ok (.sipush 232, 3) := by decide +kernel
theorem dX9_passes_90 : decode cX9_passes 90 = .ok (.iload_n 3, 1) := by decide +kernel
theorem dX9_passes_91 : decode cX9_passes 91 = .ok (.iadd, 1) := by decide +kernel
theorem dX9_passes_92 : decode cX9_passes 92 = .ok (.iaload, 1) := by decide +kernel
theorem dX9_passes_93 : decode cX9_passes 93 = .ok (.iconst 1, 1) := by decide +kernel
theorem dX9_passes_94 : decode cX9_passes 94 = .ok (.isub, 1) := by decide +kernel
theorem dX9_passes_95 : decode cX9_passes 95 = .ok (.bipush 99, 2) := by decide +kernel
theorem dX9_passes_97 : decode cX9_passes 97 = .ok (.invokestatic 274, 3) := by decide +kernel
theorem dX9_passes_100 : decode cX9_passes 100 = .ok (.iastore, 1) := by decide +kernel
theorem dX9_passes_101 : decode cX9_passes 101 = .ok (.aload_n 0, 1) := by decide +kernel
theorem dX9_passes_102 : decode cX9_passes 102 = .ok (.getfield 7, 3) := by decide +kernel
theorem dX9_passes_105 : decode cX9_passes 105 = .ok (.sipush 244, 3) := by decide +kernel
theorem dX9_passes_108 : decode cX9_passes 108 = .ok (.iload_n 3, 1) := by decide +kernel
theorem dX9_passes_109 : decode cX9_passes 109 = .ok (.iadd, 1) := by decide +kernel
theorem dX9_passes_110 : decode cX9_passes 110 = .ok (.aload_n 0, 1) := by decide +kernel
theorem dX9_passes_111 : decode cX9_passes 111 = .ok (.getfield 7, 3) := by decide +kernel
theorem dX9_passes_114 : decode cX9_passes 114 = .ok (.sipush 244, 3) := by decide +kernel
theorem dX9_passes_117 : decode cX9_passes 117 = .ok (.iload_n 3, 1) := by decide +kernel
theorem dX9_passes_118 : decode cX9_passes 118 = .ok (.iadd, 1) := by decide +kernel
theorem dX9_passes_119 : decode cX9_passes 119 = .ok (.iaload, 1) := by decide +kernel
theorem dX9_passes_120 : decode cX9_passes 120 = .ok (.iconst 1, 1) := by decide +kernel
theorem dX9_passes_121 : decode cX9_passes 121 = .ok (.isub, 1) := by decide +kernel
theorem dX9_passes_122 : decode cX9_passes 122 = .ok (.bipush 99, 2) := by decide +kernel
theorem dX9_passes_124 : decode cX9_passes 124 = .ok (.invokestatic 274, 3) := by decide +kernel
theorem dX9_passes_127 : decode cX9_passes 127 = .ok (.iastore, 1) := by decide +kernel
theorem dX9_passes_128 : decode cX9_passes 128 = .ok (.iinc 3 1, 3) := by decide +kernel
theorem dX9_passes_131 : decode cX9_passes 131 = .ok (.goto (-63), 3) := by decide +kernel
theorem dX9_passes_134 : decode cX9_passes 134 = .ok (.aload_n 0, 1) := by decide +kernel
theorem dX9_passes_135 : decode cX9_passes 135 = .ok (.getfield 7, 3) := by decide +kernel
theorem dX9_passes_138 : decode cX9_passes 138 = .ok (.sipush 328, 3) := by decide +kernel
theorem dX9_passes_141 : decode cX9_passes 141 = .ok (.iconst 0, 1) := by decide +kernel
theorem dX9_passes_142 : decode cX9_passes 142 = .ok (.iastore, 1) := by decide +kernel
theorem dX9_passes_143 : decode cX9_passes 143 = .ok (.aload_n 0, 1) := by decide +kernel
theorem dX9_passes_144 : decode cX9_passes 144 = .ok (.getfield 7, 3) := by decide +kernel
theorem dX9_passes_147 : decode cX9_passes 147 = .ok (.sipush 329, 3) := by decide +kernel
theorem dX9_passes_150 : decode cX9_passes 150 = .ok (.iconst 0, 1) := by decide +kernel
theorem dX9_passes_151 : decode cX9_passes 151 = .ok (.iastore, 1) := by decide +kernel
theorem dX9_passes_152 : decode cX9_passes 152 = .ok (.aload_n 0, 1) := by decide +kernel
theorem dX9_passes_153 : decode cX9_passes 153 = .ok (.getfield 7, 3) := by decide +kernel
theorem dX9_passes_156 : decode cX9_passes 156 = .ok (.sipush 327, 3) := by decide +kernel
theorem dX9_passes_159 : decode cX9_passes 159 = .ok (.aload_n 0, 1) := by decide +kernel
theorem dX9_passes_160 : decode cX9_passes 160 = .ok (.getfield 7, 3) := by decide +kernel
theorem dX9_passes_163 : decode cX9_passes 163 = .ok (.sipush 327, 3) := by decide +kernel
theorem dX9_passes_166 : decode cX9_passes 166 = .ok (.iaload, 1) := by decide +kernel
theorem dX9_passes_167 : decode cX9_passes 167 = .ok (.iconst 1, 1) := by decide +kernel
theorem dX9_passes_168 : decode cX9_passes 168 = .ok (.iadd, 1) := by decide +kernel
theorem dX9_passes_169 : decode cX9_passes 169 = .ok (.iastore, 1) := by decide +kernel
theorem dX9_passes_170 : decode cX9_passes 170 = .ok (.iload_n 2, 1) := by decide +kernel
theorem dX9_passes_171 : decode cX9_passes 171 = .ok (.ireturn, 1) := by decide +kernel
theorem dX9_draws_0 : decode cX9_draws 0 = .ok (.aload_n 0, 1) := by decide +kernel
theorem dX9_draws_1 : decode cX9_draws 1 = .ok (.getfield 7, 3) := by decide +kernel
theorem dX9_draws_4 : decode cX9_draws 4 = .ok (.sipush 330, 3) := by decide +kernel
theorem dX9_draws_7 : decode cX9_draws 7 = .ok (.sipush 25173, 3) := by decide +kernel
theorem dX9_draws_10 : decode cX9_draws 10 = .ok (.aload_n 0, 1) := by decide +kernel
theorem dX9_draws_11 : decode cX9_draws 11 = .ok (.getfield 7, 3) := by decide +kernel
theorem dX9_draws_14 : decode cX9_draws 14 = .ok (.sipush 330, 3) := by decide +kernel
theorem dX9_draws_17 : decode cX9_draws 17 = .ok (.iaload, 1) := by decide +kernel
theorem dX9_draws_18 : decode cX9_draws 18 = .ok (.imul, 1) := by decide +kernel
theorem dX9_draws_19 : decode cX9_draws 19 = .ok (.sipush 13849, 3) := by decide +kernel
theorem dX9_draws_22 : decode cX9_draws 22 = .ok (.iadd, 1) := by decide +kernel
theorem dX9_draws_23 : decode cX9_draws 23 = .ok (.ldc_w 292, 3) := by decide +kernel
theorem dX9_draws_26 : decode cX9_draws 26 = .ok (.irem, 1) := by decide +kernel
theorem dX9_draws_27 : decode cX9_draws 27 = .ok (.iastore, 1) := by decide +kernel
theorem dX9_draws_28 : decode cX9_draws 28 = .ok (.aload_n 0, 1) := by decide +kernel
theorem dX9_draws_29 : decode cX9_draws 29 = .ok (.getfield 7, 3) := by decide +kernel
theorem dX9_draws_32 : decode cX9_draws 32 = .ok (.sipush 330, 3) := by decide +kernel
theorem dX9_draws_35 : decode cX9_draws 35 = .ok (.iaload, 1) := by decide +kernel
theorem dX9_draws_36 : decode cX9_draws 36 = .ok (.bipush 10, 2) := by decide +kernel
theorem dX9_draws_38 : decode cX9_draws 38 = .ok (.irem, 1) := by decide +kernel
theorem dX9_draws_39 : decode cX9_draws 39 = .ok (.ireturn, 1) := by decide +kernel
theorem dX9_runs_0 : decode cX9_runs 0 = .ok (.iconst 0, 1) := by decide +kernel
theorem dX9_runs_1 : decode cX9_runs 1 = .ok (.istore_n 2, 1) := by decide +kernel
theorem dX9_runs_2 : decode cX9_runs 2 = .ok (.iconst 0, 1) := by decide +kernel
theorem dX9_runs_3 : decode cX9_runs 3 = .ok (.istore_n 3, 1) := by decide +kernel
theorem dX9_runs_4 : decode cX9_runs 4 = .ok (.iload_n 3, 1) := by decide +kernel
theorem dX9_runs_5 : decode cX9_runs 5 = .ok (.iload_n 1, 1) := by decide +kernel
theorem dX9_runs_6 : decode cX9_runs 6 = .ok (.if_icmp .ge 20, 3) := by decide +kernel
theorem dX9_runs_9 : decode cX9_runs 9 = .ok (.iload_n 2, 1) := by decide +kernel
theorem dX9_runs_10 : decode cX9_runs 10 = .ok (.aload_n 0, 1) := by decide +kernel
theorem dX9_runs_11 : decode cX9_runs 11 = .ok (.aload_n 0, 1) := by decide +kernel
theorem dX9_runs_12 : decode cX9_runs 12 = .ok (.invokevirtual 293, 3) := by decide +kernel
theorem dX9_runs_15 : decode cX9_runs 15 = .ok (.invokevirtual 296, 3) := by decide +kernel
theorem dX9_runs_18 : decode cX9_runs 18 = .ok (.iadd, 1) := by decide +kernel
theorem dX9_runs_19 : decode cX9_runs 19 = .ok (.istore_n 2, 1) := by decide +kernel
theorem dX9_runs_20 : decode cX9_runs 20 = .ok (.iinc 3 1, 3) := by decide +kernel
theorem dX9_runs_23 : decode cX9_runs 23 = .ok (.goto (-19), 3) := by decide +kernel
theorem dX9_runs_26 : decode cX9_runs 26 = .ok (.iload_n 2, 1) := by decide +kernel
theorem dX9_runs_27 : decode cX9_runs 27 = .ok (.ireturn, 1) := by decide +kernel
theorem dX9_hours_0 : decode cX9_hours 0 = .ok (.iload_n 1, 1) := by decide +kernel
theorem dX9_hours_1 : decode cX9_hours 1 = .ok (.iconst 1, 1) := by decide +kernel
theorem dX9_hours_2 : decode cX9_hours 2 = .ok (.bipush 24, 2) := by decide +kernel
theorem dX9_hours_4 : decode cX9_hours 4 = .ok (.invokestatic 92, 3) := by decide +kernel
theorem dX9_hours_7 : decode cX9_hours 7 = .ok (.ifCond .eq 11, 3) := by decide +kernel
theorem dX9_hours_10 : decode cX9_hours 10 = .ok (.aload_n 0, 1) := by decide +kernel
theorem dX9_hours_11 : decode cX9_hours 11 = .ok (.iload_n 1, 1) := by decide +kernel
theorem dX9_hours_12 : decode cX9_hours 12 = .ok (.invokevirtual 299, 3) := by decide +kernel
theorem dX9_hours_15 : decode cX9_hours 15 = .ok (.goto 4, 3) := by decide +kernel
theorem dX9_hours_18 : decode cX9_hours 18 = .ok (.iconst (-1), 1) := by decide +kernel
theorem dX9_hours_19 : decode cX9_hours 19 = .ok (.ireturn, 1) := by decide +kernel
theorem dX9_hour_0 : decode cX9_hour 0 = .ok (.iload_n 1, 1) := by decide +kernel
theorem dX9_hour_1 : decode cX9_hour 1 = .ok (.iconst 0, 1) := by decide +kernel
theorem dX9_hour_2 : decode cX9_hour 2 = .ok (.bipush 9, 2) := by decide +kernel
theorem dX9_hour_4 : decode cX9_hour 4 = .ok (.invokestatic 92, 3) := by decide +kernel
theorem dX9_hour_7 : decode cX9_hour 7 = .ok (.ifCond .eq 11, 3) := by decide +kernel
theorem dX9_hour_10 : decode cX9_hour 10 = .ok (.aload_n 0, 1) := by decide +kernel
theorem dX9_hour_11 : decode cX9_hour 11 = .ok (.iload_n 1, 1) := by decide +kernel
theorem dX9_hour_12 : decode cX9_hour 12 = .ok (.invokevirtual 296, 3) := by decide +kernel
theorem dX9_hour_15 : decode cX9_hour 15 = .ok (.goto 4, 3) := by decide +kernel
theorem dX9_hour_18 : decode cX9_hour 18 = .ok (.iconst (-1), 1) := by decide +kernel
theorem dX9_hour_19 : decode cX9_hour 19 = .ok (.ireturn, 1) := by decide +kernel
theorem dX9_living_0 : decode cX9_living 0 = .ok (.iconst 0, 1) := by decide +kernel
theorem dX9_living_1 : decode cX9_living 1 = .ok (.istore_n 1, 1) := by decide +kernel
theorem dX9_living_2 : decode cX9_living 2 = .ok (.iconst 0, 1) := by decide +kernel
theorem dX9_living_3 : decode cX9_living 3 = .ok (.istore_n 2, 1) := by decide +kernel
theorem dX9_living_4 : decode cX9_living 4 = .ok (.iload_n 2, 1) := by decide +kernel
theorem dX9_living_5 : decode cX9_living 5 = .ok (.bipush 6, 2) := by decide +kernel
theorem dX9_living_7 : decode cX9_living 7 = .ok (.if_icmp .ge 34, 3) := by decide +kernel
theorem dX9_living_10 : decode cX9_living 10 = .ok (.iload_n 1, 1) := by decide +kernel
theorem dX9_living_11 : decode cX9_living 11 = .ok (.aload_n 0, 1) := by decide +kernel
theorem dX9_living_12 : decode cX9_living 12 = .ok (.iload_n 2, 1) := by decide +kernel
theorem dX9_living_13 : decode cX9_living 13 = .ok (.invokevirtual 81, 3) := by decide +kernel
theorem dX9_living_16 : decode cX9_living 16 = .ok (.ifCond .eq 16, 3) := by decide +kernel
theorem dX9_living_19 : decode cX9_living 19 = .ok (.aload_n 0, 1) := by decide +kernel
theorem dX9_living_20 : decode cX9_living 20 = .ok (.getfield 7, 3) := by decide +kernel
theorem dX9_living_23 : decode cX9_living 23 = .ok (.sipush 280, 3) := by decide +kernel
theorem dX9_living_26 : decode cX9_living 26 = .ok (.iload_n 2, 1) := by decide +kernel
theorem dX9_living_27 : decode cX9_living 27 = .ok (.iadd, 1) := by decide +kernel
theorem dX9_living_28 : decode cX9_living 28 = .ok (.iaload, 1) := by decide +kernel
theorem dX9_living_29 : decode cX9_living 29 = .ok (.goto 4, 3) := by decide +kernel
theorem dX9_living_32 : decode cX9_living 32 = .ok (.iconst 0, 1) := by decide +kernel
theorem dX9_living_33 : decode cX9_living 33 = .ok (.iadd, 1) := by decide +kernel
theorem dX9_living_34 : decode cX9_living 34 = .ok (.istore_n 1, 1) := by decide +kernel
theorem dX9_living_35 : decode cX9_living 35 = .ok (.iinc 2 1, 3) := by decide +kernel
theorem dX9_living_38 : decode cX9_living 38 = .ok (.goto (-34), 3) := by decide +kernel
theorem dX9_living_41 : decode cX9_living 41 = .ok (.iload_n 1, 1) := by decide +kernel
theorem dX9_living_42 : decode cX9_living 42 = .ok (.ireturn, 1) := by decide +kernel
theorem dX9_through_0 : decode cX9_through 0 = .ok (.iconst 0, 1) := by decide +kernel
theorem dX9_through_1 : decode cX9_through 1 = .ok (.istore_n 1, 1) := by decide +kernel
theorem dX9_through_2 : decode cX9_through 2 = .ok (.iconst 0, 1) := by decide +kernel
theorem dX9_through_3 : decode cX9_through 3 = .ok (.istore_n 2, 1) := by decide +kernel
theorem dX9_through_4 : decode cX9_through 4 = .ok (.iload_n 2, 1) := by decide +kernel
theorem dX9_through_5 : decode cX9_through 5 = .ok (.bipush 6, 2) := by decide +kernel
theorem dX9_through_7 : decode cX9_through 7 = .ok (.if_icmp .ge 50, 3) := by decide +kernel
theorem dX9_through_10 : decode cX9_through 10 = .ok (.iload_n 1, 1) := by decide +kernel
theorem dX9_through_11 : decode cX9_through 11 = .ok (.aload_n 0, 1) := by decide +kernel
theorem dX9_through_12 : decode cX9_through 12 = .ok (.iload_n 2, 1) := by decide +kernel
theorem dX9_through_13 : decode cX9_through 13 = .ok (.invokevirtual 81, 3) := by decide +kernel
theorem dX9_through_16 : decode cX9_through 16 = .ok (.ifCond .eq 32, 3) := by decide +kernel
theorem dX9_through_19 : decode cX9_through 19 = .ok (.aload_n 0, 1) := by decide +kernel
theorem dX9_through_20 : decode cX9_through 20 = .ok (.getfield 7, 3) := by decide +kernel
theorem dX9_through_23 : decode cX9_through 23 = .ok (.sipush 274, 3) := by decide +kernel
theorem dX9_through_26 : decode cX9_through 26 = .ok (.iload_n 2, 1) := by decide +kernel
theorem dX9_through_27 : decode cX9_through 27 = .ok (.iadd, 1) := by decide +kernel
theorem dX9_through_28 : decode cX9_through 28 = .ok (.iaload, 1) := by decide +kernel
theorem dX9_through_29 : decode cX9_through 29 = .ok (.sipush 196, 3) := by decide +kernel
theorem dX9_through_32 : decode cX9_through 32 = .ok (.if_icmp .ne 16, 3) := by decide +kernel
theorem dX9_through_35 : decode cX9_through 35 = .ok (.aload_n 0, 1) := by decide +kernel
theorem dX9_through_36 : decode cX9_through 36 = .ok (.getfield 7, 3) := by decide +kernel
theorem dX9_through_39 : decode cX9_through 39 = .ok (.sipush 280, 3) := by decide +kernel
theorem dX9_through_42 : decode cX9_through 42 = .ok (.iload_n 2, 1) := by decide +kernel
theorem dX9_through_43 : decode cX9_through 43 = .ok (.iadd, 1) := by decide +kernel
theorem dX9_through_44 : decode cX9_through 44 = .ok (.iaload, 1) := by decide +kernel
theorem dX9_through_45 : decode cX9_through 45 = .ok (.goto 4, 3) := by decide +kernel
theorem dX9_through_48 : decode cX9_through 48 = .ok (.iconst 0, 1) := by decide +kernel
theorem dX9_through_49 : decode cX9_through 49 = .ok (.iadd, 1) := by decide +kernel
theorem dX9_through_50 : decode cX9_through 50 = .ok (.istore_n 1, 1) := by decide +kernel
theorem dX9_through_51 : decode cX9_through 51 = .ok (.iinc 2 1, 3) := by decide +kernel
theorem dX9_through_54 : decode cX9_through 54 = .ok (.goto (-50), 3) := by decide +kernel
theorem dX9_through_57 : decode cX9_through 57 = .ok (.iload_n 1, 1) := by decide +kernel
theorem dX9_through_58 : decode cX9_through 58 = .ok (.ireturn, 1) := by decide +kernel
theorem dX9_copies_0 : decode cX9_copies 0 = .ok (.iconst 0, 1) := by decide +kernel
theorem dX9_copies_1 : decode cX9_copies 1 = .ok (.istore_n 2, 1) := by decide +kernel
theorem dX9_copies_2 : decode cX9_copies 2 = .ok (.iload_n 2, 1) := by decide +kernel
theorem dX9_copies_3 : decode cX9_copies 3 = .ok (.sipush 331, 3) := by decide +kernel
theorem dX9_copies_6 : decode cX9_copies 6 = .ok (.if_icmp .ge 15, 3) := by decide +kernel
theorem dX9_copies_9 : decode cX9_copies 9 = .ok (.aload_n 1, 1) := by decide +kernel
theorem dX9_copies_10 : decode cX9_copies 10 = .ok (.iload_n 2, 1) := by decide +kernel
theorem dX9_copies_11 : decode cX9_copies 11 = .ok (.aload_n 0, 1) := by decide +kernel
theorem dX9_copies_12 : decode cX9_copies 12 = .ok (.iload_n 2, 1) := by decide +kernel
theorem dX9_copies_13 : decode cX9_copies 13 = .ok (.iaload, 1) := by decide +kernel
theorem dX9_copies_14 : decode cX9_copies 14 = .ok (.iastore, 1) := by decide +kernel
theorem dX9_copies_15 : decode cX9_copies 15 = .ok (.iinc 2 1, 3) := by decide +kernel
theorem dX9_copies_18 : decode cX9_copies 18 = .ok (.goto (-16), 3) := by decide +kernel
theorem dX9_copies_21 : decode cX9_copies 21 = .ok (.return_, 1) := by decide +kernel
theorem dX9_begins_0 : decode cX9_begins 0 = .ok (.aload_n 0, 1) := by decide +kernel
theorem dX9_begins_1 : decode cX9_begins 1 = .ok (.getfield 7, 3) := by decide +kernel
theorem dX9_begins_4 : decode cX9_begins 4 = .ok (.aload_n 0, 1) := by decide +kernel
theorem dX9_begins_5 : decode cX9_begins 5 = .ok (.getfield 13, 3) := by decide +kernel
theorem dX9_begins_8 : decode cX9_begins 8 = .ok (.invokestatic 302, 3) := by decide +kernel
theorem dX9_begins_11 : decode cX9_begins 11 = .ok (.return_, 1) := by decide +kernel
theorem dX9_again_0 : decode cX9_again 0 = .ok (.aload_n 0, 1) := by decide +kernel
theorem dX9_again_1 : decode cX9_again 1 = .ok (.getfield 13, 3) := by decide +kernel
theorem dX9_again_4 : decode cX9_again 4 = .ok (.aload_n 0, 1) := by decide +kernel
theorem dX9_again_5 : decode cX9_again 5 = .ok (.getfield 7, 3) := by decide +kernel
theorem dX9_again_8 : decode cX9_again 8 = .ok (.invokestatic 302, 3) := by decide +kernel
theorem dX9_again_11 : decode cX9_again 11 = .ok (.return_, 1) := by decide +kernel
theorem dX9_tried_0 : decode cX9_tried 0 = .ok (.iload_n 2, 1) := by decide +kernel
theorem dX9_tried_1 : decode cX9_tried 1 = .ok (.bipush 10, 2) := by decide +kernel
theorem dX9_tried_3 : decode cX9_tried 3 = .ok (.bipush 49, 2) := by decide +kernel
theorem dX9_tried_5 : decode cX9_tried 5 = .ok (.invokestatic 92, 3) := by decide +kernel
theorem dX9_tried_8 : decode cX9_tried 8 = .ok (.ifCond .eq 18, 3) := by decide +kernel
theorem dX9_tried_11 : decode cX9_tried 11 = .ok (.aload_n 0, 1) := by decide +kernel
theorem dX9_tried_12 : decode cX9_tried 12 = .ok (.iload_n 2, 1) := by decide +kernel
theorem dX9_tried_13 : decode cX9_tried 13 = .ok (.bipush 10, 2) := by decide +kernel
theorem dX9_tried_15 : decode cX9_tried 15 = .ok (.irem, 1) := by decide +kernel
theorem dX9_tried_16 : decode cX9_tried 16 = .ok (.invokevirtual 81, 3) := by decide +kernel
theorem dX9_tried_19 : decode cX9_tried 19 = .ok (.ifCond .eq 7, 3) := by decide +kernel
theorem dX9_tried_22 : decode cX9_tried 22 = .ok (.iconst 1, 1) := by decide +kernel
theorem dX9_tried_23 : decode cX9_tried 23 = .ok (.goto 4, 3) := by decide +kernel
theorem dX9_tried_26 : decode cX9_tried 26 = .ok (.iconst 0, 1) := by decide +kernel
theorem dX9_tried_27 : decode cX9_tried 27 = .ok (.istore_n 3, 1) := by decide +kernel
theorem dX9_tried_28 : decode cX9_tried 28 = .ok (.iload_n 1, 1) := by decide +kernel
theorem dX9_tried_29 : decode cX9_tried 29 = .ok (.iconst 1, 1) := by decide +kernel
theorem dX9_tried_30 : decode cX9_tried 30 = .ok (.bipush 24, 2) := by decide +kernel
theorem dX9_tried_32 : decode cX9_tried 32 = .ok (.invokestatic 92, 3) := by decide +kernel
theorem dX9_tried_35 : decode cX9_tried 35 = .ok (.ifCond .eq 16, 3) := by decide +kernel
theorem dX9_tried_38 : decode cX9_tried 38 = .ok (.iload_n 2, 1) := by decide +kernel
theorem dX9_tried_39 : decode cX9_tried 39 = .ok (.iconst 0, 1) := by decide +kernel
theorem dX9_tried_40 : decode cX9_tried 40 = .ok (.iconst 2, 1) := by decide +kernel
theorem dX9_tried_41 : decode cX9_tried 41 = .ok (.invokestatic 92, 3) := by decide +kernel
theorem dX9_tried_44 : decode cX9_tried 44 = .ok (.ifCond .ne 9, 3) := by decide +kernel
theorem dX9_tried_47 : decode cX9_tried 47 = .ok (.iload_n 3, 1) := by decide +kernel
theorem dX9_tried_48 : decode cX9_tried 48 = .ok (.ifCond .ne 5, 3) := by decide +kernel
theorem dX9_tried_51 : decode cX9_tried 51 = .ok (.iconst (-1), 1) := by decide +kernel
theorem dX9_tried_52 : decode cX9_tried 52 = .ok (.ireturn, 1) := by decide +kernel
theorem dX9_tried_53 : decode cX9_tried 53 = .ok (.aload_n 0, 1) := by decide +kernel
theorem dX9_tried_54 : decode cX9_tried 54 = .ok (.invokevirtual 306, 3) := by decide +kernel
theorem dX9_tried_57 : decode cX9_tried 57 = .ok (.aload_n 0, 1) := by decide +kernel
theorem dX9_tried_58 : decode cX9_tried 58 = .ok (.iload_n 1, 1) := by decide +kernel
theorem dX9_tried_59 : decode cX9_tried 59 = .ok (.invokevirtual 299, 3) := by decide +kernel
theorem dX9_tried_62 : decode cX9_tried 62 = .ok (.istore 4, 2) := by decide +kernel
theorem dX9_tried_64 : decode cX9_tried 64 = .ok (.iload_n 2, 1) := by decide +kernel
theorem dX9_tried_65 : decode cX9_tried 65 = .ok (.bipush 10, 2) := by decide +kernel
theorem dX9_tried_67 : decode cX9_tried 67 = .ok (.irem, 1) := by decide +kernel
theorem dX9_tried_68 : decode cX9_tried 68 = .ok (.istore 5, 2) := by decide +kernel
theorem dX9_tried_70 : decode cX9_tried 70 = .ok (.iload_n 2, 1) := by decide +kernel
theorem dX9_tried_71 : decode cX9_tried 71 = .ok (.ifCond .ne 8, 3) := by decide +kernel
theorem dX9_tried_74 : decode cX9_tried 74 = .ok (.iload 4, 2) := by decide +kernel
theorem dX9_tried_76 : decode cX9_tried 76 = .ok (.goto 98, 3) := by decide +kernel
theorem dX9_tried_79 : decode cX9_tried 79 = .ok (.iload_n 2, 1) := by decide +kernel
theorem dX9_tried_80 : decode cX9_tried 80 = .ok (.iconst 1, 1) := by decide +kernel
theorem dX9_tried_81 : decode cX9_tried 81 = .ok (.if_icmp .ne 10, 3) := by decide +kernel
theorem dX9_tried_84 : decode cX9_tried 84 = .ok (.aload_n 0, 1) := by decide +kernel
theorem dX9_tried_85 : decode cX9_tried 85 = .ok (.invokevirtual 309, 3) := by decide +kernel
theorem dX9_tried_88 : decode cX9_tried 88 = .ok (.goto 86, 3) := by decide +kernel
theorem dX9_tried_91 : decode cX9_tried 91 = .ok (.iload_n 2, 1) := by decide +kernel
theorem dX9_tried_92 : decode cX9_tried 92 = .ok (.iconst 2, 1) := by decide +kernel
theorem dX9_tried_93 : decode cX9_tried 93 = .ok (.if_icmp .ne 10, 3) := by decide +kernel
theorem dX9_tried_96 : decode cX9_tried 96 = .ok (.aload_n 0, 1) := by decide +kernel
theorem dX9_tried_97 : decode cX9_tried 97 = .ok (.invokevirtual 312, 3) := by decide +kernel
theorem dX9_tried_100 : decode cX9_tried 100 = .ok (.goto 74, 3) := by decide +kernel
theorem dX9_tried_103 : decode cX9_tried 103 = .ok (.iload_n 2, 1) := by decide +kernel
theorem dX9_tried_104 : decode cX9_tried 104 = .ok (.bipush 20, 2) := by decide +kernel
theorem dX9_tried_106 : decode cX9_tried 106 = .ok (.if_icmp .ge 17, 3) := by decide +kernel
theorem dX9_tried_109 : decode cX9_tried 109 = .ok (.aload_n 0, 1) := by decide +kernel
theorem dX9_tried_110 : decode cX9_tried 110 = .ok (.getfield 7, 3) := by decide +kernel
theorem dX9_tried_113 : decode cX9_tried 113 = .ok (.sipush 280, 3) := by decide +kernel
theorem dX9_tried_116 : decode cX9_tried 116 = .ok (.iload 5, 2) := by decide +kernel
theorem dX9_tried_118 : decode cX9_tried 118 = .ok (.iadd, 1) := by decide +kernel
theorem dX9_tried_119 : decode cX9_tried 119 = .ok (.iaload, 1) := by decide +kernel
theorem dX9_tried_120 : decode cX9_tried 120 = .ok (.goto 54, 3) := by decide +kernel
theorem dX9_tried_123 : decode cX9_tried 123 = .ok (.iload_n 2, 1) := by decide +kernel
theorem dX9_tried_124 : decode cX9_tried 124 = .ok (.bipush 30, 2) := by decide +kernel
theorem dX9_tried_126 : decode cX9_tried 126 = .ok (.if_icmp .ge 17, 3) := by decide +kernel
theorem dX9_tried_129 : decode cX9_tried 129 = .ok (.aload_n 0, 1) := by decide +kernel
theorem dX9_tried_130 : decode cX9_tried 130 = .ok (.getfield 7, 3) := by decide +kernel
theorem dX9_tried_133 : decode cX9_tried 133 = .ok (.sipush 274, 3) := by decide +kernel
theorem dX9_tried_136 : decode cX9_tried 136 = .ok (.iload 5, 2) := by decide +kernel
theorem dX9_tried_138 : decode cX9_tried 138 = .ok (.iadd, 1) := by decide +kernel
theorem dX9_tried_139 : decode cX9_tried 139 = .ok (.iaload, 1) := by decide +kernel
theorem dX9_tried_140 : decode cX9_tried 140 = .ok (.goto 34, 3) := by decide +kernel
theorem dX9_tried_143 : decode cX9_tried 143 = .ok (.iload_n 2, 1) := by decide +kernel
theorem dX9_tried_144 : decode cX9_tried 144 = .ok (.bipush 40, 2) := by decide +kernel
theorem dX9_tried_146 : decode cX9_tried 146 = .ok (.if_icmp .ge 17, 3) := by decide +kernel
theorem dX9_tried_149 : decode cX9_tried 149 = .ok (.aload_n 0, 1) := by decide +kernel
theorem dX9_tried_150 : decode cX9_tried 150 = .ok (.getfield 7, 3) := by decide +kernel
theorem dX9_tried_153 : decode cX9_tried 153 = .ok (.sipush 286, 3) := by decide +kernel
theorem dX9_tried_156 : decode cX9_tried 156 = .ok (.iload 5, 2) := by decide +kernel
theorem dX9_tried_158 : decode cX9_tried 158 = .ok (.iadd, 1) := by decide +kernel
theorem dX9_tried_159 : decode cX9_tried 159 = .ok (.iaload, 1) := by decide +kernel
theorem dX9_tried_160 : decode cX9_tried 160 = .ok (.goto 14, 3) := by decide +kernel
theorem dX9_tried_163 : decode cX9_tried 163 = .ok (.aload_n 0, 1) := by decide +kernel
theorem dX9_tried_164 : decode cX9_tried 164 = .ok (.getfield 7, 3) := by decide +kernel
theorem dX9_tried_167 : decode cX9_tried 167 = .ok (.sipush 292, 3) := by decide +kernel
theorem dX9_tried_170 : decode cX9_tried 170 = .ok (.iload 5, 2) := by decide +kernel
theorem dX9_tried_172 : decode cX9_tried 172 = .ok (.iadd, 1) := by decide +kernel
theorem dX9_tried_173 : decode cX9_tried 173 = .ok (.iaload, 1) := by decide +kernel
theorem dX9_tried_174 : decode cX9_tried 174 = .ok (.istore 6, 2) := by decide +kernel
theorem dX9_tried_176 : decode cX9_tried 176 = .ok (.aload_n 0, 1) := by decide +kernel
theorem dX9_tried_177 : decode cX9_tried 177 = .ok (.invokevirtual 315, 3) := by decide +kernel
theorem dX9_tried_180 : decode cX9_tried 180 = .ok (.iload 6, 2) := by decide +kernel
theorem dX9_tried_182 : decode cX9_tried 182 = .ok (.ireturn, 1) := by decide +kernel
theorem dX9_herdIs_0 : decode cX9_herdIs 0 = .ok (.aload_n 0, 1) := by decide +kernel
theorem dX9_herdIs_1 : decode cX9_herdIs 1 = .ok (.iload_n 1, 1) := by decide +kernel
theorem dX9_herdIs_2 : decode cX9_herdIs 2 = .ok (.invokevirtual 81, 3) := by decide +kernel
theorem dX9_herdIs_5 : decode cX9_herdIs 5 = .ok (.ifCond .ne 5, 3) := by decide +kernel
theorem dX9_herdIs_8 : decode cX9_herdIs 8 = .ok (.iconst (-1), 1) := by decide +kernel
theorem dX9_herdIs_9 : decode cX9_herdIs 9 = .ok (.ireturn, 1) := by decide +kernel
theorem dX9_herdIs_10 : decode cX9_herdIs 10 = .ok (.iload_n 2, 1) := by decide +kernel
theorem dX9_herdIs_11 : decode cX9_herdIs 11 = .ok (.tableswitch 106 0 5 #[37, 48, 59, 70, 81, 92], 37) := by decide +kernel
theorem dX9_herdIs_48 : decode cX9_herdIs 48 = .ok (.aload_n 0, 1) := by decide +kernel
theorem dX9_herdIs_49 : decode cX9_herdIs 49 = .ok (.getfield 7, 3) := by decide +kernel
theorem dX9_herdIs_52 : decode cX9_herdIs 52 = .ok (.sipush 274, 3) := by decide +kernel
theorem dX9_herdIs_55 : decode cX9_herdIs 55 = .ok (.iload_n 1, 1) := by decide +kernel
theorem dX9_herdIs_56 : decode cX9_herdIs 56 = .ok (.iadd, 1) := by decide +kernel
theorem dX9_herdIs_57 : decode cX9_herdIs 57 = .ok (.iaload, 1) := by decide +kernel
theorem dX9_herdIs_58 : decode cX9_herdIs 58 = .ok (.ireturn, 1) := by decide +kernel
theorem dX9_herdIs_59 : decode cX9_herdIs 59 = .ok (.aload_n 0, 1) := by decide +kernel
theorem dX9_herdIs_60 : decode cX9_herdIs 60 = .ok (.getfield 7, 3) := by decide +kernel
theorem dX9_herdIs_63 : decode cX9_herdIs 63 = .ok (.sipush 280, 3) := by decide +kernel
theorem dX9_herdIs_66 : decode cX9_herdIs 66 = .ok (.iload_n 1, 1) := by decide +kernel
theorem dX9_herdIs_67 : decode cX9_herdIs 67 = .ok (.iadd, 1) := by decide +kernel
theorem dX9_herdIs_68 : decode cX9_herdIs 68 = .ok (.iaload, 1) := by decide +kernel
theorem dX9_herdIs_69 : decode cX9_herdIs 69 = .ok (.ireturn, 1) := by decide +kernel
theorem dX9_herdIs_70 : decode cX9_herdIs 70 = .ok (.aload_n 0, 1) := by decide +kernel
theorem dX9_herdIs_71 : decode cX9_herdIs 71 = .ok (.getfield 7, 3) := by decide +kernel
theorem dX9_herdIs_74 : decode cX9_herdIs 74 = .ok (.sipush 286, 3) := by decide +kernel
theorem dX9_herdIs_77 : decode cX9_herdIs 77 = .ok (.iload_n 1, 1) := by decide +kernel
theorem dX9_herdIs_78 : decode cX9_herdIs 78 = .ok (.iadd, 1) := by decide +kernel
theorem dX9_herdIs_79 : decode cX9_herdIs 79 = .ok (.iaload, 1) := by decide +kernel
theorem dX9_herdIs_80 : decode cX9_herdIs 80 = .ok (.ireturn, 1) := by decide +kernel
theorem dX9_herdIs_81 : decode cX9_herdIs 81 = .ok (.aload_n 0, 1) := by decide +kernel
theorem dX9_herdIs_82 : decode cX9_herdIs 82 = .ok (.getfield 7, 3) := by decide +kernel
theorem dX9_herdIs_85 : decode cX9_herdIs 85 = .ok (.sipush 292, 3) := by decide +kernel
theorem dX9_herdIs_88 : decode cX9_herdIs 88 = .ok (.iload_n 1, 1) := by decide +kernel
theorem dX9_herdIs_89 : decode cX9_herdIs 89 = .ok (.iadd, 1) := by decide +kernel
theorem dX9_herdIs_90 : decode cX9_herdIs 90 = .ok (.iaload, 1) := by decide +kernel
theorem dX9_herdIs_91 : decode cX9_herdIs 91 = .ok (.ireturn, 1) := by decide +kernel
theorem dX9_herdIs_92 : decode cX9_herdIs 92 = .ok (.aload_n 0, 1) := by decide +kernel
theorem dX9_herdIs_93 : decode cX9_herdIs 93 = .ok (.getfield 7, 3) := by decide +kernel
theorem dX9_herdIs_96 : decode cX9_herdIs 96 = .ok (.sipush 298, 3) := by decide +kernel
theorem dX9_herdIs_99 : decode cX9_herdIs 99 = .ok (.iload_n 1, 1) := by decide +kernel
theorem dX9_herdIs_100 : decode cX9_herdIs 100 = .ok (.iadd, 1) := by decide +kernel
theorem dX9_herdIs_101 : decode cX9_herdIs 101 = .ok (.iaload, 1) := by decide +kernel
theorem dX9_herdIs_102 : decode cX9_herdIs 102 = .ok (.ireturn, 1) := by decide +kernel
theorem dX9_herdIs_103 : decode cX9_herdIs 103 = .ok (.aload_n 0, 1) := by decide +kernel
theorem dX9_herdIs_104 : decode cX9_herdIs 104 = .ok (.iload_n 1, 1) := by decide +kernel
theorem dX9_herdIs_105 : decode cX9_herdIs 105 = .ok (.invokevirtual 85, 3) := by decide +kernel
theorem dX9_herdIs_108 : decode cX9_herdIs 108 = .ok (.ifCond .eq 7, 3) := by decide +kernel
theorem dX9_herdIs_111 : decode cX9_herdIs 111 = .ok (.iconst 1, 1) := by decide +kernel
theorem dX9_herdIs_112 : decode cX9_herdIs 112 = .ok (.goto 4, 3) := by decide +kernel
theorem dX9_herdIs_115 : decode cX9_herdIs 115 = .ok (.iconst 0, 1) := by decide +kernel
theorem dX9_herdIs_116 : decode cX9_herdIs 116 = .ok (.ireturn, 1) := by decide +kernel
theorem dX9_herdIs_117 : decode cX9_herdIs 117 = .ok (.iconst (-1), 1) := by decide +kernel
theorem dX9_herdIs_118 : decode cX9_herdIs 118 = .ok (.ireturn, 1) := by decide +kernel
theorem dX9_lampIs_0 : decode cX9_lampIs 0 = .ok (.aload_n 0, 1) := by decide +kernel
theorem dX9_lampIs_1 : decode cX9_lampIs 1 = .ok (.iload_n 1, 1) := by decide +kernel
theorem dX9_lampIs_2 : decode cX9_lampIs 2 = .ok (.invokevirtual 109, 3) := by decide +kernel
theorem dX9_lampIs_5 : decode cX9_lampIs 5 = .ok (.ifCond .eq 12, 3) := by decide +kernel
theorem dX9_lampIs_8 : decode cX9_lampIs 8 = .ok (.iload_n 2, 1) := by decide +kernel
theorem dX9_lampIs_9 : decode cX9_lampIs 9 = .ok (.iconst 0, 1) := by decide +kernel
theorem dX9_lampIs_10 : decode cX9_lampIs 10 = .ok (.iconst 3, 1) := by decide +kernel
theorem dX9_lampIs_11 : decode cX9_lampIs 11 = .ok (.invokestatic 92, 3) := by decide +kernel
theorem dX9_lampIs_14 : decode cX9_lampIs 14 = .ok (.ifCond .ne 7, 3) := by decide +kernel
theorem dX9_lampIs_17 : decode cX9_lampIs 17 = .ok (.iconst (-1), 1) := by decide +kernel
theorem dX9_lampIs_18 : decode cX9_lampIs 18 = .ok (.goto 18, 3) := by decide +kernel
theorem dX9_lampIs_21 : decode cX9_lampIs 21 = .ok (.aload_n 0, 1) := by decide +kernel
theorem dX9_lampIs_22 : decode cX9_lampIs 22 = .ok (.getfield 7, 3) := by decide +kernel
theorem dX9_lampIs_25 : decode cX9_lampIs 25 = .ok (.sipush 208, 3) := by decide +kernel
theorem dX9_lampIs_28 : decode cX9_lampIs 28 = .ok (.bipush 12, 2) := by decide +kernel
theorem dX9_lampIs_30 : decode cX9_lampIs 30 = .ok (.iload_n 2, 1) := by decide +kernel
theorem dX9_lampIs_31 : decode cX9_lampIs 31 = .ok (.imul, 1) := by decide +kernel
theorem dX9_lampIs_32 : decode cX9_lampIs 32 = .ok (.iadd, 1) := by decide +kernel
theorem dX9_lampIs_33 : decode cX9_lampIs 33 = .ok (.iload_n 1, 1) := by decide +kernel
theorem dX9_lampIs_34 : decode cX9_lampIs 34 = .ok (.iadd, 1) := by decide +kernel
theorem dX9_lampIs_35 : decode cX9_lampIs 35 = .ok (.iaload, 1) := by decide +kernel
theorem dX9_lampIs_36 : decode cX9_lampIs 36 = .ok (.ireturn, 1) := by decide +kernel
theorem dX9_led_0 : decode cX9_led 0 = .ok (.iload_n 1, 1) := by decide +kernel
theorem dX9_led_1 : decode cX9_led 1 = .ok (.iconst 0, 1) := by decide +kernel
theorem dX9_led_2 : decode cX9_led 2 = .ok (.bipush 18, 2) := by decide +kernel
theorem dX9_led_4 : decode cX9_led 4 = .ok (.invokestatic 92, 3) := by decide +kernel
theorem dX9_led_7 : decode cX9_led 7 = .ok (.ifCond .eq 16, 3) := by decide +kernel
theorem dX9_led_10 : decode cX9_led 10 = .ok (.aload_n 0, 1) := by decide +kernel
theorem dX9_led_11 : decode cX9_led 11 = .ok (.getfield 7, 3) := by decide +kernel
theorem dX9_led_14 : decode cX9_led 14 = .ok (.sipush 308, 3) := by decide +kernel
theorem dX9_led_17 : decode cX9_led 17 = .ok (.iload_n 1, 1) := by decide +kernel
theorem dX9_led_18 : decode cX9_led 18 = .ok (.iadd, 1) := by decide +kernel
theorem dX9_led_19 : decode cX9_led 19 = .ok (.iaload, 1) := by decide +kernel
theorem dX9_led_20 : decode cX9_led 20 = .ok (.goto 4, 3) := by decide +kernel
theorem dX9_led_23 : decode cX9_led 23 = .ok (.iconst (-1), 1) := by decide +kernel
theorem dX9_led_24 : decode cX9_led 24 = .ok (.ireturn, 1) := by decide +kernel
theorem dX9_livingWith_0 : decode cX9_livingWith 0 = .ok (.aload_n 0, 1) := by decide +kernel
theorem dX9_livingWith_1 : decode cX9_livingWith 1 = .ok (.invokevirtual 315, 3) := by decide +kernel
theorem dX9_livingWith_4 : decode cX9_livingWith 4 = .ok (.iconst 0, 1) := by decide +kernel
theorem dX9_livingWith_5 : decode cX9_livingWith 5 = .ok (.istore_n 2, 1) := by decide +kernel
theorem dX9_livingWith_6 : decode cX9_livingWith 6 = .ok (.iload_n 2, 1) := by decide +kernel
theorem dX9_livingWith_7 : decode cX9_livingWith 7 = .ok (.bipush 9, 2) := by decide +kernel
theorem dX9_livingWith_9 : decode cX9_livingWith 9 = .ok (.if_icmp .ge 28, 3) := by decide +kernel
theorem dX9_livingWith_12 : decode cX9_livingWith 12 = .ok (.iload_n 1, 1) := by decide +kernel
theorem dX9_livingWith_13 : decode cX9_livingWith 13 = .ok (.iload_n 2, 1) := by decide +kernel
theorem dX9_livingWith_14 : decode cX9_livingWith 14 = .ok (.invokestatic 226, 3) := by decide +kernel
theorem dX9_livingWith_17 : decode cX9_livingWith 17 = .ok (.ifCond .eq 14, 3) := by decide +kernel
theorem dX9_livingWith_20 : decode cX9_livingWith 20 = .ok (.aload_n 0, 1) := by decide +kernel
theorem dX9_livingWith_21 : decode cX9_livingWith 21 = .ok (.getfield 7, 3) := by decide +kernel
theorem dX9_livingWith_24 : decode cX9_livingWith 24 = .ok (.sipush 232, 3) := by decide +kernel
theorem dX9_livingWith_27 : decode cX9_livingWith 27 = .ok (.iload_n 2, 1) := by decide +kernel
theorem dX9_livingWith_28 : decode cX9_livingWith 28 = .ok (.iadd, 1) := by decide +kernel
theorem dX9_livingWith_29 : decode cX9_livingWith 29 = .ok (.iconst 1, 1) := by decide +kernel
theorem dX9_livingWith_30 : decode cX9_livingWith 30 = .ok (.iastore, 1) := by decide +kernel
theorem dX9_livingWith_31 : decode cX9_livingWith 31 = .ok (.iinc 2 1, 3) := by decide +kernel
theorem dX9_livingWith_34 : decode cX9_livingWith 34 = .ok (.goto (-28), 3) := by decide +kernel
theorem dX9_livingWith_37 : decode cX9_livingWith 37 = .ok (.aload_n 0, 1) := by decide +kernel
theorem dX9_livingWith_38 : decode cX9_livingWith 38 = .ok (.bipush 8, 2) := by decide +kernel
theorem dX9_livingWith_40 : decode cX9_livingWith 40 = .ok (.aload_n 0, 1) := by decide +kernel
theorem dX9_livingWith_41 : decode cX9_livingWith 41 = .ok (.getfield 7, 3) := by decide +kernel
theorem dX9_livingWith_44 : decode cX9_livingWith 44 = .ok (.sipush 328, 3) := by decide +kernel
theorem dX9_livingWith_47 : decode cX9_livingWith 47 = .ok (.iaload, 1) := by decide +kernel
theorem dX9_livingWith_48 : decode cX9_livingWith 48 = .ok (.isub, 1) := by decide +kernel
theorem dX9_livingWith_49 : decode cX9_livingWith 49 = .ok (.invokevirtual 299, 3) := by decide +kernel
theorem dX9_livingWith_52 : decode cX9_livingWith 52 = .ok (.pop, 1) := by decide +kernel
theorem dX9_livingWith_53 : decode cX9_livingWith 53 = .ok (.aload_n 0, 1) := by decide +kernel
theorem dX9_livingWith_54 : decode cX9_livingWith 54 = .ok (.invokevirtual 309, 3) := by decide +kernel
theorem dX9_livingWith_57 : decode cX9_livingWith 57 = .ok (.ireturn, 1) := by decide +kernel
theorem dX9_laysLiving_0 : decode cX9_laysLiving 0 = .ok (.aload_n 0, 1) := by decide +kernel
theorem dX9_laysLiving_1 : decode cX9_laysLiving 1 = .ok (.invokevirtual 306, 3) := by decide +kernel
theorem dX9_laysLiving_4 : decode cX9_laysLiving 4 = .ok (.aload_n 0, 1) := by decide +kernel
theorem dX9_laysLiving_5 : decode cX9_laysLiving 5 = .ok (.iconst 0, 1) := by decide +kernel
theorem dX9_laysLiving_6 : decode cX9_laysLiving 6 = .ok (.putfield 318, 3) := by decide +kernel
theorem dX9_laysLiving_9 : decode cX9_laysLiving 9 = .ok (.iconst 0, 1) := by decide +kernel
theorem dX9_laysLiving_10 : decode cX9_laysLiving 10 = .ok (.istore_n 1, 1) := by decide +kernel
theorem dX9_laysLiving_11 : decode cX9_laysLiving 11 = .ok (.iload_n 1, 1) := by decide +kernel
theorem dX9_laysLiving_12 : decode cX9_laysLiving 12 = .ok (.bipush 9, 2) := by decide +kernel
theorem dX9_laysLiving_14 : decode cX9_laysLiving 14 = .ok (.if_icmp .ge 51, 3) := by decide +kernel
theorem dX9_laysLiving_17 : decode cX9_laysLiving 17 = .ok (.aload_n 0, 1) := by decide +kernel
theorem dX9_laysLiving_18 : decode cX9_laysLiving 18 = .ok (.iload_n 1, 1) := by decide +kernel
theorem dX9_laysLiving_19 : decode cX9_laysLiving 19 = .ok (.invokevirtual 109, 3) := by decide +kernel
theorem dX9_laysLiving_22 : decode cX9_laysLiving 22 = .ok (.ifCond .eq 37, 3) := by decide +kernel
theorem dX9_laysLiving_25 : decode cX9_laysLiving 25 = .ok (.aload_n 0, 1) := by decide +kernel
theorem dX9_laysLiving_26 : decode cX9_laysLiving 26 = .ok (.iload_n 1, 1) := by decide +kernel
theorem dX9_laysLiving_27 : decode cX9_laysLiving 27 = .ok (.invokevirtual 253, 3) := by decide +kernel
theorem dX9_laysLiving_30 : decode cX9_laysLiving 30 = .ok (.ifCond .eq 6, 3) := by decide +kernel
theorem dX9_laysLiving_33 : decode cX9_laysLiving 33 = .ok (.goto 26, 3) := by decide +kernel
theorem dX9_laysLiving_36 : decode cX9_laysLiving 36 = .ok (.aload_n 0, 1) := by decide +kernel
theorem dX9_laysLiving_37 : decode cX9_laysLiving 37 = .ok (.aload_n 0, 1) := by decide +kernel
theorem dX9_laysLiving_38 : decode cX9_laysLiving 38 = .ok (.getfield 318, 3) := by decide +kernel
theorem dX9_laysLiving_41 : decode cX9_laysLiving 41 = .ok (.iconst 1, 1) := by decide +kernel
theorem dX9_laysLiving_42 : decode cX9_laysLiving 42 = .ok (.iload_n 1, 1) := by decide +kernel
theorem dX9_laysLiving_43 : decode cX9_laysLiving 43 = .ok (.ishl, 1) := by decide +kernel
theorem dX9_laysLiving_44 : decode cX9_laysLiving 44 = .ok (.ior, 1) := by decide +kernel
theorem dX9_laysLiving_45 : decode cX9_laysLiving 45 = .ok (.putfield 318, 3) := by decide +kernel
theorem dX9_laysLiving_48 : decode cX9_laysLiving 48 = .ok (.aload_n 0, 1) := by decide +kernel
theorem dX9_laysLiving_49 : decode cX9_laysLiving 49 = .ok (.getfield 65, 3) := by decide +kernel
theorem dX9_laysLiving_52 : decode cX9_laysLiving 52 = .ok (.iload_n 1, 1) := by decide +kernel
theorem dX9_laysLiving_53 : decode cX9_laysLiving 53 = .ok (.aload_n 0, 1) := by decide +kernel
theorem dX9_laysLiving_54 : decode cX9_laysLiving 54 = .ok (.iload_n 1, 1) := by decide +kernel
theorem dX9_laysLiving_55 : decode cX9_laysLiving 55 = .ok (.invokevirtual 250, 3) := by decide +kernel
theorem dX9_laysLiving_58 : decode cX9_laysLiving 58 = .ok (.iastore, 1) := by decide +kernel
theorem dX9_laysLiving_59 : decode cX9_laysLiving 59 = .ok (.iinc 1 1, 3) := by decide +kernel
theorem dX9_laysLiving_62 : decode cX9_laysLiving 62 = .ok (.goto (-51), 3) := by decide +kernel
theorem dX9_laysLiving_65 : decode cX9_laysLiving 65 = .ok (.iconst 0, 1) := by decide +kernel
theorem dX9_laysLiving_66 : decode cX9_laysLiving 66 = .ok (.istore_n 1, 1) := by decide +kernel
theorem dX9_laysLiving_67 : decode cX9_laysLiving 67 = .ok (.iload_n 1, 1) := by decide +kernel
theorem dX9_laysLiving_68 : decode cX9_laysLiving 68 = .ok (.sipush 512, 3) := by decide +kernel
theorem dX9_laysLiving_71 : decode cX9_laysLiving 71 = .ok (.if_icmp .ge 31, 3) := by decide +kernel
theorem dX9_laysLiving_74 : decode cX9_laysLiving 74 = .ok (.iload_n 1, 1) := by decide +kernel
theorem dX9_laysLiving_75 : decode cX9_laysLiving 75 = .ok (.aload_n 0, 1) := by decide +kernel
theorem dX9_laysLiving_76 : decode cX9_laysLiving 76 = .ok (.getfield 318, 3) := by decide +kernel
theorem dX9_laysLiving_79 : decode cX9_laysLiving 79 = .ok (.iconst (-1), 1) := by decide +kernel
theorem dX9_laysLiving_80 : decode cX9_laysLiving 80 = .ok (.ixor, 1) := by decide +kernel
theorem dX9_laysLiving_81 : decode cX9_laysLiving 81 = .ok (.iand, 1) := by decide +kernel
theorem dX9_laysLiving_82 : decode cX9_laysLiving 82 = .ok (.ifCond .ne 14, 3) := by decide +kernel
theorem dX9_laysLiving_85 : decode cX9_laysLiving 85 = .ok (.aload_n 0, 1) := by decide +kernel
theorem dX9_laysLiving_86 : decode cX9_laysLiving 86 = .ok (.getfield 62, 3) := by decide +kernel
theorem dX9_laysLiving_89 : decode cX9_laysLiving 89 = .ok (.iload_n 1, 1) := by decide +kernel
theorem dX9_laysLiving_90 : decode cX9_laysLiving 90 = .ok (.aload_n 0, 1) := by decide +kernel
theorem dX9_laysLiving_91 : decode cX9_laysLiving 91 = .ok (.iload_n 1, 1) := by decide +kernel
theorem dX9_laysLiving_92 : decode cX9_laysLiving 92 = .ok (.invokevirtual 321, 3) := by decide +kernel
theorem dX9_laysLiving_95 : decode cX9_laysLiving 95 = .ok (.iastore, 1) := by decide +kernel
theorem dX9_laysLiving_96 : decode cX9_laysLiving 96 = .ok (.iinc 1 1, 3) := by decide +kernel
theorem dX9_laysLiving_99 : decode cX9_laysLiving 99 = .ok (.goto (-32), 3) := by decide +kernel
theorem dX9_laysLiving_102 : decode cX9_laysLiving 102 = .ok (.aload_n 0, 1) := by decide +kernel
theorem dX9_laysLiving_103 : decode cX9_laysLiving 103 = .ok (.invokevirtual 315, 3) := by decide +kernel
theorem dX9_laysLiving_106 : decode cX9_laysLiving 106 = .ok (.return_, 1) := by decide +kernel
theorem dX9_costs_0 : decode cX9_costs 0 = .ok (.iconst 0, 1) := by decide +kernel
theorem dX9_costs_1 : decode cX9_costs 1 = .ok (.istore_n 2, 1) := by decide +kernel
theorem dX9_costs_2 : decode cX9_costs 2 = .ok (.iconst 0, 1) := by decide +kernel
theorem dX9_costs_3 : decode cX9_costs 3 = .ok (.istore_n 3, 1) := by decide +kernel
theorem dX9_costs_4 : decode cX9_costs 4 = .ok (.iload_n 3, 1) := by decide +kernel
theorem dX9_costs_5 : decode cX9_costs 5 = .ok (.bipush 9, 2) := by decide +kernel
theorem dX9_costs_7 : decode cX9_costs 7 = .ok (.if_icmp .ge 30, 3) := by decide +kernel
theorem dX9_costs_10 : decode cX9_costs 10 = .ok (.iload_n 2, 1) := by decide +kernel
theorem dX9_costs_11 : decode cX9_costs 11 = .ok (.iload_n 1, 1) := by decide +kernel
theorem dX9_costs_12 : decode cX9_costs 12 = .ok (.iload_n 3, 1) := by decide +kernel
theorem dX9_costs_13 : decode cX9_costs 13 = .ok (.invokestatic 226, 3) := by decide +kernel
theorem dX9_costs_16 : decode cX9_costs 16 = .ok (.ifCond .eq 12, 3) := by decide +kernel
theorem dX9_costs_19 : decode cX9_costs 19 = .ok (.aload_n 0, 1) := by decide +kernel
theorem dX9_costs_20 : decode cX9_costs 20 = .ok (.getfield 65, 3) := by decide +kernel
theorem dX9_costs_23 : decode cX9_costs 23 = .ok (.iload_n 3, 1) := by decide +kernel
theorem dX9_costs_24 : decode cX9_costs 24 = .ok (.iaload, 1) := by decide +kernel
theorem dX9_costs_25 : decode cX9_costs 25 = .ok (.goto 4, 3) := by decide +kernel
theorem dX9_costs_28 : decode cX9_costs 28 = .ok (.iconst 0, 1) := by decide +kernel
theorem dX9_costs_29 : decode cX9_costs 29 = .ok (.iadd, 1) := by decide +kernel
theorem dX9_costs_30 : decode cX9_costs 30 = .ok (.istore_n 2, 1) := by decide +kernel
theorem dX9_costs_31 : decode cX9_costs 31 = .ok (.iinc 3 1, 3) := by decide +kernel
theorem dX9_costs_34 : decode cX9_costs 34 = .ok (.goto (-30), 3) := by decide +kernel
theorem dX9_costs_37 : decode cX9_costs 37 = .ok (.iload_n 2, 1) := by decide +kernel
theorem dX9_costs_38 : decode cX9_costs 38 = .ok (.ireturn, 1) := by decide +kernel
theorem dX9_laysPlan_0 : decode cX9_laysPlan 0 = .ok (.aload_n 0, 1) := by decide +kernel
theorem dX9_laysPlan_1 : decode cX9_laysPlan 1 = .ok (.iconst (-1), 1) := by decide +kernel
theorem dX9_laysPlan_2 : decode cX9_laysPlan 2 = .ok (.putfield 324, 3) := by decide +kernel
theorem dX9_laysPlan_5 : decode cX9_laysPlan 5 = .ok (.iconst 0, 1) := by decide +kernel
theorem dX9_laysPlan_6 : decode cX9_laysPlan 6 = .ok (.istore_n 2, 1) := by decide +kernel
theorem dX9_laysPlan_7 : decode cX9_laysPlan 7 = .ok (.iload_n 2, 1) := by decide +kernel
theorem dX9_laysPlan_8 : decode cX9_laysPlan 8 = .ok (.sipush 512, 3) := by decide +kernel
theorem dX9_laysPlan_11 : decode cX9_laysPlan 11 = .ok (.if_icmp .ge 91, 3) := by decide +kernel
theorem dX9_laysPlan_14 : decode cX9_laysPlan 14 = .ok (.iload_n 2, 1) := by decide +kernel
theorem dX9_laysPlan_15 : decode cX9_laysPlan 15 = .ok (.aload_n 0, 1) := by decide +kernel
theorem dX9_laysPlan_16 : decode cX9_laysPlan 16 = .ok (.getfield 318, 3) := by decide +kernel
theorem dX9_laysPlan_19 : decode cX9_laysPlan 19 = .ok (.iconst (-1), 1) := by decide +kernel
theorem dX9_laysPlan_20 : decode cX9_laysPlan 20 = .ok (.ixor, 1) := by decide +kernel
theorem dX9_laysPlan_21 : decode cX9_laysPlan 21 = .ok (.iand, 1) := by decide +kernel
theorem dX9_laysPlan_22 : decode cX9_laysPlan 22 = .ok (.ifCond .eq 6, 3) := by decide +kernel
theorem dX9_laysPlan_25 : decode cX9_laysPlan 25 = .ok (.goto 71, 3) := by decide +kernel
theorem dX9_laysPlan_28 : decode cX9_laysPlan 28 = .ok (.aload_n 0, 1) := by decide +kernel
theorem dX9_laysPlan_29 : decode cX9_laysPlan 29 = .ok (.iload_n 2, 1) := by decide +kernel
theorem dX9_laysPlan_30 : decode cX9_laysPlan 30 = .ok (.invokevirtual 327, 3) := by decide +kernel
theorem dX9_laysPlan_33 : decode cX9_laysPlan 33 = .ok (.istore_n 3, 1) := by decide +kernel
theorem dX9_laysPlan_34 : decode cX9_laysPlan 34 = .ok (.iload_n 3, 1) := by decide +kernel
theorem dX9_laysPlan_35 : decode cX9_laysPlan 35 = .ok (.iload_n 1, 1) := by decide +kernel
theorem dX9_laysPlan_36 : decode cX9_laysPlan 36 = .ok (.if_icmp .gt 60, 3) := by decide +kernel
theorem dX9_laysPlan_39 : decode cX9_laysPlan 39 = .ok (.aload_n 0, 1) := by decide +kernel
theorem dX9_laysPlan_40 : decode cX9_laysPlan 40 = .ok (.getfield 62, 3) := by decide +kernel
theorem dX9_laysPlan_43 : decode cX9_laysPlan 43 = .ok (.iload_n 2, 1) := by decide +kernel
theorem dX9_laysPlan_44 : decode cX9_laysPlan 44 = .ok (.iaload, 1) := by decide +kernel
theorem dX9_laysPlan_45 : decode cX9_laysPlan 45 = .ok (.aload_n 0, 1) := by decide +kernel
theorem dX9_laysPlan_46 : decode cX9_laysPlan 46 = .ok (.getfield 324, 3) := by decide +kernel
theorem dX9_laysPlan_49 : decode cX9_laysPlan 49 = .ok (.if_icmp .lt 47, 3) := by decide +kernel
theorem dX9_laysPlan_52 : decode cX9_laysPlan 52 = .ok (.aload_n 0, 1) := by decide +kernel
theorem dX9_laysPlan_53 : decode cX9_laysPlan 53 = .ok (.getfield 62, 3) := by decide +kernel
theorem dX9_laysPlan_56 : decode cX9_laysPlan 56 = .ok (.iload_n 2, 1) := by decide +kernel
theorem dX9_laysPlan_57 : decode cX9_laysPlan 57 = .ok (.iaload, 1) := by decide +kernel
theorem dX9_laysPlan_58 : decode cX9_laysPlan 58 = .ok (.aload_n 0, 1) := by decide +kernel
theorem dX9_laysPlan_59 : decode cX9_laysPlan 59 = .ok (.getfield 324, 3) := by decide +kernel
theorem dX9_laysPlan_62 : decode cX9_laysPlan 62 = .ok (.if_icmp .ne 14, 3) := by decide +kernel
theorem dX9_laysPlan_65 : decode cX9_laysPlan 65 = .ok (.iload_n 3, 1) := by decide +kernel
theorem dX9_laysPlan_66 : decode cX9_laysPlan 66 = .ok (.aload_n 0, 1) := by decide +kernel
theorem dX9_laysPlan_67 : decode cX9_laysPlan 67 = .ok (.getfield 330, 3) := by decide +kernel
theorem dX9_laysPlan_70 : decode cX9_laysPlan 70 = .ok (.if_icmp .lt 6, 3) := by decide +kernel
theorem dX9_laysPlan_73 : decode cX9_laysPlan 73 = .ok (.goto 23, 3) := by decide +kernel
theorem dX9_laysPlan_76 : decode cX9_laysPlan 76 = .ok (.aload_n 0, 1) := by decide +kernel
theorem dX9_laysPlan_77 : decode cX9_laysPlan 77 = .ok (.aload_n 0, 1) := by decide +kernel
theorem dX9_laysPlan_78 : decode cX9_laysPlan 78 = .ok (.getfield 62, 3) := by decide +kernel
theorem dX9_laysPlan_81 : decode cX9_laysPlan 81 = .ok (.iload_n 2, 1) := by decide +kernel
theorem dX9_laysPlan_82 : decode cX9_laysPlan 82 = .ok (.iaload, 1) := by decide +kernel
theorem dX9_laysPlan_83 : decode cX9_laysPlan 83 = .ok (.putfield 324, 3) := by decide +kernel
theorem dX9_laysPlan_86 : decode cX9_laysPlan 86 = .ok (.aload_n 0, 1) := by decide +kernel
theorem dX9_laysPlan_87 : decode cX9_laysPlan 87 = .ok (.iload_n 3, 1) := by decide +kernel
theorem dX9_laysPlan_88 : decode cX9_laysPlan 88 = .ok (.putfield 330, 3) := by decide +kernel
theorem dX9_laysPlan_91 : decode cX9_laysPlan 91 = .ok (.aload_n 0, 1) := by decide +kernel
theorem dX9_laysPlan_92 : decode cX9_laysPlan 92 = .ok (.iload_n 2, 1) := by decide +kernel
theorem dX9_laysPlan_93 : decode cX9_laysPlan 93 = .ok (.putfield 333, 3) := by decide +kernel
theorem dX9_laysPlan_96 : decode cX9_laysPlan 96 = .ok (.iinc 2 1, 3) := by decide +kernel
theorem dX9_laysPlan_99 : decode cX9_laysPlan 99 = .ok (.goto (-92), 3) := by decide +kernel
theorem dX9_laysPlan_102 : decode cX9_laysPlan 102 = .ok (.return_, 1) := by decide +kernel
theorem dX9_plan_0 : decode cX9_plan 0 = .ok (.iload_n 1, 1) := by decide +kernel
theorem dX9_plan_1 : decode cX9_plan 1 = .ok (.iconst 0, 1) := by decide +kernel
theorem dX9_plan_2 : decode cX9_plan 2 = .ok (.sipush 9999, 3) := by decide +kernel
theorem dX9_plan_5 : decode cX9_plan 5 = .ok (.invokestatic 92, 3) := by decide +kernel
theorem dX9_plan_8 : decode cX9_plan 8 = .ok (.ifCond .eq 12, 3) := by decide +kernel
theorem dX9_plan_11 : decode cX9_plan 11 = .ok (.iload_n 2, 1) := by decide +kernel
theorem dX9_plan_12 : decode cX9_plan 12 = .ok (.iconst 0, 1) := by decide +kernel
theorem dX9_plan_13 : decode cX9_plan 13 = .ok (.iconst 2, 1) := by decide +kernel
theorem dX9_plan_14 : decode cX9_plan 14 = .ok (.invokestatic 92, 3) := by decide +kernel
theorem dX9_plan_17 : decode cX9_plan 17 = .ok (.ifCond .ne 5, 3) := by decide +kernel
theorem dX9_plan_20 : decode cX9_plan 20 = .ok (.iconst (-1), 1) := by decide +kernel
theorem dX9_plan_21 : decode cX9_plan 21 = .ok (.ireturn, 1) := by decide +kernel
theorem dX9_plan_22 : decode cX9_plan 22 = .ok (.aload_n 0, 1) := by decide +kernel
theorem dX9_plan_23 : decode cX9_plan 23 = .ok (.invokevirtual 336, 3) := by decide +kernel
theorem dX9_plan_26 : decode cX9_plan 26 = .ok (.aload_n 0, 1) := by decide +kernel
theorem dX9_plan_27 : decode cX9_plan 27 = .ok (.iload_n 1, 1) := by decide +kernel
theorem dX9_plan_28 : decode cX9_plan 28 = .ok (.invokevirtual 339, 3) := by decide +kernel
theorem dX9_plan_31 : decode cX9_plan 31 = .ok (.iload_n 2, 1) := by decide +kernel
theorem dX9_plan_32 : decode cX9_plan 32 = .ok (.ifCond .ne 10, 3) := by decide +kernel
theorem dX9_plan_35 : decode cX9_plan 35 = .ok (.aload_n 0, 1) := by decide +kernel
theorem dX9_plan_36 : decode cX9_plan 36 = .ok (.getfield 333, 3) := by decide +kernel
theorem dX9_plan_39 : decode cX9_plan 39 = .ok (.goto 19, 3) := by decide +kernel
theorem dX9_plan_42 : decode cX9_plan 42 = .ok (.iload_n 2, 1) := by decide +kernel
theorem dX9_plan_43 : decode cX9_plan 43 = .ok (.iconst 1, 1) := by decide +kernel
theorem dX9_plan_44 : decode cX9_plan 44 = .ok (.if_icmp .ne 10, 3) := by decide +kernel
theorem dX9_plan_47 : decode cX9_plan 47 = .ok (.aload_n 0, 1) := by decide +kernel
theorem dX9_plan_48 : decode cX9_plan 48 = .ok (.getfield 330, 3) := by decide +kernel
theorem dX9_plan_51 : decode cX9_plan 51 = .ok (.goto 7, 3) := by decide +kernel
theorem dX9_plan_54 : decode cX9_plan 54 = .ok (.aload_n 0, 1) := by decide +kernel
theorem dX9_plan_55 : decode cX9_plan 55 = .ok (.getfield 324, 3) := by decide +kernel
theorem dX9_plan_58 : decode cX9_plan 58 = .ok (.ireturn, 1) := by decide +kernel
theorem dX9_safe_0 : decode cX9_safe 0 = .ok (.iload_n 1, 1) := by decide +kernel
theorem dX9_safe_1 : decode cX9_safe 1 = .ok (.iconst 0, 1) := by decide +kernel
theorem dX9_safe_2 : decode cX9_safe 2 = .ok (.iconst 1, 1) := by decide +kernel
theorem dX9_safe_3 : decode cX9_safe 3 = .ok (.invokestatic 92, 3) := by decide +kernel
theorem dX9_safe_6 : decode cX9_safe 6 = .ok (.ifCond .ne 5, 3) := by decide +kernel
theorem dX9_safe_9 : decode cX9_safe 9 = .ok (.iconst (-1), 1) := by decide +kernel
theorem dX9_safe_10 : decode cX9_safe 10 = .ok (.ireturn, 1) := by decide +kernel
theorem dX9_safe_11 : decode cX9_safe 11 = .ok (.aload_n 0, 1) := by decide +kernel
theorem dX9_safe_12 : decode cX9_safe 12 = .ok (.invokevirtual 336, 3) := by decide +kernel
theorem dX9_safe_15 : decode cX9_safe 15 = .ok (.iconst (-1), 1) := by decide +kernel
theorem dX9_safe_16 : decode cX9_safe 16 = .ok (.istore_n 2, 1) := by decide +kernel
theorem dX9_safe_17 : decode cX9_safe 17 = .ok (.iconst 0, 1) := by decide +kernel
theorem dX9_safe_18 : decode cX9_safe 18 = .ok (.istore_n 3, 1) := by decide +kernel
theorem dX9_safe_19 : decode cX9_safe 19 = .ok (.iload_n 3, 1) := by decide +kernel
theorem dX9_safe_20 : decode cX9_safe 20 = .ok (.sipush 512, 3) := by decide +kernel
theorem dX9_safe_23 : decode cX9_safe 23 = .ok (.if_icmp .ge 53, 3) := by decide +kernel
theorem dX9_safe_26 : decode cX9_safe 26 = .ok (.iload_n 3, 1) := by decide +kernel
theorem dX9_safe_27 : decode cX9_safe 27 = .ok (.aload_n 0, 1) := by decide +kernel
theorem dX9_safe_28 : decode cX9_safe 28 = .ok (.getfield 318, 3) := by decide +kernel
theorem dX9_safe_31 : decode cX9_safe 31 = .ok (.iconst (-1), 1) := by decide +kernel
theorem dX9_safe_32 : decode cX9_safe 32 = .ok (.ixor, 1) := by decide +kernel
theorem dX9_safe_33 : decode cX9_safe 33 = .ok (.iand, 1) := by decide +kernel
theorem dX9_safe_34 : decode cX9_safe 34 = .ok (.ifCond .ne 36, 3) := by decide +kernel
theorem dX9_safe_37 : decode cX9_safe 37 = .ok (.aload_n 0, 1) := by decide +kernel
theorem dX9_safe_38 : decode cX9_safe 38 = .ok (.getfield 62, 3) := by decide +kernel
theorem dX9_safe_41 : decode cX9_safe 41 = .ok (.iload_n 3, 1) := by decide +kernel
theorem dX9_safe_42 : decode cX9_safe 42 = .ok (.iaload, 1) := by decide +kernel
theorem dX9_safe_43 : decode cX9_safe 43 = .ok (.aload_n 0, 1) := by decide +kernel
theorem dX9_safe_44 : decode cX9_safe 44 = .ok (.invokevirtual 309, 3) := by decide +kernel
theorem dX9_safe_47 : decode cX9_safe 47 = .ok (.if_icmp .ne 23, 3) := by decide +kernel
theorem dX9_safe_50 : decode cX9_safe 50 = .ok (.iload_n 2, 1) := by decide +kernel
theorem dX9_safe_51 : decode cX9_safe 51 = .ok (.iconst (-1), 1) := by decide +kernel
theorem dX9_safe_52 : decode cX9_safe 52 = .ok (.if_icmp .eq 16, 3) := by decide +kernel
theorem dX9_safe_55 : decode cX9_safe 55 = .ok (.aload_n 0, 1) := by decide +kernel
theorem dX9_safe_56 : decode cX9_safe 56 = .ok (.iload_n 3, 1) := by decide +kernel
theorem dX9_safe_57 : decode cX9_safe 57 = .ok (.invokevirtual 327, 3) := by decide +kernel
theorem dX9_safe_60 : decode cX9_safe 60 = .ok (.aload_n 0, 1) := by decide +kernel
theorem dX9_safe_61 : decode cX9_safe 61 = .ok (.iload_n 2, 1) := by decide +kernel
theorem dX9_safe_62 : decode cX9_safe 62 = .ok (.invokevirtual 327, 3) := by decide +kernel
theorem dX9_safe_65 : decode cX9_safe 65 = .ok (.if_icmp .ge 5, 3) := by decide +kernel
theorem dX9_safe_68 : decode cX9_safe 68 = .ok (.iload_n 3, 1) := by decide +kernel
theorem dX9_safe_69 : decode cX9_safe 69 = .ok (.istore_n 2, 1) := by decide +kernel
theorem dX9_safe_70 : decode cX9_safe 70 = .ok (.iinc 3 1, 3) := by decide +kernel
theorem dX9_safe_73 : decode cX9_safe 73 = .ok (.goto (-54), 3) := by decide +kernel
theorem dX9_safe_76 : decode cX9_safe 76 = .ok (.iload_n 2, 1) := by decide +kernel
theorem dX9_safe_77 : decode cX9_safe 77 = .ok (.iconst (-1), 1) := by decide +kernel
theorem dX9_safe_78 : decode cX9_safe 78 = .ok (.if_icmp .ne 8, 3) := by decide +kernel
theorem dX9_safe_81 : decode cX9_safe 81 = .ok (.bipush (-2), 2) := by decide +kernel
theorem dX9_safe_83 : decode cX9_safe 83 = .ok (.goto 16, 3) := by decide +kernel
theorem dX9_safe_86 : decode cX9_safe 86 = .ok (.iload_n 1, 1) := by decide +kernel
theorem dX9_safe_87 : decode cX9_safe 87 = .ok (.ifCond .ne 7, 3) := by decide +kernel
theorem dX9_safe_90 : decode cX9_safe 90 = .ok (.iload_n 2, 1) := by decide +kernel
theorem dX9_safe_91 : decode cX9_safe 91 = .ok (.goto 8, 3) := by decide +kernel
theorem dX9_safe_94 : decode cX9_safe 94 = .ok (.aload_n 0, 1) := by decide +kernel
theorem dX9_safe_95 : decode cX9_safe 95 = .ok (.iload_n 2, 1) := by decide +kernel
theorem dX9_safe_96 : decode cX9_safe 96 = .ok (.invokevirtual 327, 3) := by decide +kernel
theorem dX9_safe_99 : decode cX9_safe 99 = .ok (.ireturn, 1) := by decide +kernel
theorem dX9_place_0 : decode cX9_place 0 = .ok (.iload_n 1, 1) := by decide +kernel
theorem dX9_place_1 : decode cX9_place 1 = .ok (.invokestatic 102, 3) := by decide +kernel
theorem dX9_place_4 : decode cX9_place 4 = .ok (.ifCond .eq 20, 3) := by decide +kernel
theorem dX9_place_7 : decode cX9_place 7 = .ok (.aload_n 0, 1) := by decide +kernel
theorem dX9_place_8 : decode cX9_place 8 = .ok (.iload_n 1, 1) := by decide +kernel
theorem dX9_place_9 : decode cX9_place 9 = .ok (.invokevirtual 109, 3) := by decide +kernel
theorem dX9_place_12 : decode cX9_place 12 = .ok (.ifCond .eq 12, 3) := by decide +kernel
theorem dX9_place_15 : decode cX9_place 15 = .ok (.iload_n 2, 1) := by decide +kernel
theorem dX9_place_16 : decode cX9_place 16 = .ok (.iconst 0, 1) := by decide +kernel
theorem dX9_place_17 : decode cX9_place 17 = .ok (.iconst 1, 1) := by decide +kernel
theorem dX9_place_18 : decode cX9_place 18 = .ok (.invokestatic 92, 3) := by decide +kernel
theorem dX9_place_21 : decode cX9_place 21 = .ok (.ifCond .ne 5, 3) := by decide +kernel
theorem dX9_place_24 : decode cX9_place 24 = .ok (.iconst (-1), 1) := by decide +kernel
theorem dX9_place_25 : decode cX9_place 25 = .ok (.ireturn, 1) := by decide +kernel
theorem dX9_place_26 : decode cX9_place 26 = .ok (.aload_n 0, 1) := by decide +kernel
theorem dX9_place_27 : decode cX9_place 27 = .ok (.invokevirtual 306, 3) := by decide +kernel
theorem dX9_place_30 : decode cX9_place 30 = .ok (.iconst (-1), 1) := by decide +kernel
theorem dX9_place_31 : decode cX9_place 31 = .ok (.istore_n 3, 1) := by decide +kernel
theorem dX9_place_32 : decode cX9_place 32 = .ok (.iconst (-1), 1) := by decide +kernel
theorem dX9_place_33 : decode cX9_place 33 = .ok (.istore 4, 2) := by decide +kernel
theorem dX9_place_35 : decode cX9_place 35 = .ok (.iconst 0, 1) := by decide +kernel
theorem dX9_place_36 : decode cX9_place 36 = .ok (.istore 5, 2) := by decide +kernel
theorem dX9_place_38 : decode cX9_place 38 = .ok (.iload 5, 2) := by decide +kernel
theorem dX9_place_40 : decode cX9_place 40 = .ok (.sipush 196, 3) := by decide +kernel
theorem dX9_place_43 : decode cX9_place 43 = .ok (.if_icmp .ge 85, 3) := by decide +kernel
theorem dX9_place_46 : decode cX9_place 46 = .ok (.aload_n 0, 1) := by decide +kernel
theorem dX9_place_47 : decode cX9_place 47 = .ok (.invokevirtual 315, 3) := by decide +kernel
theorem dX9_place_50 : decode cX9_place 50 = .ok (.aload_n 0, 1) := by decide +kernel
theorem dX9_place_51 : decode cX9_place 51 = .ok (.iload 5, 2) := by decide +kernel
theorem dX9_place_53 : decode cX9_place 53 = .ok (.invokevirtual 99, 3) := by decide +kernel
theorem dX9_place_56 : decode cX9_place 56 = .ok (.ifCond .eq 6, 3) := by decide +kernel
theorem dX9_place_59 : decode cX9_place 59 = .ok (.goto 63, 3) := by decide +kernel
theorem dX9_place_62 : decode cX9_place 62 = .ok (.aload_n 0, 1) := by decide +kernel
theorem dX9_place_63 : decode cX9_place 63 = .ok (.getfield 7, 3) := by decide +kernel
theorem dX9_place_66 : decode cX9_place 66 = .ok (.sipush 208, 3) := by decide +kernel
theorem dX9_place_69 : decode cX9_place 69 = .ok (.iload_n 1, 1) := by decide +kernel
theorem dX9_place_70 : decode cX9_place 70 = .ok (.iadd, 1) := by decide +kernel
theorem dX9_place_71 : decode cX9_place 71 = .ok (.iload 5, 2) := by decide +kernel
theorem dX9_place_73 : decode cX9_place 73 = .ok (.iastore, 1) := by decide +kernel
theorem dX9_place_74 : decode cX9_place 74 = .ok (.aload_n 0, 1) := by decide +kernel
theorem dX9_place_75 : decode cX9_place 75 = .ok (.getfield 7, 3) := by decide +kernel
theorem dX9_place_78 : decode cX9_place 78 = .ok (.sipush 232, 3) := by decide +kernel
theorem dX9_place_81 : decode cX9_place 81 = .ok (.iload_n 1, 1) := by decide +kernel
theorem dX9_place_82 : decode cX9_place 82 = .ok (.iadd, 1) := by decide +kernel
theorem dX9_place_83 : decode cX9_place 83 = .ok (.iconst 1, 1) := by decide +kernel
theorem dX9_place_84 : decode cX9_place 84 = .ok (.iastore, 1) := by decide +kernel
theorem dX9_place_85 : decode cX9_place 85 = .ok (.aload_n 0, 1) := by decide +kernel
theorem dX9_place_86 : decode cX9_place 86 = .ok (.bipush 8, 2) := by decide +kernel
theorem dX9_place_88 : decode cX9_place 88 = .ok (.aload_n 0, 1) := by decide +kernel
theorem dX9_place_89 : decode cX9_place 89 = .ok (.getfield 7, 3) := by decide +kernel
theorem dX9_place_92 : decode cX9_place 92 = .ok (.sipush 328, 3) := by decide +kernel
theorem dX9_place_95 : decode cX9_place 95 = .ok (.iaload, 1) := by decide +kernel
theorem dX9_place_96 : decode cX9_place 96 = .ok (.isub, 1) := by decide +kernel
theorem dX9_place_97 : decode cX9_place 97 = .ok (.invokevirtual 299, 3) := by decide +kernel
theorem dX9_place_100 : decode cX9_place 100 = .ok (.pop, 1) := by decide +kernel
theorem dX9_place_101 : decode cX9_place 101 = .ok (.aload_n 0, 1) := by decide +kernel
theorem dX9_place_102 : decode cX9_place 102 = .ok (.invokevirtual 309, 3) := by decide +kernel
theorem dX9_place_105 : decode cX9_place 105 = .ok (.iload 4, 2) := by decide +kernel
theorem dX9_place_107 : decode cX9_place 107 = .ok (.if_icmp .gt 6, 3) := by decide +kernel
theorem dX9_place_110 : decode cX9_place 110 = .ok (.goto 12, 3) := by decide +kernel
theorem dX9_place_113 : decode cX9_place 113 = .ok (.aload_n 0, 1) := by decide +kernel
theorem dX9_place_114 : decode cX9_place 114 = .ok (.invokevirtual 309, 3) := by decide +kernel
theorem dX9_place_117 : decode cX9_place 117 = .ok (.istore 4, 2) := by decide +kernel
theorem dX9_place_119 : decode cX9_place 119 = .ok (.iload 5, 2) := by decide +kernel
theorem dX9_place_121 : decode cX9_place 121 = .ok (.istore_n 3, 1) := by decide +kernel
theorem dX9_place_122 : decode cX9_place 122 = .ok (.iinc 5 1, 3) := by decide +kernel
theorem dX9_place_125 : decode cX9_place 125 = .ok (.goto (-87), 3) := by decide +kernel
theorem dX9_place_128 : decode cX9_place 128 = .ok (.aload_n 0, 1) := by decide +kernel
theorem dX9_place_129 : decode cX9_place 129 = .ok (.invokevirtual 315, 3) := by decide +kernel
theorem dX9_place_132 : decode cX9_place 132 = .ok (.iload_n 3, 1) := by decide +kernel
theorem dX9_place_133 : decode cX9_place 133 = .ok (.iconst (-1), 1) := by decide +kernel
theorem dX9_place_134 : decode cX9_place 134 = .ok (.if_icmp .ne 7, 3) := by decide +kernel
theorem dX9_place_137 : decode cX9_place 137 = .ok (.iconst (-1), 1) := by decide +kernel
theorem dX9_place_138 : decode cX9_place 138 = .ok (.goto 13, 3) := by decide +kernel
theorem dX9_place_141 : decode cX9_place 141 = .ok (.iload_n 2, 1) := by decide +kernel
theorem dX9_place_142 : decode cX9_place 142 = .ok (.ifCond .ne 7, 3) := by decide +kernel
theorem dX9_place_145 : decode cX9_place 145 = .ok (.iload_n 3, 1) := by decide +kernel
theorem dX9_place_146 : decode cX9_place 146 = .ok (.goto 5, 3) := by decide +kernel
theorem dX9_place_149 : decode cX9_place 149 = .ok (.iload 4, 2) := by decide +kernel
theorem dX9_place_151 : decode cX9_place 151 = .ok (.ireturn, 1) := by decide +kernel
theorem dX9_laysGains_0 : decode cX9_laysGains 0 = .ok (.iconst 0, 1) := by decide +kernel
theorem dX9_laysGains_1 : decode cX9_laysGains 1 = .ok (.istore 4, 2) := by decide +kernel
theorem dX9_laysGains_3 : decode cX9_laysGains 3 = .ok (.iload 4, 2) := by decide +kernel
theorem dX9_laysGains_5 : decode cX9_laysGains 5 = .ok (.bipush 25, 2) := by decide +kernel
theorem dX9_laysGains_7 : decode cX9_laysGains 7 = .ok (.if_icmp .ge 94, 3) := by decide +kernel
theorem dX9_laysGains_10 : decode cX9_laysGains 10 = .ok (.aload_n 0, 1) := by decide +kernel
theorem dX9_laysGains_11 : decode cX9_laysGains 11 = .ok (.getfield 65, 3) := by decide +kernel
theorem dX9_laysGains_14 : decode cX9_laysGains 14 = .ok (.iload_n 1, 1) := by decide +kernel
theorem dX9_laysGains_15 : decode cX9_laysGains 15 = .ok (.iload 4, 2) := by decide +kernel
theorem dX9_laysGains_17 : decode cX9_laysGains 17 = .ok (.iconst 5, 1) := by decide +kernel
theorem dX9_laysGains_18 : decode cX9_laysGains 18 = .ok (.idiv, 1) := by decide +kernel
theorem dX9_laysGains_19 : decode cX9_laysGains 19 = .ok (.iconst 1, 1) := by decide +kernel
theorem dX9_laysGains_20 : decode cX9_laysGains 20 = .ok (.iadd, 1) := by decide +kernel
theorem dX9_laysGains_21 : decode cX9_laysGains 21 = .ok (.iastore, 1) := by decide +kernel
theorem dX9_laysGains_22 : decode cX9_laysGains 22 = .ok (.aload_n 0, 1) := by decide +kernel
theorem dX9_laysGains_23 : decode cX9_laysGains 23 = .ok (.getfield 65, 3) := by decide +kernel
theorem dX9_laysGains_26 : decode cX9_laysGains 26 = .ok (.iload_n 2, 1) := by decide +kernel
theorem dX9_laysGains_27 : decode cX9_laysGains 27 = .ok (.iload 4, 2) := by decide +kernel
theorem dX9_laysGains_29 : decode cX9_laysGains 29 = .ok (.iconst 5, 1) := by decide +kernel
theorem dX9_laysGains_30 : decode cX9_laysGains 30 = .ok (.irem, 1) := by decide +kernel
theorem dX9_laysGains_31 : decode cX9_laysGains 31 = .ok (.iconst 1, 1) := by decide +kernel
theorem dX9_laysGains_32 : decode cX9_laysGains 32 = .ok (.iadd, 1) := by decide +kernel
theorem dX9_laysGains_33 : decode cX9_laysGains 33 = .ok (.iastore, 1) := by decide +kernel
theorem dX9_laysGains_34 : decode cX9_laysGains 34 = .ok (.aload_n 0, 1) := by decide +kernel
theorem dX9_laysGains_35 : decode cX9_laysGains 35 = .ok (.iload_n 3, 1) := by decide +kernel
theorem dX9_laysGains_36 : decode cX9_laysGains 36 = .ok (.invokevirtual 339, 3) := by decide +kernel
theorem dX9_laysGains_39 : decode cX9_laysGains 39 = .ok (.aload_n 0, 1) := by decide +kernel
theorem dX9_laysGains_40 : decode cX9_laysGains 40 = .ok (.getfield 68, 3) := by decide +kernel
theorem dX9_laysGains_43 : decode cX9_laysGains 43 = .ok (.iload 4, 2) := by decide +kernel
theorem dX9_laysGains_45 : decode cX9_laysGains 45 = .ok (.aload_n 0, 1) := by decide +kernel
theorem dX9_laysGains_46 : decode cX9_laysGains 46 = .ok (.getfield 333, 3) := by decide +kernel
theorem dX9_laysGains_49 : decode cX9_laysGains 49 = .ok (.iload_n 1, 1) := by decide +kernel
theorem dX9_laysGains_50 : decode cX9_laysGains 50 = .ok (.invokestatic 226, 3) := by decide +kernel
theorem dX9_laysGains_53 : decode cX9_laysGains 53 = .ok (.ifCond .eq 12, 3) := by decide +kernel
theorem dX9_laysGains_56 : decode cX9_laysGains 56 = .ok (.aload_n 0, 1) := by decide +kernel
theorem dX9_laysGains_57 : decode cX9_laysGains 57 = .ok (.getfield 65, 3) := by decide +kernel
theorem dX9_laysGains_60 : decode cX9_laysGains 60 = .ok (.iload_n 1, 1) := by decide +kernel
theorem dX9_laysGains_61 : decode cX9_laysGains 61 = .ok (.iaload, 1) := by decide +kernel
theorem dX9_laysGains_62 : decode cX9_laysGains 62 = .ok (.goto 4, 3) := by decide +kernel
theorem dX9_laysGains_65 : decode cX9_laysGains 65 = .ok (.iconst 0, 1) := by decide +kernel
theorem dX9_laysGains_66 : decode cX9_laysGains 66 = .ok (.iastore, 1) := by decide +kernel
theorem dX9_laysGains_67 : decode cX9_laysGains 67 = .ok (.aload_n 0, 1) := by decide +kernel
theorem dX9_laysGains_68 : decode cX9_laysGains 68 = .ok (.getfield 71, 3) := by decide +kernel
theorem dX9_laysGains_71 : decode cX9_laysGains 71 = .ok (.iload 4, 2) := by decide +kernel
theorem dX9_laysGains_73 : decode cX9_laysGains 73 = .ok (.aload_n 0, 1) := by decide +kernel
theorem dX9_laysGains_74 : decode cX9_laysGains 74 = .ok (.getfield 333, 3) := by decide +kernel
theorem dX9_laysGains_77 : decode cX9_laysGains 77 = .ok (.iload_n 2, 1) := by decide +kernel
theorem dX9_laysGains_78 : decode cX9_laysGains 78 = .ok (.invokestatic 226, 3) := by decide +kernel
theorem dX9_laysGains_81 : decode cX9_laysGains 81 = .ok (.ifCond .eq 12, 3) := by decide +kernel
theorem dX9_laysGains_84 : decode cX9_laysGains 84 = .ok (.aload_n 0, 1) := by decide +kernel
theorem dX9_laysGains_85 : decode cX9_laysGains 85 = .ok (.getfield 65, 3) := by decide +kernel
theorem dX9_laysGains_88 : decode cX9_laysGains 88 = .ok (.iload_n 2, 1) := by decide +kernel
theorem dX9_laysGains_89 : decode cX9_laysGains 89 = .ok (.iaload, 1) := by decide +kernel
theorem dX9_laysGains_90 : decode cX9_laysGains 90 = .ok (.goto 4, 3) := by decide +kernel
theorem dX9_laysGains_93 : decode cX9_laysGains 93 = .ok (.iconst 0, 1) := by decide +kernel
theorem dX9_laysGains_94 : decode cX9_laysGains 94 = .ok (.iastore, 1) := by decide +kernel
theorem dX9_laysGains_95 : decode cX9_laysGains 95 = .ok (.iinc 4 1, 3) := by decide +kernel
theorem dX9_laysGains_98 : decode cX9_laysGains 98 = .ok (.goto (-95), 3) := by decide +kernel
theorem dX9_laysGains_101 : decode cX9_laysGains 101 = .ok (.return_, 1) := by decide +kernel
theorem dX9_rests_0 : decode cX9_rests 0 = .ok (.iconst 0, 1) := by decide +kernel
theorem dX9_rests_1 : decode cX9_rests 1 = .ok (.istore_n 2, 1) := by decide +kernel
theorem dX9_rests_2 : decode cX9_rests 2 = .ok (.iload_n 2, 1) := by decide +kernel
theorem dX9_rests_3 : decode cX9_rests 3 = .ok (.iconst 5, 1) := by decide +kernel
theorem dX9_rests_4 : decode cX9_rests 4 = .ok (.if_icmp .ge 53, 3) := by decide +kernel
theorem dX9_rests_7 : decode cX9_rests 7 = .ok (.aload_n 0, 1) := by decide +kernel
theorem dX9_rests_8 : decode cX9_rests 8 = .ok (.getfield 68, 3) := by decide +kernel
theorem dX9_rests_11 : decode cX9_rests 11 = .ok (.iconst 5, 1) := by decide +kernel
theorem dX9_rests_12 : decode cX9_rests 12 = .ok (.iload_n 2, 1) := by decide +kernel
theorem dX9_rests_13 : decode cX9_rests 13 = .ok (.imul, 1) := by decide +kernel
theorem dX9_rests_14 : decode cX9_rests 14 = .ok (.iload_n 1, 1) := by decide +kernel
theorem dX9_rests_15 : decode cX9_rests 15 = .ok (.iconst 5, 1) := by decide +kernel
theorem dX9_rests_16 : decode cX9_rests 16 = .ok (.irem, 1) := by decide +kernel
theorem dX9_rests_17 : decode cX9_rests 17 = .ok (.iadd, 1) := by decide +kernel
theorem dX9_rests_18 : decode cX9_rests 18 = .ok (.iaload, 1) := by decide +kernel
theorem dX9_rests_19 : decode cX9_rests 19 = .ok (.aload_n 0, 1) := by decide +kernel
theorem dX9_rests_20 : decode cX9_rests 20 = .ok (.getfield 68, 3) := by decide +kernel
theorem dX9_rests_23 : decode cX9_rests 23 = .ok (.iload_n 1, 1) := by decide +kernel
theorem dX9_rests_24 : decode cX9_rests 24 = .ok (.iaload, 1) := by decide +kernel
theorem dX9_rests_25 : decode cX9_rests 25 = .ok (.if_icmp .gt 24, 3) := by decide +kernel
theorem dX9_rests_28 : decode cX9_rests 28 = .ok (.aload_n 0, 1) := by decide +kernel
theorem dX9_rests_29 : decode cX9_rests 29 = .ok (.getfield 71, 3) := by decide +kernel
theorem dX9_rests_32 : decode cX9_rests 32 = .ok (.iload_n 1, 1) := by decide +kernel
theorem dX9_rests_33 : decode cX9_rests 33 = .ok (.iconst 5, 1) := by decide +kernel
theorem dX9_rests_34 : decode cX9_rests 34 = .ok (.idiv, 1) := by decide +kernel
theorem dX9_rests_35 : decode cX9_rests 35 = .ok (.iconst 5, 1) := by decide +kernel
theorem dX9_rests_36 : decode cX9_rests 36 = .ok (.imul, 1) := by decide +kernel
theorem dX9_rests_37 : decode cX9_rests 37 = .ok (.iload_n 2, 1) := by decide +kernel
theorem dX9_rests_38 : decode cX9_rests 38 = .ok (.iadd, 1) := by decide +kernel
theorem dX9_rests_39 : decode cX9_rests 39 = .ok (.iaload, 1) := by decide +kernel
theorem dX9_rests_40 : decode cX9_rests 40 = .ok (.aload_n 0, 1) := by decide +kernel
theorem dX9_rests_41 : decode cX9_rests 41 = .ok (.getfield 71, 3) := by decide +kernel
theorem dX9_rests_44 : decode cX9_rests 44 = .ok (.iload_n 1, 1) := by decide +kernel
theorem dX9_rests_45 : decode cX9_rests 45 = .ok (.iaload, 1) := by decide +kernel
theorem dX9_rests_46 : decode cX9_rests 46 = .ok (.if_icmp .le 5, 3) := by decide +kernel
theorem dX9_rests_49 : decode cX9_rests 49 = .ok (.iconst 0, 1) := by decide +kernel
theorem dX9_rests_50 : decode cX9_rests 50 = .ok (.ireturn, 1) := by decide +kernel
theorem dX9_rests_51 : decode cX9_rests 51 = .ok (.iinc 2 1, 3) := by decide +kernel
theorem dX9_rests_54 : decode cX9_rests 54 = .ok (.goto (-52), 3) := by decide +kernel
theorem dX9_rests_57 : decode cX9_rests 57 = .ok (.iconst 1, 1) := by decide +kernel
theorem dX9_rests_58 : decode cX9_rests 58 = .ok (.ireturn, 1) := by decide +kernel
theorem dX9_isUnlit_0 : decode cX9_isUnlit 0 = .ok (.iload_n 1, 1) := by decide +kernel
theorem dX9_isUnlit_1 : decode cX9_isUnlit 1 = .ok (.invokestatic 102, 3) := by decide +kernel
theorem dX9_isUnlit_4 : decode cX9_isUnlit 4 = .ok (.ifCond .eq 23, 3) := by decide +kernel
theorem dX9_isUnlit_7 : decode cX9_isUnlit 7 = .ok (.aload_n 0, 1) := by decide +kernel
theorem dX9_isUnlit_8 : decode cX9_isUnlit 8 = .ok (.iload_n 1, 1) := by decide +kernel
theorem dX9_isUnlit_9 : decode cX9_isUnlit 9 = .ok (.invokevirtual 109, 3) := by decide +kernel
theorem dX9_isUnlit_12 : decode cX9_isUnlit 12 = .ok (.ifCond .eq 15, 3) := by decide +kernel
theorem dX9_isUnlit_15 : decode cX9_isUnlit 15 = .ok (.aload_n 0, 1) := by decide +kernel
theorem dX9_isUnlit_16 : decode cX9_isUnlit 16 = .ok (.iload_n 1, 1) := by decide +kernel
theorem dX9_isUnlit_17 : decode cX9_isUnlit 17 = .ok (.invokevirtual 253, 3) := by decide +kernel
theorem dX9_isUnlit_20 : decode cX9_isUnlit 20 = .ok (.ifCond .ne 7, 3) := by decide +kernel
theorem dX9_isUnlit_23 : decode cX9_isUnlit 23 = .ok (.iconst 1, 1) := by decide +kernel
theorem dX9_isUnlit_24 : decode cX9_isUnlit 24 = .ok (.goto 4, 3) := by decide +kernel
theorem dX9_isUnlit_27 : decode cX9_isUnlit 27 = .ok (.iconst 0, 1) := by decide +kernel
theorem dX9_isUnlit_28 : decode cX9_isUnlit 28 = .ok (.ireturn, 1) := by decide +kernel
theorem dX9_prices_0 : decode cX9_prices 0 = .ok (.aload_n 0, 1) := by decide +kernel
theorem dX9_prices_1 : decode cX9_prices 1 = .ok (.iload_n 1, 1) := by decide +kernel
theorem dX9_prices_2 : decode cX9_prices 2 = .ok (.invokevirtual 342, 3) := by decide +kernel
theorem dX9_prices_5 : decode cX9_prices 5 = .ok (.ifCond .eq 37, 3) := by decide +kernel
theorem dX9_prices_8 : decode cX9_prices 8 = .ok (.aload_n 0, 1) := by decide +kernel
theorem dX9_prices_9 : decode cX9_prices 9 = .ok (.iload_n 2, 1) := by decide +kernel
theorem dX9_prices_10 : decode cX9_prices 10 = .ok (.invokevirtual 342, 3) := by decide +kernel
theorem dX9_prices_13 : decode cX9_prices 13 = .ok (.ifCond .eq 29, 3) := by decide +kernel
theorem dX9_prices_16 : decode cX9_prices 16 = .ok (.iload_n 1, 1) := by decide +kernel
theorem dX9_prices_17 : decode cX9_prices 17 = .ok (.iload_n 2, 1) := by decide +kernel
theorem dX9_prices_18 : decode cX9_prices 18 = .ok (.if_icmp .eq 24, 3) := by decide +kernel
theorem dX9_prices_21 : decode cX9_prices 21 = .ok (.iload_n 3, 1) := by decide +kernel
theorem dX9_prices_22 : decode cX9_prices 22 = .ok (.iconst 0, 1) := by decide +kernel
theorem dX9_prices_23 : decode cX9_prices 23 = .ok (.sipush 9999, 3) := by decide +kernel
theorem dX9_prices_26 : decode cX9_prices 26 = .ok (.invokestatic 92, 3) := by decide +kernel
theorem dX9_prices_29 : decode cX9_prices 29 = .ok (.ifCond .eq 13, 3) := by decide +kernel
theorem dX9_prices_32 : decode cX9_prices 32 = .ok (.iload 4, 2) := by decide +kernel
theorem dX9_prices_34 : decode cX9_prices 34 = .ok (.iconst 0, 1) := by decide +kernel
theorem dX9_prices_35 : decode cX9_prices 35 = .ok (.iconst 2, 1) := by decide +kernel
theorem dX9_prices_36 : decode cX9_prices 36 = .ok (.invokestatic 92, 3) := by decide +kernel
theorem dX9_prices_39 : decode cX9_prices 39 = .ok (.ifCond .ne 6, 3) := by decide +kernel
theorem dX9_prices_42 : decode cX9_prices 42 = .ok (.bipush (-3), 2) := by decide +kernel
theorem dX9_prices_44 : decode cX9_prices 44 = .ok (.ireturn, 1) := by decide +kernel
theorem dX9_prices_45 : decode cX9_prices 45 = .ok (.aload_n 0, 1) := by decide +kernel
theorem dX9_prices_46 : decode cX9_prices 46 = .ok (.invokevirtual 336, 3) := by decide +kernel
theorem dX9_prices_49 : decode cX9_prices 49 = .ok (.aload_n 0, 1) := by decide +kernel
theorem dX9_prices_50 : decode cX9_prices 50 = .ok (.iload_n 1, 1) := by decide +kernel
theorem dX9_prices_51 : decode cX9_prices 51 = .ok (.iload_n 2, 1) := by decide +kernel
theorem dX9_prices_52 : decode cX9_prices 52 = .ok (.iload_n 3, 1) := by decide +kernel
theorem dX9_prices_53 : decode cX9_prices 53 = .ok (.invokevirtual 345, 3) := by decide +kernel
theorem dX9_prices_56 : decode cX9_prices 56 = .ok (.iconst 0, 1) := by decide +kernel
theorem dX9_prices_57 : decode cX9_prices 57 = .ok (.istore 5, 2) := by decide +kernel
theorem dX9_prices_59 : decode cX9_prices 59 = .ok (.iconst (-1), 1) := by decide +kernel
theorem dX9_prices_60 : decode cX9_prices 60 = .ok (.istore 6, 2) := by decide +kernel
theorem dX9_prices_62 : decode cX9_prices 62 = .ok (.iconst 0, 1) := by decide +kernel
theorem dX9_prices_63 : decode cX9_prices 63 = .ok (.istore 7, 2) := by decide +kernel
theorem dX9_prices_65 : decode cX9_prices 65 = .ok (.iload 7, 2) := by decide +kernel
theorem dX9_prices_67 : decode cX9_prices 67 = .ok (.bipush 25, 2) := by decide +kernel
theorem dX9_prices_69 : decode cX9_prices 69 = .ok (.if_icmp .ge 42, 3) := by decide +kernel
theorem dX9_prices_72 : decode cX9_prices 72 = .ok (.aload_n 0, 1) := by decide +kernel
theorem dX9_prices_73 : decode cX9_prices 73 = .ok (.iload 7, 2) := by decide +kernel
theorem dX9_prices_75 : decode cX9_prices 75 = .ok (.invokevirtual 349, 3) := by decide +kernel
theorem dX9_prices_78 : decode cX9_prices 78 = .ok (.ifCond .ne 6, 3) := by decide +kernel
theorem dX9_prices_81 : decode cX9_prices 81 = .ok (.goto 24, 3) := by decide +kernel
theorem dX9_prices_84 : decode cX9_prices 84 = .ok (.iload 6, 2) := by decide +kernel
theorem dX9_prices_86 : decode cX9_prices 86 = .ok (.iconst (-1), 1) := by decide +kernel
theorem dX9_prices_87 : decode cX9_prices 87 = .ok (.if_icmp .ne 8, 3) := by decide +kernel
theorem dX9_prices_90 : decode cX9_prices 90 = .ok (.iload 7, 2) := by decide +kernel
theorem dX9_prices_92 : decode cX9_prices 92 = .ok (.goto 5, 3) := by decide +kernel
theorem dX9_prices_95 : decode cX9_prices 95 = .ok (.iload 6, 2) := by decide +kernel
theorem dX9_prices_97 : decode cX9_prices 97 = .ok (.istore 6, 2) := by decide +kernel
theorem dX9_prices_99 : decode cX9_prices 99 = .ok (.iload 5, 2) := by decide +kernel
theorem dX9_prices_101 : decode cX9_prices 101 = .ok (.iconst 1, 1) := by decide +kernel
theorem dX9_prices_102 : decode cX9_prices 102 = .ok (.iadd, 1) := by decide +kernel
theorem dX9_prices_103 : decode cX9_prices 103 = .ok (.istore 5, 2) := by decide +kernel
theorem dX9_prices_105 : decode cX9_prices 105 = .ok (.iinc 7 1, 3) := by decide +kernel
theorem dX9_prices_108 : decode cX9_prices 108 = .ok (.goto (-43), 3) := by decide +kernel
theorem dX9_prices_111 : decode cX9_prices 111 = .ok (.iload 4, 2) := by decide +kernel
theorem dX9_prices_113 : decode cX9_prices 113 = .ok (.ifCond .ne 8, 3) := by decide +kernel
theorem dX9_prices_116 : decode cX9_prices 116 = .ok (.iload 5, 2) := by decide +kernel
theorem dX9_prices_118 : decode cX9_prices 118 = .ok (.goto 35, 3) := by decide +kernel
theorem dX9_prices_121 : decode cX9_prices 121 = .ok (.iload 6, 2) := by decide +kernel
theorem dX9_prices_123 : decode cX9_prices 123 = .ok (.iconst (-1), 1) := by decide +kernel
theorem dX9_prices_124 : decode cX9_prices 124 = .ok (.if_icmp .ne 8, 3) := by decide +kernel
theorem dX9_prices_127 : decode cX9_prices 127 = .ok (.bipush (-2), 2) := by decide +kernel
theorem dX9_prices_129 : decode cX9_prices 129 = .ok (.goto 24, 3) := by decide +kernel
theorem dX9_prices_132 : decode cX9_prices 132 = .ok (.iload 4, 2) := by decide +kernel
theorem dX9_prices_134 : decode cX9_prices 134 = .ok (.iconst 1, 1) := by decide +kernel
theorem dX9_prices_135 : decode cX9_prices 135 = .ok (.if_icmp .ne 12, 3) := by decide +kernel
theorem dX9_prices_138 : decode cX9_prices 138 = .ok (.iload 6, 2) := by decide +kernel
theorem dX9_prices_140 : decode cX9_prices 140 = .ok (.iconst 5, 1) := by decide +kernel
theorem dX9_prices_141 : decode cX9_prices 141 = .ok (.idiv, 1) := by decide +kernel
theorem dX9_prices_142 : decode cX9_prices 142 = .ok (.iconst 1, 1) := by decide +kernel
theorem dX9_prices_143 : decode cX9_prices 143 = .ok (.iadd, 1) := by decide +kernel
theorem dX9_prices_144 : decode cX9_prices 144 = .ok (.goto 9, 3) := by decide +kernel
theorem dX9_prices_147 : decode cX9_prices 147 = .ok (.iload 6, 2) := by decide +kernel
theorem dX9_prices_149 : decode cX9_prices 149 = .ok (.iconst 5, 1) := by decide +kernel
theorem dX9_prices_150 : decode cX9_prices 150 = .ok (.irem, 1) := by decide +kernel
theorem dX9_prices_151 : decode cX9_prices 151 = .ok (.iconst 1, 1) := by decide +kernel
theorem dX9_prices_152 : decode cX9_prices 152 = .ok (.iadd, 1) := by decide +kernel
theorem dX9_prices_153 : decode cX9_prices 153 = .ok (.ireturn, 1) := by decide +kernel
theorem dX9_areWithin_0 : decode cX9_areWithin 0 = .ok (.iload_n 1, 1) := by decide +kernel
theorem dX9_areWithin_1 : decode cX9_areWithin 1 = .ok (.iconst 1, 1) := by decide +kernel
theorem dX9_areWithin_2 : decode cX9_areWithin 2 = .ok (.bipush 8, 2) := by decide +kernel
theorem dX9_areWithin_4 : decode cX9_areWithin 4 = .ok (.invokestatic 92, 3) := by decide +kernel
theorem dX9_areWithin_7 : decode cX9_areWithin 7 = .ok (.ifCond .eq 22, 3) := by decide +kernel
theorem dX9_areWithin_10 : decode cX9_areWithin 10 = .ok (.aload_n 0, 1) := by decide +kernel
theorem dX9_areWithin_11 : decode cX9_areWithin 11 = .ok (.getfield 7, 3) := by decide +kernel
theorem dX9_areWithin_14 : decode cX9_areWithin 14 = .ok (.sipush 328, 3) := by decide +kernel
theorem dX9_areWithin_17 : decode cX9_areWithin 17 = .ok (.iaload, 1) := by decide +kernel
theorem dX9_areWithin_18 : decode cX9_areWithin 18 = .ok (.iload_n 1, 1) := by decide +kernel
theorem dX9_areWithin_19 : decode cX9_areWithin 19 = .ok (.iadd, 1) := by decide +kernel
theorem dX9_areWithin_20 : decode cX9_areWithin 20 = .ok (.bipush 8, 2) := by decide +kernel
theorem dX9_areWithin_22 : decode cX9_areWithin 22 = .ok (.if_icmp .gt 7, 3) := by decide +kernel
theorem dX9_areWithin_25 : decode cX9_areWithin 25 = .ok (.iconst 1, 1) := by decide +kernel
theorem dX9_areWithin_26 : decode cX9_areWithin 26 = .ok (.goto 4, 3) := by decide +kernel
theorem dX9_areWithin_29 : decode cX9_areWithin 29 = .ok (.iconst 0, 1) := by decide +kernel
theorem dX9_areWithin_30 : decode cX9_areWithin 30 = .ok (.ireturn, 1) := by decide +kernel
theorem dX9_unknown_0 : decode cX9_unknown 0 = .ok (.iconst 0, 1) := by decide +kernel
theorem dX9_unknown_1 : decode cX9_unknown 1 = .ok (.istore_n 1, 1) := by decide +kernel
theorem dX9_unknown_2 : decode cX9_unknown 2 = .ok (.iconst 0, 1) := by decide +kernel
theorem dX9_unknown_3 : decode cX9_unknown 3 = .ok (.istore_n 2, 1) := by decide +kernel
theorem dX9_unknown_4 : decode cX9_unknown 4 = .ok (.iconst 0, 1) := by decide +kernel
theorem dX9_unknown_5 : decode cX9_unknown 5 = .ok (.istore_n 3, 1) := by decide +kernel
theorem dX9_unknown_6 : decode cX9_unknown 6 = .ok (.iload_n 3, 1) := by decide +kernel
theorem dX9_unknown_7 : decode cX9_unknown 7 = .ok (.bipush 12, 2) := by decide +kernel
theorem dX9_unknown_9 : decode cX9_unknown 9 = .ok (.if_icmp .ge 59, 3) := by decide +kernel
theorem dX9_unknown_12 : decode cX9_unknown 12 = .ok (.aload_n 0, 1) := by decide +kernel
theorem dX9_unknown_13 : decode cX9_unknown 13 = .ok (.iload_n 3, 1) := by decide +kernel
theorem dX9_unknown_14 : decode cX9_unknown 14 = .ok (.invokevirtual 109, 3) := by decide +kernel
theorem dX9_unknown_17 : decode cX9_unknown 17 = .ok (.ifCond .eq 45, 3) := by decide +kernel
theorem dX9_unknown_20 : decode cX9_unknown 20 = .ok (.iload_n 3, 1) := by decide +kernel
theorem dX9_unknown_21 : decode cX9_unknown 21 = .ok (.bipush 9, 2) := by decide +kernel
theorem dX9_unknown_23 : decode cX9_unknown 23 = .ok (.if_icmp .ge 19, 3) := by decide +kernel
theorem dX9_unknown_26 : decode cX9_unknown 26 = .ok (.aload_n 0, 1) := by decide +kernel
theorem dX9_unknown_27 : decode cX9_unknown 27 = .ok (.iload_n 3, 1) := by decide +kernel
theorem dX9_unknown_28 : decode cX9_unknown 28 = .ok (.invokevirtual 253, 3) := by decide +kernel
theorem dX9_unknown_31 : decode cX9_unknown 31 = .ok (.ifCond .ne 31, 3) := by decide +kernel
theorem dX9_unknown_34 : decode cX9_unknown 34 = .ok (.iload_n 2, 1) := by decide +kernel
theorem dX9_unknown_35 : decode cX9_unknown 35 = .ok (.iconst 5, 1) := by decide +kernel
theorem dX9_unknown_36 : decode cX9_unknown 36 = .ok (.if_icmp .ne 6, 3) := by decide +kernel
theorem dX9_unknown_39 : decode cX9_unknown 39 = .ok (.goto 23, 3) := by decide +kernel
theorem dX9_unknown_42 : decode cX9_unknown 42 = .ok (.iload_n 1, 1) := by decide +kernel
theorem dX9_unknown_43 : decode cX9_unknown 43 = .ok (.iconst 1, 1) := by decide +kernel
theorem dX9_unknown_44 : decode cX9_unknown 44 = .ok (.iload_n 3, 1) := by decide +kernel
theorem dX9_unknown_45 : decode cX9_unknown 45 = .ok (.ishl, 1) := by decide +kernel
theorem dX9_unknown_46 : decode cX9_unknown 46 = .ok (.ior, 1) := by decide +kernel
theorem dX9_unknown_47 : decode cX9_unknown 47 = .ok (.istore_n 1, 1) := by decide +kernel
theorem dX9_unknown_48 : decode cX9_unknown 48 = .ok (.iload_n 2, 1) := by decide +kernel
theorem dX9_unknown_49 : decode cX9_unknown 49 = .ok (.iload_n 3, 1) := by decide +kernel
theorem dX9_unknown_50 : decode cX9_unknown 50 = .ok (.bipush 9, 2) := by decide +kernel
theorem dX9_unknown_52 : decode cX9_unknown 52 = .ok (.if_icmp .ge 7, 3) := by decide +kernel
theorem dX9_unknown_55 : decode cX9_unknown 55 = .ok (.iconst 1, 1) := by decide +kernel
theorem dX9_unknown_56 : decode cX9_unknown 56 = .ok (.goto 4, 3) := by decide +kernel
theorem dX9_unknown_59 : decode cX9_unknown 59 = .ok (.iconst 0, 1) := by decide +kernel
theorem dX9_unknown_60 : decode cX9_unknown 60 = .ok (.iadd, 1) := by decide +kernel
theorem dX9_unknown_61 : decode cX9_unknown 61 = .ok (.istore_n 2, 1) := by decide +kernel
theorem dX9_unknown_62 : decode cX9_unknown 62 = .ok (.iinc 3 1, 3) := by decide +kernel
theorem dX9_unknown_65 : decode cX9_unknown 65 = .ok (.goto (-59), 3) := by decide +kernel
theorem dX9_unknown_68 : decode cX9_unknown 68 = .ok (.iload_n 1, 1) := by decide +kernel
theorem dX9_unknown_69 : decode cX9_unknown 69 = .ok (.ireturn, 1) := by decide +kernel
theorem dX9_comesSo_0 : decode cX9_comesSo 0 = .ok (.aload_n 0, 1) := by decide +kernel
theorem dX9_comesSo_1 : decode cX9_comesSo 1 = .ok (.invokevirtual 315, 3) := by decide +kernel
theorem dX9_comesSo_4 : decode cX9_comesSo 4 = .ok (.iconst 0, 1) := by decide +kernel
theorem dX9_comesSo_5 : decode cX9_comesSo 5 = .ok (.istore_n 3, 1) := by decide +kernel
theorem dX9_comesSo_6 : decode cX9_comesSo 6 = .ok (.iload_n 3, 1) := by decide +kernel
theorem dX9_comesSo_7 : decode cX9_comesSo 7 = .ok (.bipush 9, 2) := by decide +kernel
theorem dX9_comesSo_9 : decode cX9_comesSo 9 = .ok (.if_icmp .ge 28, 3) := by decide +kernel
theorem dX9_comesSo_12 : decode cX9_comesSo 12 = .ok (.iload_n 2, 1) := by decide +kernel
theorem dX9_comesSo_13 : decode cX9_comesSo 13 = .ok (.iload_n 3, 1) := by decide +kernel
theorem dX9_comesSo_14 : decode cX9_comesSo 14 = .ok (.invokestatic 226, 3) := by decide +kernel
theorem dX9_comesSo_17 : decode cX9_comesSo 17 = .ok (.ifCond .eq 14, 3) := by decide +kernel
theorem dX9_comesSo_20 : decode cX9_comesSo 20 = .ok (.aload_n 0, 1) := by decide +kernel
theorem dX9_comesSo_21 : decode cX9_comesSo 21 = .ok (.getfield 7, 3) := by decide +kernel
theorem dX9_comesSo_24 : decode cX9_comesSo 24 = .ok (.sipush 232, 3) := by decide +kernel
theorem dX9_comesSo_27 : decode cX9_comesSo 27 = .ok (.iload_n 3, 1) := by decide +kernel
theorem dX9_comesSo_28 : decode cX9_comesSo 28 = .ok (.iadd, 1) := by decide +kernel
theorem dX9_comesSo_29 : decode cX9_comesSo 29 = .ok (.iconst 1, 1) := by decide +kernel
theorem dX9_comesSo_30 : decode cX9_comesSo 30 = .ok (.iastore, 1) := by decide +kernel
theorem dX9_comesSo_31 : decode cX9_comesSo 31 = .ok (.iinc 3 1, 3) := by decide +kernel
theorem dX9_comesSo_34 : decode cX9_comesSo 34 = .ok (.goto (-28), 3) := by decide +kernel
theorem dX9_comesSo_37 : decode cX9_comesSo 37 = .ok (.bipush 9, 2) := by decide +kernel
theorem dX9_comesSo_39 : decode cX9_comesSo 39 = .ok (.istore_n 3, 1) := by decide +kernel
theorem dX9_comesSo_40 : decode cX9_comesSo 40 = .ok (.iload_n 3, 1) := by decide +kernel
theorem dX9_comesSo_41 : decode cX9_comesSo 41 = .ok (.bipush 12, 2) := by decide +kernel
theorem dX9_comesSo_43 : decode cX9_comesSo 43 = .ok (.if_icmp .ge 32, 3) := by decide +kernel
theorem dX9_comesSo_46 : decode cX9_comesSo 46 = .ok (.aload_n 0, 1) := by decide +kernel
theorem dX9_comesSo_47 : decode cX9_comesSo 47 = .ok (.getfield 7, 3) := by decide +kernel
theorem dX9_comesSo_50 : decode cX9_comesSo 50 = .ok (.sipush 256, 3) := by decide +kernel
theorem dX9_comesSo_53 : decode cX9_comesSo 53 = .ok (.iload_n 3, 1) := by decide +kernel
theorem dX9_comesSo_54 : decode cX9_comesSo 54 = .ok (.iadd, 1) := by decide +kernel
theorem dX9_comesSo_55 : decode cX9_comesSo 55 = .ok (.iload_n 2, 1) := by decide +kernel
theorem dX9_comesSo_56 : decode cX9_comesSo 56 = .ok (.iload_n 3, 1) := by decide +kernel
theorem dX9_comesSo_57 : decode cX9_comesSo 57 = .ok (.invokestatic 226, 3) := by decide +kernel
theorem dX9_comesSo_60 : decode cX9_comesSo 60 = .ok (.ifCond .eq 7, 3) := by decide +kernel
theorem dX9_comesSo_63 : decode cX9_comesSo 63 = .ok (.iconst 1, 1) := by decide +kernel
theorem dX9_comesSo_64 : decode cX9_comesSo 64 = .ok (.goto 4, 3) := by decide +kernel
theorem dX9_comesSo_67 : decode cX9_comesSo 67 = .ok (.iconst 0, 1) := by decide +kernel
theorem dX9_comesSo_68 : decode cX9_comesSo 68 = .ok (.iastore, 1) := by decide +kernel
theorem dX9_comesSo_69 : decode cX9_comesSo 69 = .ok (.iinc 3 1, 3) := by decide +kernel
theorem dX9_comesSo_72 : decode cX9_comesSo 72 = .ok (.goto (-32), 3) := by decide +kernel
theorem dX9_comesSo_75 : decode cX9_comesSo 75 = .ok (.aload_n 0, 1) := by decide +kernel
theorem dX9_comesSo_76 : decode cX9_comesSo 76 = .ok (.iload_n 1, 1) := by decide +kernel
theorem dX9_comesSo_77 : decode cX9_comesSo 77 = .ok (.invokevirtual 299, 3) := by decide +kernel
theorem dX9_comesSo_80 : decode cX9_comesSo 80 = .ok (.pop, 1) := by decide +kernel
theorem dX9_comesSo_81 : decode cX9_comesSo 81 = .ok (.iconst 0, 1) := by decide +kernel
theorem dX9_comesSo_82 : decode cX9_comesSo 82 = .ok (.istore_n 3, 1) := by decide +kernel
theorem dX9_comesSo_83 : decode cX9_comesSo 83 = .ok (.iload_n 3, 1) := by decide +kernel
theorem dX9_comesSo_84 : decode cX9_comesSo 84 = .ok (.bipush 6, 2) := by decide +kernel
theorem dX9_comesSo_86 : decode cX9_comesSo 86 = .ok (.if_icmp .ge 54, 3) := by decide +kernel
theorem dX9_comesSo_89 : decode cX9_comesSo 89 = .ok (.aload_n 0, 1) := by decide +kernel
theorem dX9_comesSo_90 : decode cX9_comesSo 90 = .ok (.getfield 74, 3) := by decide +kernel
theorem dX9_comesSo_93 : decode cX9_comesSo 93 = .ok (.iload_n 3, 1) := by decide +kernel
theorem dX9_comesSo_94 : decode cX9_comesSo 94 = .ok (.iaload, 1) := by decide +kernel
theorem dX9_comesSo_95 : decode cX9_comesSo 95 = .ok (.iconst (-1), 1) := by decide +kernel
theorem dX9_comesSo_96 : decode cX9_comesSo 96 = .ok (.if_icmp .eq 38, 3) := by decide +kernel
theorem dX9_comesSo_99 : decode cX9_comesSo 99 = .ok (.aload_n 0, 1) := by decide +kernel
theorem dX9_comesSo_100 : decode cX9_comesSo 100 = .ok (.getfield 74, 3) := by decide +kernel
theorem dX9_comesSo_103 : decode cX9_comesSo 103 = .ok (.iload_n 3, 1) := by decide +kernel
theorem dX9_comesSo_104 : decode cX9_comesSo 104 = .ok (.iaload, 1) := by decide +kernel
theorem dX9_comesSo_105 : decode cX9_comesSo 105 = .ok (.aload_n 0, 1) := by decide +kernel
theorem dX9_comesSo_106 : decode cX9_comesSo 106 = .ok (.iload_n 3, 1) := by decide +kernel
theorem dX9_comesSo_107 : decode cX9_comesSo 107 = .ok (.invokevirtual 85, 3) := by decide +kernel
theorem dX9_comesSo_110 : decode cX9_comesSo 110 = .ok (.ifCond .eq 16, 3) := by decide +kernel
theorem dX9_comesSo_113 : decode cX9_comesSo 113 = .ok (.aload_n 0, 1) := by decide +kernel
theorem dX9_comesSo_114 : decode cX9_comesSo 114 = .ok (.getfield 7, 3) := by decide +kernel
theorem dX9_comesSo_117 : decode cX9_comesSo 117 = .ok (.sipush 274, 3) := by decide +kernel
theorem dX9_comesSo_120 : decode cX9_comesSo 120 = .ok (.iload_n 3, 1) := by decide +kernel
theorem dX9_comesSo_121 : decode cX9_comesSo 121 = .ok (.iadd, 1) := by decide +kernel
theorem dX9_comesSo_122 : decode cX9_comesSo 122 = .ok (.iaload, 1) := by decide +kernel
theorem dX9_comesSo_123 : decode cX9_comesSo 123 = .ok (.goto 6, 3) := by decide +kernel
theorem dX9_comesSo_126 : decode cX9_comesSo 126 = .ok (.sipush 255, 3) := by decide +kernel
theorem dX9_comesSo_129 : decode cX9_comesSo 129 = .ok (.if_icmp .eq 5, 3) := by decide +kernel
theorem dX9_comesSo_132 : decode cX9_comesSo 132 = .ok (.iconst 0, 1) := by decide +kernel
theorem dX9_comesSo_133 : decode cX9_comesSo 133 = .ok (.ireturn, 1) := by decide +kernel
theorem dX9_comesSo_134 : decode cX9_comesSo 134 = .ok (.iinc 3 1, 3) := by decide +kernel
theorem dX9_comesSo_137 : decode cX9_comesSo 137 = .ok (.goto (-54), 3) := by decide +kernel
theorem dX9_comesSo_140 : decode cX9_comesSo 140 = .ok (.iconst 1, 1) := by decide +kernel
theorem dX9_comesSo_141 : decode cX9_comesSo 141 = .ok (.ireturn, 1) := by decide +kernel
theorem dX9_whoLit_0 : decode cX9_whoLit 0 = .ok (.iconst 0, 1) := by decide +kernel
theorem dX9_whoLit_1 : decode cX9_whoLit 1 = .ok (.istore_n 3, 1) := by decide +kernel
theorem dX9_whoLit_2 : decode cX9_whoLit 2 = .ok (.iconst 0, 1) := by decide +kernel
theorem dX9_whoLit_3 : decode cX9_whoLit 3 = .ok (.istore 4, 2) := by decide +kernel
theorem dX9_whoLit_5 : decode cX9_whoLit 5 = .ok (.iload 4, 2) := by decide +kernel
theorem dX9_whoLit_7 : decode cX9_whoLit 7 = .ok (.bipush 6, 2) := by decide +kernel
theorem dX9_whoLit_9 : decode cX9_whoLit 9 = .ok (.if_icmp .ge 26, 3) := by decide +kernel
theorem dX9_whoLit_12 : decode cX9_whoLit 12 = .ok (.iload_n 3, 1) := by decide +kernel
theorem dX9_whoLit_13 : decode cX9_whoLit 13 = .ok (.aload_n 0, 1) := by decide +kernel
theorem dX9_whoLit_14 : decode cX9_whoLit 14 = .ok (.iload 4, 2) := by decide +kernel
theorem dX9_whoLit_16 : decode cX9_whoLit 16 = .ok (.invokevirtual 85, 3) := by decide +kernel
theorem dX9_whoLit_19 : decode cX9_whoLit 19 = .ok (.ifCond .eq 7, 3) := by decide +kernel
theorem dX9_whoLit_22 : decode cX9_whoLit 22 = .ok (.iconst 1, 1) := by decide +kernel
theorem dX9_whoLit_23 : decode cX9_whoLit 23 = .ok (.goto 4, 3) := by decide +kernel
theorem dX9_whoLit_26 : decode cX9_whoLit 26 = .ok (.iconst 0, 1) := by decide +kernel
theorem dX9_whoLit_27 : decode cX9_whoLit 27 = .ok (.iadd, 1) := by decide +kernel
theorem dX9_whoLit_28 : decode cX9_whoLit 28 = .ok (.istore_n 3, 1) := by decide +kernel
theorem dX9_whoLit_29 : decode cX9_whoLit 29 = .ok (.iinc 4 1, 3) := by decide +kernel
theorem dX9_whoLit_32 : decode cX9_whoLit 32 = .ok (.goto (-27), 3) := by decide +kernel
theorem dX9_whoLit_35 : decode cX9_whoLit 35 = .ok (.aload_n 0, 1) := by decide +kernel
theorem dX9_whoLit_36 : decode cX9_whoLit 36 = .ok (.iload_n 1, 1) := by decide +kernel
theorem dX9_whoLit_37 : decode cX9_whoLit 37 = .ok (.invokevirtual 352, 3) := by decide +kernel
theorem dX9_whoLit_40 : decode cX9_whoLit 40 = .ok (.ifCond .eq 24, 3) := by decide +kernel
theorem dX9_whoLit_43 : decode cX9_whoLit 43 = .ok (.iload_n 2, 1) := by decide +kernel
theorem dX9_whoLit_44 : decode cX9_whoLit 44 = .ok (.iconst 0, 1) := by decide +kernel
theorem dX9_whoLit_45 : decode cX9_whoLit 45 = .ok (.iconst 2, 1) := by decide +kernel
theorem dX9_whoLit_46 : decode cX9_whoLit 46 = .ok (.invokestatic 92, 3) := by decide +kernel
theorem dX9_whoLit_49 : decode cX9_whoLit 49 = .ok (.ifCond .eq 15, 3) := by decide +kernel
theorem dX9_whoLit_52 : decode cX9_whoLit 52 = .ok (.iload_n 3, 1) := by decide +kernel
theorem dX9_whoLit_53 : decode cX9_whoLit 53 = .ok (.ifCond .eq 11, 3) := by decide +kernel
theorem dX9_whoLit_56 : decode cX9_whoLit 56 = .ok (.iload_n 3, 1) := by decide +kernel
theorem dX9_whoLit_57 : decode cX9_whoLit 57 = .ok (.aload_n 0, 1) := by decide +kernel
theorem dX9_whoLit_58 : decode cX9_whoLit 58 = .ok (.getfield 115, 3) := by decide +kernel
theorem dX9_whoLit_61 : decode cX9_whoLit 61 = .ok (.if_icmp .le 5, 3) := by decide +kernel
theorem dX9_whoLit_64 : decode cX9_whoLit 64 = .ok (.iconst (-1), 1) := by decide +kernel
theorem dX9_whoLit_65 : decode cX9_whoLit 65 = .ok (.ireturn, 1) := by decide +kernel
theorem dX9_whoLit_66 : decode cX9_whoLit 66 = .ok (.aload_n 0, 1) := by decide +kernel
theorem dX9_whoLit_67 : decode cX9_whoLit 67 = .ok (.iconst 0, 1) := by decide +kernel
theorem dX9_whoLit_68 : decode cX9_whoLit 68 = .ok (.putfield 115, 3) := by decide +kernel
theorem dX9_whoLit_71 : decode cX9_whoLit 71 = .ok (.iconst 0, 1) := by decide +kernel
theorem dX9_whoLit_72 : decode cX9_whoLit 72 = .ok (.istore 4, 2) := by decide +kernel
theorem dX9_whoLit_74 : decode cX9_whoLit 74 = .ok (.iconst 0, 1) := by decide +kernel
theorem dX9_whoLit_75 : decode cX9_whoLit 75 = .ok (.istore 5, 2) := by decide +kernel
theorem dX9_whoLit_77 : decode cX9_whoLit 77 = .ok (.iload 5, 2) := by decide +kernel
theorem dX9_whoLit_79 : decode cX9_whoLit 79 = .ok (.bipush 6, 2) := by decide +kernel
theorem dX9_whoLit_81 : decode cX9_whoLit 81 = .ok (.if_icmp .ge 59, 3) := by decide +kernel
theorem dX9_whoLit_84 : decode cX9_whoLit 84 = .ok (.aload_n 0, 1) := by decide +kernel
theorem dX9_whoLit_85 : decode cX9_whoLit 85 = .ok (.getfield 74, 3) := by decide +kernel
theorem dX9_whoLit_88 : decode cX9_whoLit 88 = .ok (.iload 5, 2) := by decide +kernel
theorem dX9_whoLit_90 : decode cX9_whoLit 90 = .ok (.aload_n 0, 1) := by decide +kernel
theorem dX9_whoLit_91 : decode cX9_whoLit 91 = .ok (.iload 5, 2) := by decide +kernel
theorem dX9_whoLit_93 : decode cX9_whoLit 93 = .ok (.invokevirtual 85, 3) := by decide +kernel
theorem dX9_whoLit_96 : decode cX9_whoLit 96 = .ok (.ifCond .eq 17, 3) := by decide +kernel
theorem dX9_whoLit_99 : decode cX9_whoLit 99 = .ok (.aload_n 0, 1) := by decide +kernel
theorem dX9_whoLit_100 : decode cX9_whoLit 100 = .ok (.getfield 19, 3) := by decide +kernel
theorem dX9_whoLit_103 : decode cX9_whoLit 103 = .ok (.iload 4, 2) := by decide +kernel
theorem dX9_whoLit_105 : decode cX9_whoLit 105 = .ok (.baload, 1) := by decide +kernel
theorem dX9_whoLit_106 : decode cX9_whoLit 106 = .ok (.sipush 255, 3) := by decide +kernel
theorem dX9_whoLit_109 : decode cX9_whoLit 109 = .ok (.iand, 1) := by decide +kernel
theorem dX9_whoLit_110 : decode cX9_whoLit 110 = .ok (.goto 4, 3) := by decide +kernel
theorem dX9_whoLit_113 : decode cX9_whoLit 113 = .ok (.iconst (-1), 1) := by decide +kernel
theorem dX9_whoLit_114 : decode cX9_whoLit 114 = .ok (.iastore, 1) := by decide +kernel
theorem dX9_whoLit_115 : decode cX9_whoLit 115 = .ok (.iload 4, 2) := by decide +kernel
theorem dX9_whoLit_117 : decode cX9_whoLit 117 = .ok (.aload_n 0, 1) := by decide +kernel
theorem dX9_whoLit_118 : decode cX9_whoLit 118 = .ok (.iload 5, 2) := by decide +kernel
theorem dX9_whoLit_120 : decode cX9_whoLit 120 = .ok (.invokevirtual 85, 3) := by decide +kernel
theorem dX9_whoLit_123 : decode cX9_whoLit 123 = .ok (.ifCond .eq 7, 3) := by decide +kernel
theorem dX9_whoLit_126 : decode cX9_whoLit 126 = .ok (.iconst 1, 1) := by decide +kernel
theorem dX9_whoLit_127 : decode cX9_whoLit 127 = .ok (.goto 4, 3) := by decide +kernel
theorem dX9_whoLit_130 : decode cX9_whoLit 130 = .ok (.iconst 0, 1) := by decide +kernel
theorem dX9_whoLit_131 : decode cX9_whoLit 131 = .ok (.iadd, 1) := by decide +kernel
theorem dX9_whoLit_132 : decode cX9_whoLit 132 = .ok (.istore 4, 2) := by decide +kernel
theorem dX9_whoLit_134 : decode cX9_whoLit 134 = .ok (.iinc 5 1, 3) := by decide +kernel
theorem dX9_whoLit_137 : decode cX9_whoLit 137 = .ok (.goto (-60), 3) := by decide +kernel
theorem dX9_whoLit_140 : decode cX9_whoLit 140 = .ok (.aload_n 0, 1) := by decide +kernel
theorem dX9_whoLit_141 : decode cX9_whoLit 141 = .ok (.invokevirtual 355, 3) := by decide +kernel
theorem dX9_whoLit_144 : decode cX9_whoLit 144 = .ok (.istore 5, 2) := by decide +kernel
theorem dX9_whoLit_146 : decode cX9_whoLit 146 = .ok (.aload_n 0, 1) := by decide +kernel
theorem dX9_whoLit_147 : decode cX9_whoLit 147 = .ok (.invokevirtual 306, 3) := by decide +kernel
theorem dX9_whoLit_150 : decode cX9_whoLit 150 = .ok (.iconst 0, 1) := by decide +kernel
theorem dX9_whoLit_151 : decode cX9_whoLit 151 = .ok (.istore 6, 2) := by decide +kernel
theorem dX9_whoLit_153 : decode cX9_whoLit 153 = .ok (.bipush (-2), 2) := by decide +kernel
theorem dX9_whoLit_155 : decode cX9_whoLit 155 = .ok (.istore 7, 2) := by decide +kernel
theorem dX9_whoLit_157 : decode cX9_whoLit 157 = .ok (.sipush 4095, 3) := by decide +kernel
theorem dX9_whoLit_160 : decode cX9_whoLit 160 = .ok (.istore 8, 2) := by decide +kernel
theorem dX9_whoLit_162 : decode cX9_whoLit 162 = .ok (.iconst 0, 1) := by decide +kernel
theorem dX9_whoLit_163 : decode cX9_whoLit 163 = .ok (.istore 9, 2) := by decide +kernel
theorem dX9_whoLit_165 : decode cX9_whoLit 165 = .ok (.iload 9, 2) := by decide +kernel
theorem dX9_whoLit_167 : decode cX9_whoLit 167 = .ok (.sipush 4096, 3) := by decide +kernel
theorem dX9_whoLit_170 : decode cX9_whoLit 170 = .ok (.if_icmp .ge 59, 3) := by decide +kernel
theorem dX9_whoLit_173 : decode cX9_whoLit 173 = .ok (.iload 9, 2) := by decide +kernel
theorem dX9_whoLit_175 : decode cX9_whoLit 175 = .ok (.iload 5, 2) := by decide +kernel
theorem dX9_whoLit_177 : decode cX9_whoLit 177 = .ok (.iconst (-1), 1) := by decide +kernel
theorem dX9_whoLit_178 : decode cX9_whoLit 178 = .ok (.ixor, 1) := by decide +kernel
theorem dX9_whoLit_179 : decode cX9_whoLit 179 = .ok (.iand, 1) := by decide +kernel
theorem dX9_whoLit_180 : decode cX9_whoLit 180 = .ok (.ifCond .ne 43, 3) := by decide +kernel
theorem dX9_whoLit_183 : decode cX9_whoLit 183 = .ok (.aload_n 0, 1) := by decide +kernel
theorem dX9_whoLit_184 : decode cX9_whoLit 184 = .ok (.iload_n 1, 1) := by decide +kernel
theorem dX9_whoLit_185 : decode cX9_whoLit 185 = .ok (.iload 9, 2) := by decide +kernel
theorem dX9_whoLit_187 : decode cX9_whoLit 187 = .ok (.invokevirtual 358, 3) := by decide +kernel
theorem dX9_whoLit_190 : decode cX9_whoLit 190 = .ok (.ifCond .ne 6, 3) := by decide +kernel
theorem dX9_whoLit_193 : decode cX9_whoLit 193 = .ok (.goto 30, 3) := by decide +kernel
theorem dX9_whoLit_196 : decode cX9_whoLit 196 = .ok (.iload 6, 2) := by decide +kernel
theorem dX9_whoLit_198 : decode cX9_whoLit 198 = .ok (.ifCond .ne 8, 3) := by decide +kernel
theorem dX9_whoLit_201 : decode cX9_whoLit 201 = .ok (.iload 9, 2) := by decide +kernel
theorem dX9_whoLit_203 : decode cX9_whoLit 203 = .ok (.goto 5, 3) := by decide +kernel
theorem dX9_whoLit_206 : decode cX9_whoLit 206 = .ok (.iload 7, 2) := by decide +kernel
theorem dX9_whoLit_208 : decode cX9_whoLit 208 = .ok (.istore 7, 2) := by decide +kernel
theorem dX9_whoLit_210 : decode cX9_whoLit 210 = .ok (.iload 8, 2) := by decide +kernel
theorem dX9_whoLit_212 : decode cX9_whoLit 212 = .ok (.iload 9, 2) := by decide +kernel
theorem dX9_whoLit_214 : decode cX9_whoLit 214 = .ok (.iand, 1) := by decide +kernel
theorem dX9_whoLit_215 : decode cX9_whoLit 215 = .ok (.istore 8, 2) := by decide +kernel
theorem dX9_whoLit_217 : decode cX9_whoLit 217 = .ok (.iload 6, 2) := by decide +kernel
theorem dX9_whoLit_219 : decode cX9_whoLit 219 = .ok (.iconst 1, 1) := by decide +kernel
theorem dX9_whoLit_220 : decode cX9_whoLit 220 = .ok (.iadd, 1) := by decide +kernel
theorem dX9_whoLit_221 : decode cX9_whoLit 221 = .ok (.istore 6, 2) := by decide +kernel
theorem dX9_whoLit_223 : decode cX9_whoLit 223 = .ok (.iinc 9 1, 3) := by decide +kernel
theorem dX9_whoLit_226 : decode cX9_whoLit 226 = .ok (.goto (-61), 3) := by decide +kernel
theorem dX9_whoLit_229 : decode cX9_whoLit 229 = .ok (.aload_n 0, 1) := by decide +kernel
theorem dX9_whoLit_230 : decode cX9_whoLit 230 = .ok (.invokevirtual 315, 3) := by decide +kernel
theorem dX9_whoLit_233 : decode cX9_whoLit 233 = .ok (.iload_n 2, 1) := by decide +kernel
theorem dX9_whoLit_234 : decode cX9_whoLit 234 = .ok (.ifCond .ne 8, 3) := by decide +kernel
theorem dX9_whoLit_237 : decode cX9_whoLit 237 = .ok (.iload 6, 2) := by decide +kernel
theorem dX9_whoLit_239 : decode cX9_whoLit 239 = .ok (.goto 25, 3) := by decide +kernel
theorem dX9_whoLit_242 : decode cX9_whoLit 242 = .ok (.iload 6, 2) := by decide +kernel
theorem dX9_whoLit_244 : decode cX9_whoLit 244 = .ok (.ifCond .ne 8, 3) := by decide +kernel
theorem dX9_whoLit_247 : decode cX9_whoLit 247 = .ok (.bipush (-2), 2) := by decide +kernel
theorem dX9_whoLit_249 : decode cX9_whoLit 249 = .ok (.goto 15, 3) := by decide +kernel
theorem dX9_whoLit_252 : decode cX9_whoLit 252 = .ok (.iload_n 2, 1) := by decide +kernel
theorem dX9_whoLit_253 : decode cX9_whoLit 253 = .ok (.iconst 1, 1) := by decide +kernel
theorem dX9_whoLit_254 : decode cX9_whoLit 254 = .ok (.if_icmp .ne 8, 3) := by decide +kernel
theorem dX9_whoLit_257 : decode cX9_whoLit 257 = .ok (.iload 7, 2) := by decide +kernel
theorem dX9_whoLit_259 : decode cX9_whoLit 259 = .ok (.goto 5, 3) := by decide +kernel
theorem dX9_whoLit_262 : decode cX9_whoLit 262 = .ok (.iload 8, 2) := by decide +kernel
theorem dX9_whoLit_264 : decode cX9_whoLit 264 = .ok (.ireturn, 1) := by decide +kernel
theorem dX9_where_0 : decode cX9_where 0 = .ok (.aload_n 0, 1) := by decide +kernel
theorem dX9_where_1 : decode cX9_where 1 = .ok (.iload_n 1, 1) := by decide +kernel
theorem dX9_where_2 : decode cX9_where 2 = .ok (.invokevirtual 85, 3) := by decide +kernel
theorem dX9_where_5 : decode cX9_where 5 = .ok (.ifCond .eq 32, 3) := by decide +kernel
theorem dX9_where_8 : decode cX9_where 8 = .ok (.aload_n 0, 1) := by decide +kernel
theorem dX9_where_9 : decode cX9_where 9 = .ok (.iload_n 2, 1) := by decide +kernel
theorem dX9_where_10 : decode cX9_where 10 = .ok (.invokevirtual 352, 3) := by decide +kernel
theorem dX9_where_13 : decode cX9_where 13 = .ok (.ifCond .eq 24, 3) := by decide +kernel
theorem dX9_where_16 : decode cX9_where 16 = .ok (.iload_n 3, 1) := by decide +kernel
theorem dX9_where_17 : decode cX9_where 17 = .ok (.iconst 0, 1) := by decide +kernel
theorem dX9_where_18 : decode cX9_where 18 = .ok (.sipush 195, 3) := by decide +kernel
theorem dX9_where_21 : decode cX9_where 21 = .ok (.invokestatic 92, 3) := by decide +kernel
theorem dX9_where_24 : decode cX9_where 24 = .ok (.ifCond .eq 13, 3) := by decide +kernel
theorem dX9_where_27 : decode cX9_where 27 = .ok (.iload 4, 2) := by decide +kernel
theorem dX9_where_29 : decode cX9_where 29 = .ok (.iconst 0, 1) := by decide +kernel
theorem dX9_where_30 : decode cX9_where 30 = .ok (.iconst 1, 1) := by decide +kernel
theorem dX9_where_31 : decode cX9_where 31 = .ok (.invokestatic 92, 3) := by decide +kernel
theorem dX9_where_34 : decode cX9_where 34 = .ok (.ifCond .ne 5, 3) := by decide +kernel
theorem dX9_where_37 : decode cX9_where 37 = .ok (.iconst (-1), 1) := by decide +kernel
theorem dX9_where_38 : decode cX9_where 38 = .ok (.ireturn, 1) := by decide +kernel
theorem dX9_where_39 : decode cX9_where 39 = .ok (.aload_n 0, 1) := by decide +kernel
theorem dX9_where_40 : decode cX9_where 40 = .ok (.invokevirtual 306, 3) := by decide +kernel
theorem dX9_where_43 : decode cX9_where 43 = .ok (.iconst 0, 1) := by decide +kernel
theorem dX9_where_44 : decode cX9_where 44 = .ok (.istore 5, 2) := by decide +kernel
theorem dX9_where_46 : decode cX9_where 46 = .ok (.bipush (-2), 2) := by decide +kernel
theorem dX9_where_48 : decode cX9_where 48 = .ok (.istore 6, 2) := by decide +kernel
theorem dX9_where_50 : decode cX9_where 50 = .ok (.iconst 0, 1) := by decide +kernel
theorem dX9_where_51 : decode cX9_where 51 = .ok (.istore 7, 2) := by decide +kernel
theorem dX9_where_53 : decode cX9_where 53 = .ok (.iload 7, 2) := by decide +kernel
theorem dX9_where_55 : decode cX9_where 55 = .ok (.sipush 196, 3) := by decide +kernel
theorem dX9_where_58 : decode cX9_where 58 = .ok (.if_icmp .ge 88, 3) := by decide +kernel
theorem dX9_where_61 : decode cX9_where 61 = .ok (.aload_n 0, 1) := by decide +kernel
theorem dX9_where_62 : decode cX9_where 62 = .ok (.invokevirtual 315, 3) := by decide +kernel
theorem dX9_where_65 : decode cX9_where 65 = .ok (.aload_n 0, 1) := by decide +kernel
theorem dX9_where_66 : decode cX9_where 66 = .ok (.iload 7, 2) := by decide +kernel
theorem dX9_where_68 : decode cX9_where 68 = .ok (.invokevirtual 99, 3) := by decide +kernel
theorem dX9_where_71 : decode cX9_where 71 = .ok (.ifCond .eq 6, 3) := by decide +kernel
theorem dX9_where_74 : decode cX9_where 74 = .ok (.goto 66, 3) := by decide +kernel
theorem dX9_where_77 : decode cX9_where 77 = .ok (.aload_n 0, 1) := by decide +kernel
theorem dX9_where_78 : decode cX9_where 78 = .ok (.getfield 7, 3) := by decide +kernel
theorem dX9_where_81 : decode cX9_where 81 = .ok (.sipush 274, 3) := by decide +kernel
theorem dX9_where_84 : decode cX9_where 84 = .ok (.iload_n 1, 1) := by decide +kernel
theorem dX9_where_85 : decode cX9_where 85 = .ok (.iadd, 1) := by decide +kernel
theorem dX9_where_86 : decode cX9_where 86 = .ok (.iload 7, 2) := by decide +kernel
theorem dX9_where_88 : decode cX9_where 88 = .ok (.iastore, 1) := by decide +kernel
theorem dX9_where_89 : decode cX9_where 89 = .ok (.aload_n 0, 1) := by decide +kernel
theorem dX9_where_90 : decode cX9_where 90 = .ok (.iload_n 2, 1) := by decide +kernel
theorem dX9_where_91 : decode cX9_where 91 = .ok (.invokevirtual 299, 3) := by decide +kernel
theorem dX9_where_94 : decode cX9_where 94 = .ok (.pop, 1) := by decide +kernel
theorem dX9_where_95 : decode cX9_where 95 = .ok (.aload_n 0, 1) := by decide +kernel
theorem dX9_where_96 : decode cX9_where 96 = .ok (.iload_n 1, 1) := by decide +kernel
theorem dX9_where_97 : decode cX9_where 97 = .ok (.invokevirtual 85, 3) := by decide +kernel
theorem dX9_where_100 : decode cX9_where 100 = .ok (.ifCond .eq 40, 3) := by decide +kernel
theorem dX9_where_103 : decode cX9_where 103 = .ok (.aload_n 0, 1) := by decide +kernel
theorem dX9_where_104 : decode cX9_where 104 = .ok (.getfield 7, 3) := by decide +kernel
theorem dX9_where_107 : decode cX9_where 107 = .ok (.sipush 274, 3) := by decide +kernel
theorem dX9_where_110 : decode cX9_where 110 = .ok (.iload_n 1, 1) := by decide +kernel
theorem dX9_where_111 : decode cX9_where 111 = .ok (.iadd, 1) := by decide +kernel
theorem dX9_where_112 : decode cX9_where 112 = .ok (.iaload, 1) := by decide +kernel
theorem dX9_where_113 : decode cX9_where 113 = .ok (.iload_n 3, 1) := by decide +kernel
theorem dX9_where_114 : decode cX9_where 114 = .ok (.if_icmp .eq 6, 3) := by decide +kernel
theorem dX9_where_117 : decode cX9_where 117 = .ok (.goto 23, 3) := by decide +kernel
theorem dX9_where_120 : decode cX9_where 120 = .ok (.iload 5, 2) := by decide +kernel
theorem dX9_where_122 : decode cX9_where 122 = .ok (.ifCond .ne 8, 3) := by decide +kernel
theorem dX9_where_125 : decode cX9_where 125 = .ok (.iload 7, 2) := by decide +kernel
theorem dX9_where_127 : decode cX9_where 127 = .ok (.goto 5, 3) := by decide +kernel
theorem dX9_where_130 : decode cX9_where 130 = .ok (.iload 6, 2) := by decide +kernel
theorem dX9_where_132 : decode cX9_where 132 = .ok (.istore 6, 2) := by decide +kernel
theorem dX9_where_134 : decode cX9_where 134 = .ok (.iload 5, 2) := by decide +kernel
theorem dX9_where_136 : decode cX9_where 136 = .ok (.iconst 1, 1) := by decide +kernel
theorem dX9_where_137 : decode cX9_where 137 = .ok (.iadd, 1) := by decide +kernel
theorem dX9_where_138 : decode cX9_where 138 = .ok (.istore 5, 2) := by decide +kernel
theorem dX9_where_140 : decode cX9_where 140 = .ok (.iinc 7 1, 3) := by decide +kernel
theorem dX9_where_143 : decode cX9_where 143 = .ok (.goto (-90), 3) := by decide +kernel
theorem dX9_where_146 : decode cX9_where 146 = .ok (.aload_n 0, 1) := by decide +kernel
theorem dX9_where_147 : decode cX9_where 147 = .ok (.invokevirtual 315, 3) := by decide +kernel
theorem dX9_where_150 : decode cX9_where 150 = .ok (.iload 4, 2) := by decide +kernel
theorem dX9_where_152 : decode cX9_where 152 = .ok (.ifCond .ne 8, 3) := by decide +kernel
theorem dX9_where_155 : decode cX9_where 155 = .ok (.iload 5, 2) := by decide +kernel
theorem dX9_where_157 : decode cX9_where 157 = .ok (.goto 5, 3) := by decide +kernel
theorem dX9_where_160 : decode cX9_where 160 = .ok (.iload 6, 2) := by decide +kernel
theorem dX9_where_162 : decode cX9_where 162 = .ok (.ireturn, 1) := by decide +kernel
theorem dX9_gcd_0 : decode cX9_gcd 0 = .ok (.iload_n 0, 1) := by decide +kernel
theorem dX9_gcd_1 : decode cX9_gcd 1 = .ok (.istore_n 2, 1) := by decide +kernel
theorem dX9_gcd_2 : decode cX9_gcd 2 = .ok (.iload_n 1, 1) := by decide +kernel
theorem dX9_gcd_3 : decode cX9_gcd 3 = .ok (.istore_n 3, 1) := by decide +kernel
theorem dX9_gcd_4 : decode cX9_gcd 4 = .ok (.iload_n 3, 1) := by decide +kernel
theorem dX9_gcd_5 : decode cX9_gcd 5 = .ok (.ifCond .eq 16, 3) := by decide +kernel
theorem dX9_gcd_8 : decode cX9_gcd 8 = .ok (.iload_n 2, 1) := by decide +kernel
theorem dX9_gcd_9 : decode cX9_gcd 9 = .ok (.iload_n 3, 1) := by decide +kernel
theorem dX9_gcd_10 : decode cX9_gcd 10 = .ok (.irem, 1) := by decide +kernel
theorem dX9_gcd_11 : decode cX9_gcd 11 = .ok (.istore 4, 2) := by decide +kernel
theorem dX9_gcd_13 : decode cX9_gcd 13 = .ok (.iload_n 3, 1) := by decide +kernel
theorem dX9_gcd_14 : decode cX9_gcd 14 = .ok (.istore_n 2, 1) := by decide +kernel
theorem dX9_gcd_15 : decode cX9_gcd 15 = .ok (.iload 4, 2) := by decide +kernel
theorem dX9_gcd_17 : decode cX9_gcd 17 = .ok (.istore_n 3, 1) := by decide +kernel
theorem dX9_gcd_18 : decode cX9_gcd 18 = .ok (.goto (-14), 3) := by decide +kernel
theorem dX9_gcd_21 : decode cX9_gcd 21 = .ok (.iload_n 2, 1) := by decide +kernel
theorem dX9_gcd_22 : decode cX9_gcd 22 = .ok (.ireturn, 1) := by decide +kernel
theorem dX9_odds_0 : decode cX9_odds 0 = .ok (.iload_n 1, 1) := by decide +kernel
theorem dX9_odds_1 : decode cX9_odds 1 = .ok (.iconst 1, 1) := by decide +kernel
theorem dX9_odds_2 : decode cX9_odds 2 = .ok (.iconst 3, 1) := by decide +kernel
theorem dX9_odds_3 : decode cX9_odds 3 = .ok (.invokestatic 92, 3) := by decide +kernel
theorem dX9_odds_6 : decode cX9_odds 6 = .ok (.ifCond .eq 23, 3) := by decide +kernel
theorem dX9_odds_9 : decode cX9_odds 9 = .ok (.iload_n 2, 1) := by decide +kernel
theorem dX9_odds_10 : decode cX9_odds 10 = .ok (.iconst 0, 1) := by decide +kernel
theorem dX9_odds_11 : decode cX9_odds 11 = .ok (.sipush 9999, 3) := by decide +kernel
theorem dX9_odds_14 : decode cX9_odds 14 = .ok (.invokestatic 92, 3) := by decide +kernel
theorem dX9_odds_17 : decode cX9_odds 17 = .ok (.ifCond .eq 12, 3) := by decide +kernel
theorem dX9_odds_20 : decode cX9_odds 20 = .ok (.iload_n 3, 1) := by decide +kernel
theorem dX9_odds_21 : decode cX9_odds 21 = .ok (.iconst 0, 1) := by decide +kernel
theorem dX9_odds_22 : decode cX9_odds 22 = .ok (.iconst 1, 1) := by decide +kernel
theorem dX9_odds_23 : decode cX9_odds 23 = .ok (.invokestatic 92, 3) := by decide +kernel
theorem dX9_odds_26 : decode cX9_odds 26 = .ok (.ifCond .ne 5, 3) := by decide +kernel
theorem dX9_odds_29 : decode cX9_odds 29 = .ok (.iconst (-1), 1) := by decide +kernel
theorem dX9_odds_30 : decode cX9_odds 30 = .ok (.ireturn, 1) := by decide +kernel
theorem dX9_odds_31 : decode cX9_odds 31 = .ok (.aload_n 0, 1) := by decide +kernel
theorem dX9_odds_32 : decode cX9_odds 32 = .ok (.invokevirtual 306, 3) := by decide +kernel
theorem dX9_odds_35 : decode cX9_odds 35 = .ok (.iload_n 1, 1) := by decide +kernel
theorem dX9_odds_36 : decode cX9_odds 36 = .ok (.iconst 1, 1) := by decide +kernel
theorem dX9_odds_37 : decode cX9_odds 37 = .ok (.if_icmp .ne 8, 3) := by decide +kernel
theorem dX9_odds_40 : decode cX9_odds 40 = .ok (.bipush 10, 2) := by decide +kernel
theorem dX9_odds_42 : decode cX9_odds 42 = .ok (.goto 16, 3) := by decide +kernel
theorem dX9_odds_45 : decode cX9_odds 45 = .ok (.iload_n 1, 1) := by decide +kernel
theorem dX9_odds_46 : decode cX9_odds 46 = .ok (.iconst 2, 1) := by decide +kernel
theorem dX9_odds_47 : decode cX9_odds 47 = .ok (.if_icmp .ne 8, 3) := by decide +kernel
theorem dX9_odds_50 : decode cX9_odds 50 = .ok (.bipush 100, 2) := by decide +kernel
theorem dX9_odds_52 : decode cX9_odds 52 = .ok (.goto 6, 3) := by decide +kernel
theorem dX9_odds_55 : decode cX9_odds 55 = .ok (.sipush 1000, 3) := by decide +kernel
theorem dX9_odds_58 : decode cX9_odds 58 = .ok (.istore 4, 2) := by decide +kernel
theorem dX9_odds_60 : decode cX9_odds 60 = .ok (.iconst 0, 1) := by decide +kernel
theorem dX9_odds_61 : decode cX9_odds 61 = .ok (.istore 5, 2) := by decide +kernel
theorem dX9_odds_63 : decode cX9_odds 63 = .ok (.iconst 0, 1) := by decide +kernel
theorem dX9_odds_64 : decode cX9_odds 64 = .ok (.istore 6, 2) := by decide +kernel
theorem dX9_odds_66 : decode cX9_odds 66 = .ok (.iload 6, 2) := by decide +kernel
theorem dX9_odds_68 : decode cX9_odds 68 = .ok (.iload 4, 2) := by decide +kernel
theorem dX9_odds_70 : decode cX9_odds 70 = .ok (.if_icmp .ge 67, 3) := by decide +kernel
theorem dX9_odds_73 : decode cX9_odds 73 = .ok (.aload_n 0, 1) := by decide +kernel
theorem dX9_odds_74 : decode cX9_odds 74 = .ok (.invokevirtual 315, 3) := by decide +kernel
theorem dX9_odds_77 : decode cX9_odds 77 = .ok (.iload 6, 2) := by decide +kernel
theorem dX9_odds_79 : decode cX9_odds 79 = .ok (.istore 7, 2) := by decide +kernel
theorem dX9_odds_81 : decode cX9_odds 81 = .ok (.iconst 0, 1) := by decide +kernel
theorem dX9_odds_82 : decode cX9_odds 82 = .ok (.istore 8, 2) := by decide +kernel
theorem dX9_odds_84 : decode cX9_odds 84 = .ok (.iload 8, 2) := by decide +kernel
theorem dX9_odds_86 : decode cX9_odds 86 = .ok (.iload_n 1, 1) := by decide +kernel
theorem dX9_odds_87 : decode cX9_odds 87 = .ok (.if_icmp .ge 26, 3) := by decide +kernel
theorem dX9_odds_90 : decode cX9_odds 90 = .ok (.aload_n 0, 1) := by decide +kernel
theorem dX9_odds_91 : decode cX9_odds 91 = .ok (.iload 7, 2) := by decide +kernel
theorem dX9_odds_93 : decode cX9_odds 93 = .ok (.bipush 10, 2) := by decide +kernel
theorem dX9_odds_95 : decode cX9_odds 95 = .ok (.irem, 1) := by decide +kernel
theorem dX9_odds_96 : decode cX9_odds 96 = .ok (.invokevirtual 296, 3) := by decide +kernel
theorem dX9_odds_99 : decode cX9_odds 99 = .ok (.pop, 1) := by decide +kernel
theorem dX9_odds_100 : decode cX9_odds 100 = .ok (.iload 7, 2) := by decide +kernel
theorem dX9_odds_102 : decode cX9_odds 102 = .ok (.bipush 10, 2) := by decide +kernel
theorem dX9_odds_104 : decode cX9_odds 104 = .ok (.idiv, 1) := by decide +kernel
theorem dX9_odds_105 : decode cX9_odds 105 = .ok (.istore 7, 2) := by decide +kernel
theorem dX9_odds_107 : decode cX9_odds 107 = .ok (.iinc 8 1, 3) := by decide +kernel
theorem dX9_odds_110 : decode cX9_odds 110 = .ok (.goto (-26), 3) := by decide +kernel
theorem dX9_odds_113 : decode cX9_odds 113 = .ok (.iload 5, 2) := by decide +kernel
theorem dX9_odds_115 : decode cX9_odds 115 = .ok (.aload_n 0, 1) := by decide +kernel
theorem dX9_odds_116 : decode cX9_odds 116 = .ok (.invokevirtual 309, 3) := by decide +kernel
theorem dX9_odds_119 : decode cX9_odds 119 = .ok (.iload_n 2, 1) := by decide +kernel
theorem dX9_odds_120 : decode cX9_odds 120 = .ok (.if_icmp .lt 7, 3) := by decide +kernel
theorem dX9_odds_123 : decode cX9_odds 123 = .ok (.iconst 1, 1) := by decide +kernel
theorem dX9_odds_124 : decode cX9_odds 124 = .ok (.goto 4, 3) := by decide +kernel
theorem dX9_odds_127 : decode cX9_odds 127 = .ok (.iconst 0, 1) := by decide +kernel
theorem dX9_odds_128 : decode cX9_odds 128 = .ok (.iadd, 1) := by decide +kernel
theorem dX9_odds_129 : decode cX9_odds 129 = .ok (.istore 5, 2) := by decide +kernel
theorem dX9_odds_131 : decode cX9_odds 131 = .ok (.iinc 6 1, 3) := by decide +kernel
theorem dX9_odds_134 : decode cX9_odds 134 = .ok (.goto (-68), 3) := by decide +kernel
theorem dX9_odds_137 : decode cX9_odds 137 = .ok (.aload_n 0, 1) := by decide +kernel
theorem dX9_odds_138 : decode cX9_odds 138 = .ok (.invokevirtual 315, 3) := by decide +kernel
theorem dX9_odds_141 : decode cX9_odds 141 = .ok (.iload 5, 2) := by decide +kernel
theorem dX9_odds_143 : decode cX9_odds 143 = .ok (.iload 4, 2) := by decide +kernel
theorem dX9_odds_145 : decode cX9_odds 145 = .ok (.invokestatic 361, 3) := by decide +kernel
theorem dX9_odds_148 : decode cX9_odds 148 = .ok (.istore 6, 2) := by decide +kernel
theorem dX9_odds_150 : decode cX9_odds 150 = .ok (.iload_n 3, 1) := by decide +kernel
theorem dX9_odds_151 : decode cX9_odds 151 = .ok (.ifCond .ne 11, 3) := by decide +kernel
theorem dX9_odds_154 : decode cX9_odds 154 = .ok (.iload 5, 2) := by decide +kernel
theorem dX9_odds_156 : decode cX9_odds 156 = .ok (.iload 6, 2) := by decide +kernel
theorem dX9_odds_158 : decode cX9_odds 158 = .ok (.idiv, 1) := by decide +kernel
theorem dX9_odds_159 : decode cX9_odds 159 = .ok (.goto 8, 3) := by decide +kernel
theorem dX9_odds_162 : decode cX9_odds 162 = .ok (.iload 4, 2) := by decide +kernel
theorem dX9_odds_164 : decode cX9_odds 164 = .ok (.iload 6, 2) := by decide +kernel
theorem dX9_odds_166 : decode cX9_odds 166 = .ok (.idiv, 1) := by decide +kernel
theorem dX9_odds_167 : decode cX9_odds 167 = .ok (.ireturn, 1) := by decide +kernel
theorem dX9_seed_0 : decode cX9_seed 0 = .ok (.iload_n 1, 1) := by decide +kernel
theorem dX9_seed_1 : decode cX9_seed 1 = .ok (.iconst 0, 1) := by decide +kernel
theorem dX9_seed_2 : decode cX9_seed 2 = .ok (.ldc_w 364, 3) := by decide +kernel
theorem dX9_seed_5 : decode cX9_seed 5 = .ok (.invokestatic 92, 3) := by decide +kernel
theorem dX9_seed_8 : decode cX9_seed 8 = .ok (.ifCond .ne 5, 3) := by decide +kernel
theorem dX9_seed_11 : decode cX9_seed 11 = .ok (.iconst 0, 1) := by decide +kernel
theorem dX9_seed_12 : decode cX9_seed 12 = .ok (.ireturn, 1) := by decide +kernel
theorem dX9_seed_13 : decode cX9_seed 13 = .ok (.aload_n 0, 1) := by decide +kernel
theorem dX9_seed_14 : decode cX9_seed 14 = .ok (.getfield 7, 3) := by decide +kernel
theorem dX9_seed_17 : decode cX9_seed 17 = .ok (.sipush 330, 3) := by decide +kernel
theorem dX9_seed_20 : decode cX9_seed 20 = .ok (.iload_n 1, 1) := by decide +kernel
theorem dX9_seed_21 : decode cX9_seed 21 = .ok (.iastore, 1) := by decide +kernel
theorem dX9_seed_22 : decode cX9_seed 22 = .ok (.iconst 1, 1) := by decide +kernel
theorem dX9_seed_23 : decode cX9_seed 23 = .ok (.ireturn, 1) := by decide +kernel
theorem dX9_clouded_0 : decode cX9_clouded 0 = .ok (.aload_n 0, 1) := by decide +kernel
theorem dX9_clouded_1 : decode cX9_clouded 1 = .ok (.getfield 7, 3) := by decide +kernel
theorem dX9_clouded_4 : decode cX9_clouded 4 = .ok (.sipush 328, 3) := by decide +kernel
theorem dX9_clouded_7 : decode cX9_clouded 7 = .ok (.iaload, 1) := by decide +kernel
theorem dX9_clouded_8 : decode cX9_clouded 8 = .ok (.istore_n 1, 1) := by decide +kernel
theorem dX9_clouded_9 : decode cX9_clouded 9 = .ok (.iload_n 1, 1) := by decide +kernel
theorem dX9_clouded_10 : decode cX9_clouded 10 = .ok (.bipush 8, 2) := by decide +kernel
theorem dX9_clouded_12 : decode cX9_clouded 12 = .ok (.if_icmp .ge 75, 3) := by decide +kernel
theorem dX9_clouded_15 : decode cX9_clouded 15 = .ok (.aload_n 0, 1) := by decide +kernel
theorem dX9_clouded_16 : decode cX9_clouded 16 = .ok (.invokevirtual 293, 3) := by decide +kernel
theorem dX9_clouded_19 : decode cX9_clouded 19 = .ok (.istore_n 2, 1) := by decide +kernel
theorem dX9_clouded_20 : decode cX9_clouded 20 = .ok (.aload_n 0, 1) := by decide +kernel
theorem dX9_clouded_21 : decode cX9_clouded 21 = .ok (.invokevirtual 229, 3) := by decide +kernel
theorem dX9_clouded_24 : decode cX9_clouded 24 = .ok (.aload_n 0, 1) := by decide +kernel
theorem dX9_clouded_25 : decode cX9_clouded 25 = .ok (.getfield 59, 3) := by decide +kernel
theorem dX9_clouded_28 : decode cX9_clouded 28 = .ok (.iconst 0, 1) := by decide +kernel
theorem dX9_clouded_29 : decode cX9_clouded 29 = .ok (.iload_n 1, 1) := by decide +kernel
theorem dX9_clouded_30 : decode cX9_clouded 30 = .ok (.iastore, 1) := by decide +kernel
theorem dX9_clouded_31 : decode cX9_clouded 31 = .ok (.aload_n 0, 1) := by decide +kernel
theorem dX9_clouded_32 : decode cX9_clouded 32 = .ok (.getfield 7, 3) := by decide +kernel
theorem dX9_clouded_35 : decode cX9_clouded 35 = .ok (.sipush 329, 3) := by decide +kernel
theorem dX9_clouded_38 : decode cX9_clouded 38 = .ok (.iload_n 2, 1) := by decide +kernel
theorem dX9_clouded_39 : decode cX9_clouded 39 = .ok (.aload_n 0, 1) := by decide +kernel
theorem dX9_clouded_40 : decode cX9_clouded 40 = .ok (.bipush 113, 2) := by decide +kernel
theorem dX9_clouded_42 : decode cX9_clouded 42 = .ok (.iconst 0, 1) := by decide +kernel
theorem dX9_clouded_43 : decode cX9_clouded 43 = .ok (.bipush 10, 2) := by decide +kernel
theorem dX9_clouded_45 : decode cX9_clouded 45 = .ok (.invokevirtual 247, 3) := by decide +kernel
theorem dX9_clouded_48 : decode cX9_clouded 48 = .ok (.if_icmp .ge 18, 3) := by decide +kernel
theorem dX9_clouded_51 : decode cX9_clouded 51 = .ok (.aload_n 0, 1) := by decide +kernel
theorem dX9_clouded_52 : decode cX9_clouded 52 = .ok (.getfield 7, 3) := by decide +kernel
theorem dX9_clouded_55 : decode cX9_clouded 55 = .ok (.sipush 329, 3) := by decide +kernel
theorem dX9_clouded_58 : decode cX9_clouded 58 = .ok (.iaload, 1) := by decide +kernel
theorem dX9_clouded_59 : decode cX9_clouded 59 = .ok (.iconst 1, 1) := by decide +kernel
theorem dX9_clouded_60 : decode cX9_clouded 60 = .ok (.iload_n 1, 1) := by decide +kernel
theorem dX9_clouded_61 : decode cX9_clouded 61 = .ok (.ishl, 1) := by decide +kernel
theorem dX9_clouded_62 : decode cX9_clouded 62 = .ok (.ior, 1) := by decide +kernel
theorem dX9_clouded_63 : decode cX9_clouded 63 = .ok (.goto 17, 3) := by decide +kernel
theorem dX9_clouded_66 : decode cX9_clouded 66 = .ok (.aload_n 0, 1) := by decide +kernel
theorem dX9_clouded_67 : decode cX9_clouded 67 = .ok (.getfield 7, 3) := by decide +kernel
theorem dX9_clouded_70 : decode cX9_clouded 70 = .ok (.sipush 329, 3) := by decide +kernel
theorem dX9_clouded_73 : decode cX9_clouded 73 = .ok (.iaload, 1) := by decide +kernel
theorem dX9_clouded_74 : decode cX9_clouded 74 = .ok (.iconst 1, 1) := by decide +kernel
theorem dX9_clouded_75 : decode cX9_clouded 75 = .ok (.iload_n 1, 1) := by decide +kernel
theorem dX9_clouded_76 : decode cX9_clouded 76 = .ok (.ishl, 1) := by decide +kernel
theorem dX9_clouded_77 : decode cX9_clouded 77 = .ok (.iconst (-1), 1) := by decide +kernel
theorem dX9_clouded_78 : decode cX9_clouded 78 = .ok (.ixor, 1) := by decide +kernel
theorem dX9_clouded_79 : decode cX9_clouded 79 = .ok (.iand, 1) := by decide +kernel
theorem dX9_clouded_80 : decode cX9_clouded 80 = .ok (.iastore, 1) := by decide +kernel
theorem dX9_clouded_81 : decode cX9_clouded 81 = .ok (.iinc 1 1, 3) := by decide +kernel
theorem dX9_clouded_84 : decode cX9_clouded 84 = .ok (.goto (-75), 3) := by decide +kernel
theorem dX9_clouded_87 : decode cX9_clouded 87 = .ok (.aload_n 0, 1) := by decide +kernel
theorem dX9_clouded_88 : decode cX9_clouded 88 = .ok (.getfield 7, 3) := by decide +kernel
theorem dX9_clouded_91 : decode cX9_clouded 91 = .ok (.sipush 329, 3) := by decide +kernel
theorem dX9_clouded_94 : decode cX9_clouded 94 = .ok (.iaload, 1) := by decide +kernel
theorem dX9_clouded_95 : decode cX9_clouded 95 = .ok (.ireturn, 1) := by decide +kernel
theorem dX9_keep_0 : decode cX9_keep 0 = .ok (.aload_n 0, 1) := by decide +kernel
theorem dX9_keep_1 : decode cX9_keep 1 = .ok (.iconst 1, 1) := by decide +kernel
theorem dX9_keep_2 : decode cX9_keep 2 = .ok (.putfield 365, 3) := by decide +kernel
theorem dX9_keep_5 : decode cX9_keep 5 = .ok (.aload_n 0, 1) := by decide +kernel
theorem dX9_keep_6 : decode cX9_keep 6 = .ok (.getfield 7, 3) := by decide +kernel
theorem dX9_keep_9 : decode cX9_keep 9 = .ok (.aload_n 0, 1) := by decide +kernel
theorem dX9_keep_10 : decode cX9_keep 10 = .ok (.getfield 16, 3) := by decide +kernel
theorem dX9_keep_13 : decode cX9_keep 13 = .ok (.invokestatic 302, 3) := by decide +kernel
theorem dX9_keep_16 : decode cX9_keep 16 = .ok (.aload_n 0, 1) := by decide +kernel
theorem dX9_keep_17 : decode cX9_keep 17 = .ok (.invokevirtual 309, 3) := by decide +kernel
theorem dX9_keep_20 : decode cX9_keep 20 = .ok (.ireturn, 1) := by decide +kernel
theorem dX9_undo_0 : decode cX9_undo 0 = .ok (.aload_n 0, 1) := by decide +kernel
theorem dX9_undo_1 : decode cX9_undo 1 = .ok (.getfield 365, 3) := by decide +kernel
theorem dX9_undo_4 : decode cX9_undo 4 = .ok (.ifCond .ne 5, 3) := by decide +kernel
theorem dX9_undo_7 : decode cX9_undo 7 = .ok (.iconst 0, 1) := by decide +kernel
theorem dX9_undo_8 : decode cX9_undo 8 = .ok (.ireturn, 1) := by decide +kernel
theorem dX9_undo_9 : decode cX9_undo 9 = .ok (.aload_n 0, 1) := by decide +kernel
theorem dX9_undo_10 : decode cX9_undo 10 = .ok (.getfield 16, 3) := by decide +kernel
theorem dX9_undo_13 : decode cX9_undo 13 = .ok (.aload_n 0, 1) := by decide +kernel
theorem dX9_undo_14 : decode cX9_undo 14 = .ok (.getfield 7, 3) := by decide +kernel
theorem dX9_undo_17 : decode cX9_undo 17 = .ok (.invokestatic 302, 3) := by decide +kernel
theorem dX9_undo_20 : decode cX9_undo 20 = .ok (.iconst 1, 1) := by decide +kernel
theorem dX9_undo_21 : decode cX9_undo 21 = .ok (.ireturn, 1) := by decide +kernel
theorem dX9_tapeNumber_0 : decode cX9_tapeNumber 0 = .ok (.iconst 0, 1) := by decide +kernel
theorem dX9_tapeNumber_1 : decode cX9_tapeNumber 1 = .ok (.istore_n 2, 1) := by decide +kernel
theorem dX9_tapeNumber_2 : decode cX9_tapeNumber 2 = .ok (.iconst 4, 1) := by decide +kernel
theorem dX9_tapeNumber_3 : decode cX9_tapeNumber 3 = .ok (.iload_n 1, 1) := by decide +kernel
theorem dX9_tapeNumber_4 : decode cX9_tapeNumber 4 = .ok (.imul, 1) := by decide +kernel
theorem dX9_tapeNumber_5 : decode cX9_tapeNumber 5 = .ok (.istore_n 3, 1) := by decide +kernel
theorem dX9_tapeNumber_6 : decode cX9_tapeNumber 6 = .ok (.iload_n 3, 1) := by decide +kernel
theorem dX9_tapeNumber_7 : decode cX9_tapeNumber 7 = .ok (.iconst 4, 1) := by decide +kernel
theorem dX9_tapeNumber_8 : decode cX9_tapeNumber 8 = .ok (.iload_n 1, 1) := by decide +kernel
theorem dX9_tapeNumber_9 : decode cX9_tapeNumber 9 = .ok (.imul, 1) := by decide +kernel
theorem dX9_tapeNumber_10 : decode cX9_tapeNumber 10 = .ok (.iconst 4, 1) := by decide +kernel
theorem dX9_tapeNumber_11 : decode cX9_tapeNumber 11 = .ok (.iadd, 1) := by decide +kernel
theorem dX9_tapeNumber_12 : decode cX9_tapeNumber 12 = .ok (.if_icmp .ge 25, 3) := by decide +kernel
theorem dX9_tapeNumber_15 : decode cX9_tapeNumber 15 = .ok (.iload_n 2, 1) := by decide +kernel
theorem dX9_tapeNumber_16 : decode cX9_tapeNumber 16 = .ok (.bipush 8, 2) := by decide +kernel
theorem dX9_tapeNumber_18 : decode cX9_tapeNumber 18 = .ok (.ishl, 1) := by decide +kernel
theorem dX9_tapeNumber_19 : decode cX9_tapeNumber 19 = .ok (.aload_n 0, 1) := by decide +kernel
theorem dX9_tapeNumber_20 : decode cX9_tapeNumber 20 = .ok (.getfield 19, 3) := by decide +kernel
theorem dX9_tapeNumber_23 : decode cX9_tapeNumber 23 = .ok (.iload_n 3, 1) := by decide +kernel
theorem dX9_tapeNumber_24 : decode cX9_tapeNumber 24 = .ok (.baload, 1) := by decide +kernel
theorem dX9_tapeNumber_25 : decode cX9_tapeNumber 25 = .ok (.sipush 255, 3) := by decide +kernel
theorem dX9_tapeNumber_28 : decode cX9_tapeNumber 28 = .ok (.iand, 1) := by decide +kernel
theorem dX9_tapeNumber_29 : decode cX9_tapeNumber 29 = .ok (.ior, 1) := by decide +kernel
theorem dX9_tapeNumber_30 : decode cX9_tapeNumber 30 = .ok (.istore_n 2, 1) := by decide +kernel
theorem dX9_tapeNumber_31 : decode cX9_tapeNumber 31 = .ok (.iinc 3 1, 3) := by decide +kernel
theorem dX9_tapeNumber_34 : decode cX9_tapeNumber 34 = .ok (.goto (-28), 3) := by decide +kernel
theorem dX9_tapeNumber_37 : decode cX9_tapeNumber 37 = .ok (.iload_n 2, 1) := by decide +kernel
theorem dX9_tapeNumber_38 : decode cX9_tapeNumber 38 = .ok (.ireturn, 1) := by decide +kernel
theorem dX9_check_0 : decode cX9_check 0 = .ok (.iload_n 1, 1) := by decide +kernel
theorem dX9_check_1 : decode cX9_check 1 = .ok (.iconst 0, 1) := by decide +kernel
theorem dX9_check_2 : decode cX9_check 2 = .ok (.bipush 6, 2) := by decide +kernel
theorem dX9_check_4 : decode cX9_check 4 = .ok (.invokestatic 92, 3) := by decide +kernel
theorem dX9_check_7 : decode cX9_check 7 = .ok (.ifCond .eq 13, 3) := by decide +kernel
theorem dX9_check_10 : decode cX9_check 10 = .ok (.iload_n 1, 1) := by decide +kernel
theorem dX9_check_11 : decode cX9_check 11 = .ok (.aload_n 0, 1) := by decide +kernel
theorem dX9_check_12 : decode cX9_check 12 = .ok (.getfield 115, 3) := by decide +kernel
theorem dX9_check_15 : decode cX9_check 15 = .ok (.iconst 4, 1) := by decide +kernel
theorem dX9_check_16 : decode cX9_check 16 = .ok (.idiv, 1) := by decide +kernel
theorem dX9_check_17 : decode cX9_check 17 = .ok (.if_icmp .le 6, 3) := by decide +kernel
theorem dX9_check_20 : decode cX9_check 20 = .ok (.bipush (-2), 2) := by decide +kernel
theorem dX9_check_22 : decode cX9_check 22 = .ok (.ireturn, 1) := by decide +kernel
theorem dX9_check_23 : decode cX9_check 23 = .ok (.aload_n 0, 1) := by decide +kernel
theorem dX9_check_24 : decode cX9_check 24 = .ok (.iconst 0, 1) := by decide +kernel
theorem dX9_check_25 : decode cX9_check 25 = .ok (.putfield 115, 3) := by decide +kernel
theorem dX9_check_28 : decode cX9_check 28 = .ok (.iconst 0, 1) := by decide +kernel
theorem dX9_check_29 : decode cX9_check 29 = .ok (.istore_n 2, 1) := by decide +kernel
theorem dX9_check_30 : decode cX9_check 30 = .ok (.iload_n 2, 1) := by decide +kernel
theorem dX9_check_31 : decode cX9_check 31 = .ok (.iload_n 1, 1) := by decide +kernel
theorem dX9_check_32 : decode cX9_check 32 = .ok (.if_icmp .ge 41, 3) := by decide +kernel
theorem dX9_check_35 : decode cX9_check 35 = .ok (.aload_n 0, 1) := by decide +kernel
theorem dX9_check_36 : decode cX9_check 36 = .ok (.iload_n 2, 1) := by decide +kernel
theorem dX9_check_37 : decode cX9_check 37 = .ok (.invokevirtual 369, 3) := by decide +kernel
theorem dX9_check_40 : decode cX9_check 40 = .ok (.aload_n 0, 1) := by decide +kernel
theorem dX9_check_41 : decode cX9_check 41 = .ok (.iload_n 2, 1) := by decide +kernel
theorem dX9_check_42 : decode cX9_check 42 = .ok (.invokevirtual 81, 3) := by decide +kernel
theorem dX9_check_45 : decode cX9_check 45 = .ok (.ifCond .eq 16, 3) := by decide +kernel
theorem dX9_check_48 : decode cX9_check 48 = .ok (.aload_n 0, 1) := by decide +kernel
theorem dX9_check_49 : decode cX9_check 49 = .ok (.getfield 7, 3) := by decide +kernel
theorem dX9_check_52 : decode cX9_check 52 = .ok (.sipush 280, 3) := by decide +kernel
theorem dX9_check_55 : decode cX9_check 55 = .ok (.iload_n 2, 1) := by decide +kernel
theorem dX9_check_56 : decode cX9_check 56 = .ok (.iadd, 1) := by decide +kernel
theorem dX9_check_57 : decode cX9_check 57 = .ok (.iaload, 1) := by decide +kernel
theorem dX9_check_58 : decode cX9_check 58 = .ok (.goto 4, 3) := by decide +kernel
theorem dX9_check_61 : decode cX9_check 61 = .ok (.iconst 0, 1) := by decide +kernel
theorem dX9_check_62 : decode cX9_check 62 = .ok (.if_icmp .eq 5, 3) := by decide +kernel
theorem dX9_check_65 : decode cX9_check 65 = .ok (.iload_n 2, 1) := by decide +kernel
theorem dX9_check_66 : decode cX9_check 66 = .ok (.ireturn, 1) := by decide +kernel
theorem dX9_check_67 : decode cX9_check 67 = .ok (.iinc 2 1, 3) := by decide +kernel
theorem dX9_check_70 : decode cX9_check 70 = .ok (.goto (-40), 3) := by decide +kernel
theorem dX9_check_73 : decode cX9_check 73 = .ok (.iconst (-1), 1) := by decide +kernel
theorem dX9_check_74 : decode cX9_check 74 = .ok (.ireturn, 1) := by decide +kernel
theorem dX9_herdBits_0 : decode cX9_herdBits 0 = .ok (.iconst 0, 1) := by decide +kernel
theorem dX9_herdBits_1 : decode cX9_herdBits 1 = .ok (.istore_n 2, 1) := by decide +kernel
theorem dX9_herdBits_2 : decode cX9_herdBits 2 = .ok (.iconst 0, 1) := by decide +kernel
theorem dX9_herdBits_3 : decode cX9_herdBits 3 = .ok (.istore_n 3, 1) := by decide +kernel
theorem dX9_herdBits_4 : decode cX9_herdBits 4 = .ok (.iload_n 3, 1) := by decide +kernel
theorem dX9_herdBits_5 : decode cX9_herdBits 5 = .ok (.bipush 6, 2) := by decide +kernel
theorem dX9_herdBits_7 : decode cX9_herdBits 7 = .ok (.if_icmp .ge 38, 3) := by decide +kernel
theorem dX9_herdBits_10 : decode cX9_herdBits 10 = .ok (.iload_n 1, 1) := by decide +kernel
theorem dX9_herdBits_11 : decode cX9_herdBits 11 = .ok (.ifCond .eq 14, 3) := by decide +kernel
theorem dX9_herdBits_14 : decode cX9_herdBits 14 = .ok (.aload_n 0, 1) := by decide +kernel
theorem dX9_herdBits_15 : decode cX9_herdBits 15 = .ok (.iload_n 3, 1) := by decide +kernel
theorem dX9_herdBits_16 : decode cX9_herdBits 16 = .ok (.invokevirtual 85, 3) := by decide +kernel
theorem dX9_herdBits_19 : decode cX9_herdBits 19 = .ok (.ifCond .eq 20, 3) := by decide +kernel
theorem dX9_herdBits_22 : decode cX9_herdBits 22 = .ok (.goto 11, 3) := by decide +kernel
theorem dX9_herdBits_25 : decode cX9_herdBits 25 = .ok (.aload_n 0, 1) := by decide +kernel
theorem dX9_herdBits_26 : decode cX9_herdBits 26 = .ok (.iload_n 3, 1) := by decide +kernel
theorem dX9_herdBits_27 : decode cX9_herdBits 27 = .ok (.invokevirtual 81, 3) := by decide +kernel
theorem dX9_herdBits_30 : decode cX9_herdBits 30 = .ok (.ifCond .eq 9, 3) := by decide +kernel
theorem dX9_herdBits_33 : decode cX9_herdBits 33 = .ok (.iload_n 2, 1) := by decide +kernel
theorem dX9_herdBits_34 : decode cX9_herdBits 34 = .ok (.iconst 1, 1) := by decide +kernel
theorem dX9_herdBits_35 : decode cX9_herdBits 35 = .ok (.iload_n 3, 1) := by decide +kernel
theorem dX9_herdBits_36 : decode cX9_herdBits 36 = .ok (.ishl, 1) := by decide +kernel
theorem dX9_herdBits_37 : decode cX9_herdBits 37 = .ok (.ior, 1) := by decide +kernel
theorem dX9_herdBits_38 : decode cX9_herdBits 38 = .ok (.istore_n 2, 1) := by decide +kernel
theorem dX9_herdBits_39 : decode cX9_herdBits 39 = .ok (.iinc 3 1, 3) := by decide +kernel
theorem dX9_herdBits_42 : decode cX9_herdBits 42 = .ok (.goto (-38), 3) := by decide +kernel
theorem dX9_herdBits_45 : decode cX9_herdBits 45 = .ok (.iload_n 2, 1) := by decide +kernel
theorem dX9_herdBits_46 : decode cX9_herdBits 46 = .ok (.ireturn, 1) := by decide +kernel
theorem dX9_litBits_0 : decode cX9_litBits 0 = .ok (.iconst 0, 1) := by decide +kernel
theorem dX9_litBits_1 : decode cX9_litBits 1 = .ok (.istore_n 1, 1) := by decide +kernel
theorem dX9_litBits_2 : decode cX9_litBits 2 = .ok (.iconst 0, 1) := by decide +kernel
theorem dX9_litBits_3 : decode cX9_litBits 3 = .ok (.istore_n 2, 1) := by decide +kernel
theorem dX9_litBits_4 : decode cX9_litBits 4 = .ok (.iload_n 2, 1) := by decide +kernel
theorem dX9_litBits_5 : decode cX9_litBits 5 = .ok (.bipush 18, 2) := by decide +kernel
theorem dX9_litBits_7 : decode cX9_litBits 7 = .ok (.if_icmp .ge 23, 3) := by decide +kernel
theorem dX9_litBits_10 : decode cX9_litBits 10 = .ok (.aload_n 0, 1) := by decide +kernel
theorem dX9_litBits_11 : decode cX9_litBits 11 = .ok (.iload_n 2, 1) := by decide +kernel
theorem dX9_litBits_12 : decode cX9_litBits 12 = .ok (.invokevirtual 253, 3) := by decide +kernel
theorem dX9_litBits_15 : decode cX9_litBits 15 = .ok (.ifCond .eq 9, 3) := by decide +kernel
theorem dX9_litBits_18 : decode cX9_litBits 18 = .ok (.iload_n 1, 1) := by decide +kernel
theorem dX9_litBits_19 : decode cX9_litBits 19 = .ok (.iconst 1, 1) := by decide +kernel
theorem dX9_litBits_20 : decode cX9_litBits 20 = .ok (.iload_n 2, 1) := by decide +kernel
theorem dX9_litBits_21 : decode cX9_litBits 21 = .ok (.ishl, 1) := by decide +kernel
theorem dX9_litBits_22 : decode cX9_litBits 22 = .ok (.ior, 1) := by decide +kernel
theorem dX9_litBits_23 : decode cX9_litBits 23 = .ok (.istore_n 1, 1) := by decide +kernel
theorem dX9_litBits_24 : decode cX9_litBits 24 = .ok (.iinc 2 1, 3) := by decide +kernel
theorem dX9_litBits_27 : decode cX9_litBits 27 = .ok (.goto (-23), 3) := by decide +kernel
theorem dX9_litBits_30 : decode cX9_litBits 30 = .ok (.iload_n 1, 1) := by decide +kernel
theorem dX9_litBits_31 : decode cX9_litBits 31 = .ok (.ireturn, 1) := by decide +kernel
theorem dX9_count_0 : decode cX9_count 0 = .ok (.iload_n 1, 1) := by decide +kernel
theorem dX9_count_1 : decode cX9_count 1 = .ok (.tableswitch 123 0 9 #[55, 64, 73, 82, 87, 92, 101, 107, 113, 118], 55) := by decide +kernel
theorem dX9_count_56 : decode cX9_count 56 = .ok (.aload_n 0, 1) := by decide +kernel
theorem dX9_count_57 : decode cX9_count 57 = .ok (.getfield 7, 3) := by decide +kernel
theorem dX9_count_60 : decode cX9_count 60 = .ok (.sipush 327, 3) := by decide +kernel
theorem dX9_count_63 : decode cX9_count 63 = .ok (.iaload, 1) := by decide +kernel
theorem dX9_count_64 : decode cX9_count 64 = .ok (.ireturn, 1) := by decide +kernel
theorem dX9_count_65 : decode cX9_count 65 = .ok (.aload_n 0, 1) := by decide +kernel
theorem dX9_count_66 : decode cX9_count 66 = .ok (.getfield 7, 3) := by decide +kernel
theorem dX9_count_69 : decode cX9_count 69 = .ok (.sipush 328, 3) := by decide +kernel
theorem dX9_count_72 : decode cX9_count 72 = .ok (.iaload, 1) := by decide +kernel
theorem dX9_count_73 : decode cX9_count 73 = .ok (.ireturn, 1) := by decide +kernel
theorem dX9_count_74 : decode cX9_count 74 = .ok (.aload_n 0, 1) := by decide +kernel
theorem dX9_count_75 : decode cX9_count 75 = .ok (.getfield 7, 3) := by decide +kernel
theorem dX9_count_78 : decode cX9_count 78 = .ok (.sipush 329, 3) := by decide +kernel
theorem dX9_count_81 : decode cX9_count 81 = .ok (.iaload, 1) := by decide +kernel
theorem dX9_count_82 : decode cX9_count 82 = .ok (.ireturn, 1) := by decide +kernel
theorem dX9_count_83 : decode cX9_count 83 = .ok (.aload_n 0, 1) := by decide +kernel
theorem dX9_count_84 : decode cX9_count 84 = .ok (.getfield 215, 3) := by decide +kernel
theorem dX9_count_87 : decode cX9_count 87 = .ok (.ireturn, 1) := by decide +kernel
theorem dX9_count_88 : decode cX9_count 88 = .ok (.aload_n 0, 1) := by decide +kernel
theorem dX9_count_89 : decode cX9_count 89 = .ok (.getfield 115, 3) := by decide +kernel
theorem dX9_count_92 : decode cX9_count 92 = .ok (.ireturn, 1) := by decide +kernel
theorem dX9_count_93 : decode cX9_count 93 = .ok (.aload_n 0, 1) := by decide +kernel
theorem dX9_count_94 : decode cX9_count 94 = .ok (.getfield 7, 3) := by decide +kernel
theorem dX9_count_97 : decode cX9_count 97 = .ok (.sipush 330, 3) := by decide +kernel
theorem dX9_count_100 : decode cX9_count 100 = .ok (.iaload, 1) := by decide +kernel
theorem dX9_count_101 : decode cX9_count 101 = .ok (.ireturn, 1) := by decide +kernel
theorem dX9_count_102 : decode cX9_count 102 = .ok (.aload_n 0, 1) := by decide +kernel
theorem dX9_count_103 : decode cX9_count 103 = .ok (.iconst 0, 1) := by decide +kernel
theorem dX9_count_104 : decode cX9_count 104 = .ok (.invokevirtual 372, 3) := by decide +kernel
theorem dX9_count_107 : decode cX9_count 107 = .ok (.ireturn, 1) := by decide +kernel
theorem dX9_count_108 : decode cX9_count 108 = .ok (.aload_n 0, 1) := by decide +kernel
theorem dX9_count_109 : decode cX9_count 109 = .ok (.iconst 1, 1) := by decide +kernel
theorem dX9_count_110 : decode cX9_count 110 = .ok (.invokevirtual 372, 3) := by decide +kernel
theorem dX9_count_113 : decode cX9_count 113 = .ok (.ireturn, 1) := by decide +kernel
theorem dX9_count_114 : decode cX9_count 114 = .ok (.aload_n 0, 1) := by decide +kernel
theorem dX9_count_115 : decode cX9_count 115 = .ok (.invokevirtual 376, 3) := by decide +kernel
theorem dX9_count_118 : decode cX9_count 118 = .ok (.ireturn, 1) := by decide +kernel
theorem dX9_count_119 : decode cX9_count 119 = .ok (.aload_n 0, 1) := by decide +kernel
theorem dX9_count_120 : decode cX9_count 120 = .ok (.invokevirtual 309, 3) := by decide +kernel
theorem dX9_count_123 : decode cX9_count 123 = .ok (.ireturn, 1) := by decide +kernel
theorem dX9_count_124 : decode cX9_count 124 = .ok (.iload_n 1, 1) := by decide +kernel
theorem dX9_count_125 : decode cX9_count 125 = .ok (.bipush 10, 2) := by decide +kernel
theorem dX9_count_127 : decode cX9_count 127 = .ok (.bipush 13, 2) := by decide +kernel
theorem dX9_count_129 : decode cX9_count 129 = .ok (.invokestatic 92, 3) := by decide +kernel
theorem dX9_count_132 : decode cX9_count 132 = .ok (.ifCond .eq 17, 3) := by decide +kernel
theorem dX9_count_135 : decode cX9_count 135 = .ok (.aload_n 0, 1) := by decide +kernel
theorem dX9_count_136 : decode cX9_count 136 = .ok (.getfield 7, 3) := by decide +kernel
theorem dX9_count_139 : decode cX9_count 139 = .ok (.sipush 304, 3) := by decide +kernel
theorem dX9_count_142 : decode cX9_count 142 = .ok (.iload_n 1, 1) := by decide +kernel
theorem dX9_count_143 : decode cX9_count 143 = .ok (.iadd, 1) := by decide +kernel
theorem dX9_count_144 : decode cX9_count 144 = .ok (.bipush 10, 2) := by decide +kernel
theorem dX9_count_146 : decode cX9_count 146 = .ok (.isub, 1) := by decide +kernel
theorem dX9_count_147 : decode cX9_count 147 = .ok (.iaload, 1) := by decide +kernel
theorem dX9_count_148 : decode cX9_count 148 = .ok (.ireturn, 1) := by decide +kernel
theorem dX9_count_149 : decode cX9_count 149 = .ok (.iload_n 1, 1) := by decide +kernel
theorem dX9_count_150 : decode cX9_count 150 = .ok (.bipush 100, 2) := by decide +kernel
theorem dX9_count_152 : decode cX9_count 152 = .ok (.sipush 295, 3) := by decide +kernel
theorem dX9_count_155 : decode cX9_count 155 = .ok (.invokestatic 92, 3) := by decide +kernel
theorem dX9_count_158 : decode cX9_count 158 = .ok (.ifCond .eq 17, 3) := by decide +kernel
theorem dX9_count_161 : decode cX9_count 161 = .ok (.aload_n 0, 1) := by decide +kernel
theorem dX9_count_162 : decode cX9_count 162 = .ok (.getfield 7, 3) := by decide +kernel
theorem dX9_count_165 : decode cX9_count 165 = .ok (.iconst 0, 1) := by decide +kernel
theorem dX9_count_166 : decode cX9_count 166 = .ok (.iload_n 1, 1) := by decide +kernel
theorem dX9_count_167 : decode cX9_count 167 = .ok (.iadd, 1) := by decide +kernel
theorem dX9_count_168 : decode cX9_count 168 = .ok (.bipush 100, 2) := by decide +kernel
theorem dX9_count_170 : decode cX9_count 170 = .ok (.isub, 1) := by decide +kernel
theorem dX9_count_171 : decode cX9_count 171 = .ok (.iaload, 1) := by decide +kernel
theorem dX9_count_172 : decode cX9_count 172 = .ok (.goto 4, 3) := by decide +kernel
theorem dX9_count_175 : decode cX9_count 175 = .ok (.iconst (-1), 1) := by decide +kernel
theorem dX9_count_176 : decode cX9_count 176 = .ok (.ireturn, 1) := by decide +kernel
