-- decode rows, from the printed names
theorem dX5_init_0 : decode cX5_init 0 = .ok (.aload_n 0, 1) := by decide +kernel
theorem dX5_init_1 : decode cX5_init 1 = .ok (.invokespecial 3, 3) := by decide +kernel
theorem dX5_init_4 : decode cX5_init 4 = .ok (.aload_n 0, 1) := by decide +kernel
theorem dX5_init_5 : decode cX5_init 5 = .ok (.new 9, 3) := by decide +kernel
theorem dX5_init_8 : decode cX5_init 8 = .ok (.dup, 1) := by decide +kernel
theorem dX5_init_9 : decode cX5_init 9 = .ok (.invokespecial 11, 3) := by decide +kernel
theorem dX5_init_12 : decode cX5_init 12 = .ok (.putfield 12, 3) := by decide +kernel
theorem dX5_init_15 : decode cX5_init 15 = .ok (.aload_n 0, 1) := by decide +kernel
theorem dX5_init_16 : decode cX5_init 16 = .ok (.new 18, 3) := by decide +kernel
theorem dX5_init_19 : decode cX5_init 19 = .ok (.dup, 1) := by decide +kernel
theorem dX5_init_20 : decode cX5_init 20 = .ok (.invokespecial 20, 3) := by decide +kernel
theorem dX5_init_23 : decode cX5_init 23 = .ok (.putfield 21, 3) := by decide +kernel
theorem dX5_init_26 : decode cX5_init 26 = .ok (.aload_n 0, 1) := by decide +kernel
theorem dX5_init_27 : decode cX5_init 27 = .ok (.new 9, 3) := by decide +kernel
theorem dX5_init_30 : decode cX5_init 30 = .ok (.dup, 1) := by decide +kernel
theorem dX5_init_31 : decode cX5_init 31 = .ok (.invokespecial 11, 3) := by decide +kernel
theorem dX5_init_34 : decode cX5_init 34 = .ok (.putfield 25, 3) := by decide +kernel
theorem dX5_init_37 : decode cX5_init 37 = .ok (.aload_n 0, 1) := by decide +kernel
theorem dX5_init_38 : decode cX5_init 38 = .ok (.iconst 4, 1) := by decide +kernel
theorem dX5_init_39 : decode cX5_init 39 = .ok (.anewarray 9, 3) := by decide +kernel
theorem dX5_init_42 : decode cX5_init 42 = .ok (.dup, 1) := by decide +kernel
theorem dX5_init_43 : decode cX5_init 43 = .ok (.iconst 0, 1) := by decide +kernel
theorem dX5_init_44 : decode cX5_init 44 = .ok (.new 9, 3) := by decide +kernel
theorem dX5_init_47 : decode cX5_init 47 = .ok (.dup, 1) := by decide +kernel
theorem dX5_init_48 : decode cX5_init 48 = .ok (.invokespecial 11, 3) := by decide +kernel
theorem dX5_init_51 : decode cX5_init 51 = .ok (.aastore, 1) := by decide +kernel
theorem dX5_init_52 : decode cX5_init 52 = .ok (.dup, 1) := by decide +kernel
theorem dX5_init_53 : decode cX5_init 53 = .ok (.iconst 1, 1) := by decide +kernel
theorem dX5_init_54 : decode cX5_init 54 = .ok (.new 9, 3) := by decide +kernel
theorem dX5_init_57 : decode cX5_init 57 = .ok (.dup, 1) := by decide +kernel
theorem dX5_init_58 : decode cX5_init 58 = .ok (.invokespecial 11, 3) := by decide +kernel
theorem dX5_init_61 : decode cX5_init 61 = .ok (.aastore, 1) := by decide +kernel
theorem dX5_init_62 : decode cX5_init 62 = .ok (.dup, 1) := by decide +kernel
theorem dX5_init_63 : decode cX5_init 63 = .ok (.iconst 2, 1) := by decide +kernel
theorem dX5_init_64 : decode cX5_init 64 = .ok (.new 9, 3) := by decide +kernel
theorem dX5_init_67 : decode cX5_init 67 = .ok (.dup, 1) := by decide +kernel
theorem dX5_init_68 : decode cX5_init 68 = .ok (.invokespecial 11, 3) := by decide +kernel
theorem dX5_init_71 : decode cX5_init 71 = .ok (.aastore, 1) := by decide +kernel
theorem dX5_init_72 : decode cX5_init 72 = .ok (.dup, 1) := by decide +kernel
theorem dX5_init_73 : decode cX5_init 73 = .ok (.iconst 3, 1) := by decide +kernel
theorem dX5_init_74 : decode cX5_init 74 = .ok (.new 9, 3) := by decide +kernel
theorem dX5_init_77 : decode cX5_init 77 = .ok (.dup, 1) := by decide +kernel
theorem dX5_init_78 : decode cX5_init 78 = .ok (.invokespecial 11, 3) := by decide +kernel
theorem dX5_init_81 : decode cX5_init 81 = .ok (.aastore, 1) := by decide +kernel
theorem dX5_init_82 : decode cX5_init 82 = .ok (.putfield 28, 3) := by decide +kernel
theorem dX5_init_85 : decode cX5_init 85 = .ok (.aload_n 0, 1) := by decide +kernel
theorem dX5_init_86 : decode cX5_init 86 = .ok (.bipush 9, 2) := by decide +kernel
theorem dX5_init_88 : decode cX5_init 88 = .ok (.newarray .int, 2) := by decide +kernel
theorem dX5_init_90 : decode cX5_init 90 = .ok (.putfield 32, 3) := by decide +kernel
theorem dX5_init_93 : decode cX5_init 93 = .ok (.aload_n 0, 1) := by decide +kernel
theorem dX5_init_94 : decode cX5_init 94 = .ok (.iconst 0, 1) := by decide +kernel
theorem dX5_init_95 : decode cX5_init 95 = .ok (.putfield 36, 3) := by decide +kernel
theorem dX5_init_98 : decode cX5_init 98 = .ok (.aload_n 0, 1) := by decide +kernel
theorem dX5_init_99 : decode cX5_init 99 = .ok (.sipush 512, 3) := by decide +kernel
theorem dX5_init_102 : decode cX5_init 102 = .ok (.newarray .int, 2) := by decide +kernel
theorem dX5_init_104 : decode cX5_init 104 = .ok (.putfield 40, 3) := by decide +kernel
theorem dX5_init_107 : decode cX5_init 107 = .ok (.aload_n 0, 1) := by decide +kernel
theorem dX5_init_108 : decode cX5_init 108 = .ok (.sipush 512, 3) := by decide +kernel
theorem dX5_init_111 : decode cX5_init 111 = .ok (.newarray .int, 2) := by decide +kernel
theorem dX5_init_113 : decode cX5_init 113 = .ok (.putfield 43, 3) := by decide +kernel
theorem dX5_init_116 : decode cX5_init 116 = .ok (.aload_n 0, 1) := by decide +kernel
theorem dX5_init_117 : decode cX5_init 117 = .ok (.bipush 9, 2) := by decide +kernel
theorem dX5_init_119 : decode cX5_init 119 = .ok (.newarray .int, 2) := by decide +kernel
theorem dX5_init_121 : decode cX5_init 121 = .ok (.putfield 46, 3) := by decide +kernel
theorem dX5_init_124 : decode cX5_init 124 = .ok (.aload_n 0, 1) := by decide +kernel
theorem dX5_init_125 : decode cX5_init 125 = .ok (.bipush 25, 2) := by decide +kernel
theorem dX5_init_127 : decode cX5_init 127 = .ok (.newarray .int, 2) := by decide +kernel
theorem dX5_init_129 : decode cX5_init 129 = .ok (.putfield 49, 3) := by decide +kernel
theorem dX5_init_132 : decode cX5_init 132 = .ok (.aload_n 0, 1) := by decide +kernel
theorem dX5_init_133 : decode cX5_init 133 = .ok (.bipush 25, 2) := by decide +kernel
theorem dX5_init_135 : decode cX5_init 135 = .ok (.newarray .int, 2) := by decide +kernel
theorem dX5_init_137 : decode cX5_init 137 = .ok (.putfield 52, 3) := by decide +kernel
theorem dX5_init_140 : decode cX5_init 140 = .ok (.aload_n 0, 1) := by decide +kernel
theorem dX5_init_141 : decode cX5_init 141 = .ok (.iconst 0, 1) := by decide +kernel
theorem dX5_init_142 : decode cX5_init 142 = .ok (.putfield 55, 3) := by decide +kernel
theorem dX5_init_145 : decode cX5_init 145 = .ok (.aload_n 0, 1) := by decide +kernel
theorem dX5_init_146 : decode cX5_init 146 = .ok (.iconst (-1), 1) := by decide +kernel
theorem dX5_init_147 : decode cX5_init 147 = .ok (.putfield 58, 3) := by decide +kernel
theorem dX5_init_150 : decode cX5_init 150 = .ok (.aload_n 0, 1) := by decide +kernel
theorem dX5_init_151 : decode cX5_init 151 = .ok (.iconst 0, 1) := by decide +kernel
theorem dX5_init_152 : decode cX5_init 152 = .ok (.putfield 61, 3) := by decide +kernel
theorem dX5_init_155 : decode cX5_init 155 = .ok (.aload_n 0, 1) := by decide +kernel
theorem dX5_init_156 : decode cX5_init 156 = .ok (.iconst (-1), 1) := by decide +kernel
theorem dX5_init_157 : decode cX5_init 157 = .ok (.putfield 64, 3) := by decide +kernel
theorem dX5_init_160 : decode cX5_init 160 = .ok (.return_, 1) := by decide +kernel
theorem dX5_weighSets_0 : decode cX5_weighSets 0 = .ok (.aload_n 0, 1) := by decide +kernel
theorem dX5_weighSets_1 : decode cX5_weighSets 1 = .ok (.iconst 0, 1) := by decide +kernel
theorem dX5_weighSets_2 : decode cX5_weighSets 2 = .ok (.putfield 36, 3) := by decide +kernel
theorem dX5_weighSets_5 : decode cX5_weighSets 5 = .ok (.aload_n 0, 1) := by decide +kernel
theorem dX5_weighSets_6 : decode cX5_weighSets 6 = .ok (.bipush 9, 2) := by decide +kernel
theorem dX5_weighSets_8 : decode cX5_weighSets 8 = .ok (.invokevirtual 67, 3) := by decide +kernel
theorem dX5_weighSets_11 : decode cX5_weighSets 11 = .ok (.aload_n 0, 1) := by decide +kernel
theorem dX5_weighSets_12 : decode cX5_weighSets 12 = .ok (.getfield 40, 3) := by decide +kernel
theorem dX5_weighSets_15 : decode cX5_weighSets 15 = .ok (.iconst (-1), 1) := by decide +kernel
theorem dX5_weighSets_16 : decode cX5_weighSets 16 = .ok (.invokestatic 71, 3) := by decide +kernel
theorem dX5_weighSets_19 : decode cX5_weighSets 19 = .ok (.iconst 0, 1) := by decide +kernel
theorem dX5_weighSets_20 : decode cX5_weighSets 20 = .ok (.istore_n 1, 1) := by decide +kernel
theorem dX5_weighSets_21 : decode cX5_weighSets 21 = .ok (.iload_n 1, 1) := by decide +kernel
theorem dX5_weighSets_22 : decode cX5_weighSets 22 = .ok (.sipush 512, 3) := by decide +kernel
theorem dX5_weighSets_25 : decode cX5_weighSets 25 = .ok (.if_icmp .ge 66, 3) := by decide +kernel
theorem dX5_weighSets_28 : decode cX5_weighSets 28 = .ok (.aload_n 0, 1) := by decide +kernel
theorem dX5_weighSets_29 : decode cX5_weighSets 29 = .ok (.iload_n 1, 1) := by decide +kernel
theorem dX5_weighSets_30 : decode cX5_weighSets 30 = .ok (.invokevirtual 77, 3) := by decide +kernel
theorem dX5_weighSets_33 : decode cX5_weighSets 33 = .ok (.ifCond .eq 58, 3) := by decide +kernel
theorem dX5_weighSets_36 : decode cX5_weighSets 36 = .ok (.aload_n 0, 1) := by decide +kernel
theorem dX5_weighSets_37 : decode cX5_weighSets 37 = .ok (.getfield 40, 3) := by decide +kernel
theorem dX5_weighSets_40 : decode cX5_weighSets 40 = .ok (.iload_n 1, 1) := by decide +kernel
theorem dX5_weighSets_41 : decode cX5_weighSets 41 = .ok (.iaload, 1) := by decide +kernel
theorem dX5_weighSets_42 : decode cX5_weighSets 42 = .ok (.iconst (-1), 1) := by decide +kernel
theorem dX5_weighSets_43 : decode cX5_weighSets 43 = .ok (.if_icmp .ne 42, 3) := by decide +kernel
theorem dX5_weighSets_46 : decode cX5_weighSets 46 = .ok (.aload_n 0, 1) := by decide +kernel
theorem dX5_weighSets_47 : decode cX5_weighSets 47 = .ok (.iload_n 1, 1) := by decide +kernel
theorem dX5_weighSets_48 : decode cX5_weighSets 48 = .ok (.invokevirtual 81, 3) := by decide +kernel
theorem dX5_weighSets_51 : decode cX5_weighSets 51 = .ok (.aload_n 0, 1) := by decide +kernel
theorem dX5_weighSets_52 : decode cX5_weighSets 52 = .ok (.getfield 21, 3) := by decide +kernel
theorem dX5_weighSets_55 : decode cX5_weighSets 55 = .ok (.aload_n 0, 1) := by decide +kernel
theorem dX5_weighSets_56 : decode cX5_weighSets 56 = .ok (.getfield 25, 3) := by decide +kernel
theorem dX5_weighSets_59 : decode cX5_weighSets 59 = .ok (.aload_n 0, 1) := by decide +kernel
theorem dX5_weighSets_60 : decode cX5_weighSets 60 = .ok (.getfield 12, 3) := by decide +kernel
theorem dX5_weighSets_63 : decode cX5_weighSets 63 = .ok (.invokevirtual 84, 3) := by decide +kernel
theorem dX5_weighSets_66 : decode cX5_weighSets 66 = .ok (.invokevirtual 88, 3) := by decide +kernel
theorem dX5_weighSets_69 : decode cX5_weighSets 69 = .ok (.pop, 1) := by decide +kernel
theorem dX5_weighSets_70 : decode cX5_weighSets 70 = .ok (.aload_n 0, 1) := by decide +kernel
theorem dX5_weighSets_71 : decode cX5_weighSets 71 = .ok (.iload_n 1, 1) := by decide +kernel
theorem dX5_weighSets_72 : decode cX5_weighSets 72 = .ok (.aload_n 0, 1) := by decide +kernel
theorem dX5_weighSets_73 : decode cX5_weighSets 73 = .ok (.getfield 25, 3) := by decide +kernel
theorem dX5_weighSets_76 : decode cX5_weighSets 76 = .ok (.getfield 92, 3) := by decide +kernel
theorem dX5_weighSets_79 : decode cX5_weighSets 79 = .ok (.invokevirtual 96, 3) := by decide +kernel
theorem dX5_weighSets_82 : decode cX5_weighSets 82 = .ok (.invokevirtual 101, 3) := by decide +kernel
theorem dX5_weighSets_85 : decode cX5_weighSets 85 = .ok (.iinc 1 1, 3) := by decide +kernel
theorem dX5_weighSets_88 : decode cX5_weighSets 88 = .ok (.goto (-67), 3) := by decide +kernel
theorem dX5_weighSets_91 : decode cX5_weighSets 91 = .ok (.return_, 1) := by decide +kernel
theorem dX5_matchSets_0 : decode cX5_matchSets 0 = .ok (.aload_n 0, 1) := by decide +kernel
theorem dX5_matchSets_1 : decode cX5_matchSets 1 = .ok (.iconst 0, 1) := by decide +kernel
theorem dX5_matchSets_2 : decode cX5_matchSets 2 = .ok (.putfield 36, 3) := by decide +kernel
theorem dX5_matchSets_5 : decode cX5_matchSets 5 = .ok (.aload_n 0, 1) := by decide +kernel
theorem dX5_matchSets_6 : decode cX5_matchSets 6 = .ok (.iconst 5, 1) := by decide +kernel
theorem dX5_matchSets_7 : decode cX5_matchSets 7 = .ok (.invokevirtual 67, 3) := by decide +kernel
theorem dX5_matchSets_10 : decode cX5_matchSets 10 = .ok (.aload_n 0, 1) := by decide +kernel
theorem dX5_matchSets_11 : decode cX5_matchSets 11 = .ok (.invokevirtual 105, 3) := by decide +kernel
theorem dX5_matchSets_14 : decode cX5_matchSets 14 = .ok (.aload_n 0, 1) := by decide +kernel
theorem dX5_matchSets_15 : decode cX5_matchSets 15 = .ok (.getfield 40, 3) := by decide +kernel
theorem dX5_matchSets_18 : decode cX5_matchSets 18 = .ok (.iconst (-1), 1) := by decide +kernel
theorem dX5_matchSets_19 : decode cX5_matchSets 19 = .ok (.invokestatic 71, 3) := by decide +kernel
theorem dX5_matchSets_22 : decode cX5_matchSets 22 = .ok (.aload_n 0, 1) := by decide +kernel
theorem dX5_matchSets_23 : decode cX5_matchSets 23 = .ok (.invokevirtual 108, 3) := by decide +kernel
theorem dX5_matchSets_26 : decode cX5_matchSets 26 = .ok (.iconst 0, 1) := by decide +kernel
theorem dX5_matchSets_27 : decode cX5_matchSets 27 = .ok (.istore_n 3, 1) := by decide +kernel
theorem dX5_matchSets_28 : decode cX5_matchSets 28 = .ok (.iload_n 3, 1) := by decide +kernel
theorem dX5_matchSets_29 : decode cX5_matchSets 29 = .ok (.sipush 512, 3) := by decide +kernel
theorem dX5_matchSets_32 : decode cX5_matchSets 32 = .ok (.if_icmp .ge 111, 3) := by decide +kernel
theorem dX5_matchSets_35 : decode cX5_matchSets 35 = .ok (.aload_n 0, 1) := by decide +kernel
theorem dX5_matchSets_36 : decode cX5_matchSets 36 = .ok (.iload_n 3, 1) := by decide +kernel
theorem dX5_matchSets_37 : decode cX5_matchSets 37 = .ok (.invokevirtual 77, 3) := by decide +kernel
theorem dX5_matchSets_40 : decode cX5_matchSets 40 = .ok (.ifCond .eq 103, 3) := by decide +kernel
theorem dX5_matchSets_43 : decode cX5_matchSets 43 = .ok (.aload_n 0, 1) := by decide +kernel
theorem dX5_matchSets_44 : decode cX5_matchSets 44 = .ok (.getfield 40, 3) := by decide +kernel
theorem dX5_matchSets_47 : decode cX5_matchSets 47 = .ok (.iload_n 3, 1) := by decide +kernel
theorem dX5_matchSets_48 : decode cX5_matchSets 48 = .ok (.iaload, 1) := by decide +kernel
theorem dX5_matchSets_49 : decode cX5_matchSets 49 = .ok (.iconst (-1), 1) := by decide +kernel
theorem dX5_matchSets_50 : decode cX5_matchSets 50 = .ok (.if_icmp .ne 39, 3) := by decide +kernel
theorem dX5_matchSets_53 : decode cX5_matchSets 53 = .ok (.aload_n 0, 1) := by decide +kernel
theorem dX5_matchSets_54 : decode cX5_matchSets 54 = .ok (.iload_n 3, 1) := by decide +kernel
theorem dX5_matchSets_55 : decode cX5_matchSets 55 = .ok (.invokevirtual 81, 3) := by decide +kernel
theorem dX5_matchSets_58 : decode cX5_matchSets 58 = .ok (.aload_n 0, 1) := by decide +kernel
theorem dX5_matchSets_59 : decode cX5_matchSets 59 = .ok (.getfield 21, 3) := by decide +kernel
theorem dX5_matchSets_62 : decode cX5_matchSets 62 = .ok (.aload_n 0, 1) := by decide +kernel
theorem dX5_matchSets_63 : decode cX5_matchSets 63 = .ok (.getfield 25, 3) := by decide +kernel
theorem dX5_matchSets_66 : decode cX5_matchSets 66 = .ok (.iload_n 1, 1) := by decide +kernel
theorem dX5_matchSets_67 : decode cX5_matchSets 67 = .ok (.invokevirtual 88, 3) := by decide +kernel
theorem dX5_matchSets_70 : decode cX5_matchSets 70 = .ok (.pop, 1) := by decide +kernel
theorem dX5_matchSets_71 : decode cX5_matchSets 71 = .ok (.aload_n 0, 1) := by decide +kernel
theorem dX5_matchSets_72 : decode cX5_matchSets 72 = .ok (.iload_n 3, 1) := by decide +kernel
theorem dX5_matchSets_73 : decode cX5_matchSets 73 = .ok (.aload_n 0, 1) := by decide +kernel
theorem dX5_matchSets_74 : decode cX5_matchSets 74 = .ok (.aload_n 2, 1) := by decide +kernel
theorem dX5_matchSets_75 : decode cX5_matchSets 75 = .ok (.invokevirtual 111, 3) := by decide +kernel
theorem dX5_matchSets_78 : decode cX5_matchSets 78 = .ok (.ifCond .eq 7, 3) := by decide +kernel
theorem dX5_matchSets_81 : decode cX5_matchSets 81 = .ok (.iconst 1, 1) := by decide +kernel
theorem dX5_matchSets_82 : decode cX5_matchSets 82 = .ok (.goto 4, 3) := by decide +kernel
theorem dX5_matchSets_85 : decode cX5_matchSets 85 = .ok (.iconst 0, 1) := by decide +kernel
theorem dX5_matchSets_86 : decode cX5_matchSets 86 = .ok (.invokevirtual 101, 3) := by decide +kernel
theorem dX5_matchSets_89 : decode cX5_matchSets 89 = .ok (.aload_n 0, 1) := by decide +kernel
theorem dX5_matchSets_90 : decode cX5_matchSets 90 = .ok (.getfield 40, 3) := by decide +kernel
theorem dX5_matchSets_93 : decode cX5_matchSets 93 = .ok (.iload_n 3, 1) := by decide +kernel
theorem dX5_matchSets_94 : decode cX5_matchSets 94 = .ok (.iaload, 1) := by decide +kernel
theorem dX5_matchSets_95 : decode cX5_matchSets 95 = .ok (.iconst 1, 1) := by decide +kernel
theorem dX5_matchSets_96 : decode cX5_matchSets 96 = .ok (.if_icmp .ne 41, 3) := by decide +kernel
theorem dX5_matchSets_99 : decode cX5_matchSets 99 = .ok (.aload_n 0, 1) := by decide +kernel
theorem dX5_matchSets_100 : decode cX5_matchSets 100 = .ok (.aload_n 0, 1) := by decide +kernel
theorem dX5_matchSets_101 : decode cX5_matchSets 101 = .ok (.getfield 55, 3) := by decide +kernel
theorem dX5_matchSets_104 : decode cX5_matchSets 104 = .ok (.ifCond .ne 11, 3) := by decide +kernel
theorem dX5_matchSets_107 : decode cX5_matchSets 107 = .ok (.aload_n 0, 1) := by decide +kernel
theorem dX5_matchSets_108 : decode cX5_matchSets 108 = .ok (.iload_n 3, 1) := by decide +kernel
theorem dX5_matchSets_109 : decode cX5_matchSets 109 = .ok (.invokevirtual 115, 3) := by decide +kernel
theorem dX5_matchSets_112 : decode cX5_matchSets 112 = .ok (.goto 13, 3) := by decide +kernel
theorem dX5_matchSets_115 : decode cX5_matchSets 115 = .ok (.aload_n 0, 1) := by decide +kernel
theorem dX5_matchSets_116 : decode cX5_matchSets 116 = .ok (.getfield 61, 3) := by decide +kernel
theorem dX5_matchSets_119 : decode cX5_matchSets 119 = .ok (.aload_n 0, 1) := by decide +kernel
theorem dX5_matchSets_120 : decode cX5_matchSets 120 = .ok (.iload_n 3, 1) := by decide +kernel
theorem dX5_matchSets_121 : decode cX5_matchSets 121 = .ok (.invokevirtual 115, 3) := by decide +kernel
theorem dX5_matchSets_124 : decode cX5_matchSets 124 = .ok (.iand, 1) := by decide +kernel
theorem dX5_matchSets_125 : decode cX5_matchSets 125 = .ok (.putfield 61, 3) := by decide +kernel
theorem dX5_matchSets_128 : decode cX5_matchSets 128 = .ok (.aload_n 0, 1) := by decide +kernel
theorem dX5_matchSets_129 : decode cX5_matchSets 129 = .ok (.aload_n 0, 1) := by decide +kernel
theorem dX5_matchSets_130 : decode cX5_matchSets 130 = .ok (.iload_n 3, 1) := by decide +kernel
theorem dX5_matchSets_131 : decode cX5_matchSets 131 = .ok (.invokevirtual 115, 3) := by decide +kernel
theorem dX5_matchSets_134 : decode cX5_matchSets 134 = .ok (.invokevirtual 119, 3) := by decide +kernel
theorem dX5_matchSets_137 : decode cX5_matchSets 137 = .ok (.iinc 3 1, 3) := by decide +kernel
theorem dX5_matchSets_140 : decode cX5_matchSets 140 = .ok (.goto (-112), 3) := by decide +kernel
theorem dX5_matchSets_143 : decode cX5_matchSets 143 = .ok (.return_, 1) := by decide +kernel
theorem dX5_chooseInns_0 : decode cX5_chooseInns 0 = .ok (.iconst 0, 1) := by decide +kernel
theorem dX5_chooseInns_1 : decode cX5_chooseInns 1 = .ok (.istore_n 2, 1) := by decide +kernel
theorem dX5_chooseInns_2 : decode cX5_chooseInns 2 = .ok (.iload_n 2, 1) := by decide +kernel
theorem dX5_chooseInns_3 : decode cX5_chooseInns 3 = .ok (.bipush 9, 2) := by decide +kernel
theorem dX5_chooseInns_5 : decode cX5_chooseInns 5 = .ok (.if_icmp .ge 77, 3) := by decide +kernel
theorem dX5_chooseInns_8 : decode cX5_chooseInns 8 = .ok (.aload_n 0, 1) := by decide +kernel
theorem dX5_chooseInns_9 : decode cX5_chooseInns 9 = .ok (.getfield 36, 3) := by decide +kernel
theorem dX5_chooseInns_12 : decode cX5_chooseInns 12 = .ok (.iload_n 1, 1) := by decide +kernel
theorem dX5_chooseInns_13 : decode cX5_chooseInns 13 = .ok (.if_icmp .ge 69, 3) := by decide +kernel
theorem dX5_chooseInns_16 : decode cX5_chooseInns 16 = .ok (.aload_n 0, 1) := by decide +kernel
theorem dX5_chooseInns_17 : decode cX5_chooseInns 17 = .ok (.getfield 12, 3) := by decide +kernel
theorem dX5_chooseInns_20 : decode cX5_chooseInns 20 = .ok (.getfield 122, 3) := by decide +kernel
theorem dX5_chooseInns_23 : decode cX5_chooseInns 23 = .ok (.iload_n 2, 1) := by decide +kernel
theorem dX5_chooseInns_24 : decode cX5_chooseInns 24 = .ok (.invokevirtual 126, 3) := by decide +kernel
theorem dX5_chooseInns_27 : decode cX5_chooseInns 27 = .ok (.ifCond .eq 49, 3) := by decide +kernel
theorem dX5_chooseInns_30 : decode cX5_chooseInns 30 = .ok (.aload_n 0, 1) := by decide +kernel
theorem dX5_chooseInns_31 : decode cX5_chooseInns 31 = .ok (.getfield 12, 3) := by decide +kernel
theorem dX5_chooseInns_34 : decode cX5_chooseInns 34 = .ok (.getfield 122, 3) := by decide +kernel
theorem dX5_chooseInns_37 : decode cX5_chooseInns 37 = .ok (.iload_n 2, 1) := by decide +kernel
theorem dX5_chooseInns_38 : decode cX5_chooseInns 38 = .ok (.invokevirtual 131, 3) := by decide +kernel
theorem dX5_chooseInns_41 : decode cX5_chooseInns 41 = .ok (.ifCond .ne 35, 3) := by decide +kernel
theorem dX5_chooseInns_44 : decode cX5_chooseInns 44 = .ok (.aload_n 0, 1) := by decide +kernel
theorem dX5_chooseInns_45 : decode cX5_chooseInns 45 = .ok (.getfield 36, 3) := by decide +kernel
theorem dX5_chooseInns_48 : decode cX5_chooseInns 48 = .ok (.aload_n 0, 1) := by decide +kernel
theorem dX5_chooseInns_49 : decode cX5_chooseInns 49 = .ok (.getfield 32, 3) := by decide +kernel
theorem dX5_chooseInns_52 : decode cX5_chooseInns 52 = .ok (.arraylength, 1) := by decide +kernel
theorem dX5_chooseInns_53 : decode cX5_chooseInns 53 = .ok (.if_icmp .ge 23, 3) := by decide +kernel
theorem dX5_chooseInns_56 : decode cX5_chooseInns 56 = .ok (.aload_n 0, 1) := by decide +kernel
theorem dX5_chooseInns_57 : decode cX5_chooseInns 57 = .ok (.getfield 32, 3) := by decide +kernel
theorem dX5_chooseInns_60 : decode cX5_chooseInns 60 = .ok (.aload_n 0, 1) := by decide +kernel
theorem dX5_chooseInns_61 : decode cX5_chooseInns 61 = .ok (.getfield 36, 3) := by decide +kernel
theorem dX5_chooseInns_64 : decode cX5_chooseInns 64 = .ok (.iload_n 2, 1) := by decide +kernel
theorem dX5_chooseInns_65 : decode cX5_chooseInns 65 = .ok (.iastore, 1) := by decide +kernel
theorem dX5_chooseInns_66 : decode cX5_chooseInns 66 = .ok (.aload_n 0, 1) := by decide +kernel
theorem dX5_chooseInns_67 : decode cX5_chooseInns 67 = .ok (.dup, 1) := by decide +kernel
theorem dX5_chooseInns_68 : decode cX5_chooseInns 68 = .ok (.getfield 36, 3) := by decide +kernel
theorem dX5_chooseInns_71 : decode cX5_chooseInns 71 = .ok (.iconst 1, 1) := by decide +kernel
theorem dX5_chooseInns_72 : decode cX5_chooseInns 72 = .ok (.iadd, 1) := by decide +kernel
theorem dX5_chooseInns_73 : decode cX5_chooseInns 73 = .ok (.putfield 36, 3) := by decide +kernel
theorem dX5_chooseInns_76 : decode cX5_chooseInns 76 = .ok (.iinc 2 1, 3) := by decide +kernel
theorem dX5_chooseInns_79 : decode cX5_chooseInns 79 = .ok (.goto (-77), 3) := by decide +kernel
theorem dX5_chooseInns_82 : decode cX5_chooseInns 82 = .ok (.return_, 1) := by decide +kernel
theorem dX5_chooseStrays_0 : decode cX5_chooseStrays 0 = .ok (.bipush 9, 2) := by decide +kernel
theorem dX5_chooseStrays_2 : decode cX5_chooseStrays 2 = .ok (.istore_n 1, 1) := by decide +kernel
theorem dX5_chooseStrays_3 : decode cX5_chooseStrays 3 = .ok (.iload_n 1, 1) := by decide +kernel
theorem dX5_chooseStrays_4 : decode cX5_chooseStrays 4 = .ok (.bipush 12, 2) := by decide +kernel
theorem dX5_chooseStrays_6 : decode cX5_chooseStrays 6 = .ok (.if_icmp .ge 55, 3) := by decide +kernel
theorem dX5_chooseStrays_9 : decode cX5_chooseStrays 9 = .ok (.aload_n 0, 1) := by decide +kernel
theorem dX5_chooseStrays_10 : decode cX5_chooseStrays 10 = .ok (.getfield 12, 3) := by decide +kernel
theorem dX5_chooseStrays_13 : decode cX5_chooseStrays 13 = .ok (.getfield 122, 3) := by decide +kernel
theorem dX5_chooseStrays_16 : decode cX5_chooseStrays 16 = .ok (.iload_n 1, 1) := by decide +kernel
theorem dX5_chooseStrays_17 : decode cX5_chooseStrays 17 = .ok (.invokevirtual 126, 3) := by decide +kernel
theorem dX5_chooseStrays_20 : decode cX5_chooseStrays 20 = .ok (.ifCond .eq 35, 3) := by decide +kernel
theorem dX5_chooseStrays_23 : decode cX5_chooseStrays 23 = .ok (.aload_n 0, 1) := by decide +kernel
theorem dX5_chooseStrays_24 : decode cX5_chooseStrays 24 = .ok (.getfield 36, 3) := by decide +kernel
theorem dX5_chooseStrays_27 : decode cX5_chooseStrays 27 = .ok (.aload_n 0, 1) := by decide +kernel
theorem dX5_chooseStrays_28 : decode cX5_chooseStrays 28 = .ok (.getfield 32, 3) := by decide +kernel
theorem dX5_chooseStrays_31 : decode cX5_chooseStrays 31 = .ok (.arraylength, 1) := by decide +kernel
theorem dX5_chooseStrays_32 : decode cX5_chooseStrays 32 = .ok (.if_icmp .ge 23, 3) := by decide +kernel
theorem dX5_chooseStrays_35 : decode cX5_chooseStrays 35 = .ok (.aload_n 0, 1) := by decide +kernel
theorem dX5_chooseStrays_36 : decode cX5_chooseStrays 36 = .ok (.getfield 32, 3) := by decide +kernel
theorem dX5_chooseStrays_39 : decode cX5_chooseStrays 39 = .ok (.aload_n 0, 1) := by decide +kernel
theorem dX5_chooseStrays_40 : decode cX5_chooseStrays 40 = .ok (.getfield 36, 3) := by decide +kernel
theorem dX5_chooseStrays_43 : decode cX5_chooseStrays 43 = .ok (.iload_n 1, 1) := by decide +kernel
theorem dX5_chooseStrays_44 : decode cX5_chooseStrays 44 = .ok (.iastore, 1) := by decide +kernel
theorem dX5_chooseStrays_45 : decode cX5_chooseStrays 45 = .ok (.aload_n 0, 1) := by decide +kernel
theorem dX5_chooseStrays_46 : decode cX5_chooseStrays 46 = .ok (.dup, 1) := by decide +kernel
theorem dX5_chooseStrays_47 : decode cX5_chooseStrays 47 = .ok (.getfield 36, 3) := by decide +kernel
theorem dX5_chooseStrays_50 : decode cX5_chooseStrays 50 = .ok (.iconst 1, 1) := by decide +kernel
theorem dX5_chooseStrays_51 : decode cX5_chooseStrays 51 = .ok (.iadd, 1) := by decide +kernel
theorem dX5_chooseStrays_52 : decode cX5_chooseStrays 52 = .ok (.putfield 36, 3) := by decide +kernel
theorem dX5_chooseStrays_55 : decode cX5_chooseStrays 55 = .ok (.iinc 1 1, 3) := by decide +kernel
theorem dX5_chooseStrays_58 : decode cX5_chooseStrays 58 = .ok (.goto (-55), 3) := by decide +kernel
theorem dX5_chooseStrays_61 : decode cX5_chooseStrays 61 = .ok (.return_, 1) := by decide +kernel
theorem dX5_isSet_0 : decode cX5_isSet 0 = .ok (.iload_n 1, 1) := by decide +kernel
theorem dX5_isSet_1 : decode cX5_isSet 1 = .ok (.ifCond .lt 24, 3) := by decide +kernel
theorem dX5_isSet_4 : decode cX5_isSet 4 = .ok (.iload_n 1, 1) := by decide +kernel
theorem dX5_isSet_5 : decode cX5_isSet 5 = .ok (.sipush 512, 3) := by decide +kernel
theorem dX5_isSet_8 : decode cX5_isSet 8 = .ok (.if_icmp .ge 17, 3) := by decide +kernel
theorem dX5_isSet_11 : decode cX5_isSet 11 = .ok (.iload_n 1, 1) := by decide +kernel
theorem dX5_isSet_12 : decode cX5_isSet 12 = .ok (.iconst 1, 1) := by decide +kernel
theorem dX5_isSet_13 : decode cX5_isSet 13 = .ok (.aload_n 0, 1) := by decide +kernel
theorem dX5_isSet_14 : decode cX5_isSet 14 = .ok (.getfield 36, 3) := by decide +kernel
theorem dX5_isSet_17 : decode cX5_isSet 17 = .ok (.ishl, 1) := by decide +kernel
theorem dX5_isSet_18 : decode cX5_isSet 18 = .ok (.if_icmp .ge 7, 3) := by decide +kernel
theorem dX5_isSet_21 : decode cX5_isSet 21 = .ok (.iconst 1, 1) := by decide +kernel
theorem dX5_isSet_22 : decode cX5_isSet 22 = .ok (.goto 4, 3) := by decide +kernel
theorem dX5_isSet_25 : decode cX5_isSet 25 = .ok (.iconst 0, 1) := by decide +kernel
theorem dX5_isSet_26 : decode cX5_isSet 26 = .ok (.ireturn, 1) := by decide +kernel
theorem dX5_lightSet_0 : decode cX5_lightSet 0 = .ok (.aload_n 0, 1) := by decide +kernel
theorem dX5_lightSet_1 : decode cX5_lightSet 1 = .ok (.getfield 25, 3) := by decide +kernel
theorem dX5_lightSet_4 : decode cX5_lightSet 4 = .ok (.aload_n 0, 1) := by decide +kernel
theorem dX5_lightSet_5 : decode cX5_lightSet 5 = .ok (.getfield 12, 3) := by decide +kernel
theorem dX5_lightSet_8 : decode cX5_lightSet 8 = .ok (.invokevirtual 134, 3) := by decide +kernel
theorem dX5_lightSet_11 : decode cX5_lightSet 11 = .ok (.iconst 0, 1) := by decide +kernel
theorem dX5_lightSet_12 : decode cX5_lightSet 12 = .ok (.istore_n 2, 1) := by decide +kernel
theorem dX5_lightSet_13 : decode cX5_lightSet 13 = .ok (.iload_n 2, 1) := by decide +kernel
theorem dX5_lightSet_14 : decode cX5_lightSet 14 = .ok (.aload_n 0, 1) := by decide +kernel
theorem dX5_lightSet_15 : decode cX5_lightSet 15 = .ok (.getfield 36, 3) := by decide +kernel
theorem dX5_lightSet_18 : decode cX5_lightSet 18 = .ok (.if_icmp .ge 48, 3) := by decide +kernel
theorem dX5_lightSet_21 : decode cX5_lightSet 21 = .ok (.iload_n 2, 1) := by decide +kernel
theorem dX5_lightSet_22 : decode cX5_lightSet 22 = .ok (.aload_n 0, 1) := by decide +kernel
theorem dX5_lightSet_23 : decode cX5_lightSet 23 = .ok (.getfield 32, 3) := by decide +kernel
theorem dX5_lightSet_26 : decode cX5_lightSet 26 = .ok (.arraylength, 1) := by decide +kernel
theorem dX5_lightSet_27 : decode cX5_lightSet 27 = .ok (.if_icmp .ge 39, 3) := by decide +kernel
theorem dX5_lightSet_30 : decode cX5_lightSet 30 = .ok (.aload_n 0, 1) := by decide +kernel
theorem dX5_lightSet_31 : decode cX5_lightSet 31 = .ok (.getfield 25, 3) := by decide +kernel
theorem dX5_lightSet_34 : decode cX5_lightSet 34 = .ok (.getfield 122, 3) := by decide +kernel
theorem dX5_lightSet_37 : decode cX5_lightSet 37 = .ok (.aload_n 0, 1) := by decide +kernel
theorem dX5_lightSet_38 : decode cX5_lightSet 38 = .ok (.getfield 32, 3) := by decide +kernel
theorem dX5_lightSet_41 : decode cX5_lightSet 41 = .ok (.iload_n 2, 1) := by decide +kernel
theorem dX5_lightSet_42 : decode cX5_lightSet 42 = .ok (.iaload, 1) := by decide +kernel
theorem dX5_lightSet_43 : decode cX5_lightSet 43 = .ok (.iload_n 1, 1) := by decide +kernel
theorem dX5_lightSet_44 : decode cX5_lightSet 44 = .ok (.iload_n 2, 1) := by decide +kernel
theorem dX5_lightSet_45 : decode cX5_lightSet 45 = .ok (.ishr, 1) := by decide +kernel
theorem dX5_lightSet_46 : decode cX5_lightSet 46 = .ok (.iconst 1, 1) := by decide +kernel
theorem dX5_lightSet_47 : decode cX5_lightSet 47 = .ok (.iand, 1) := by decide +kernel
theorem dX5_lightSet_48 : decode cX5_lightSet 48 = .ok (.iconst 1, 1) := by decide +kernel
theorem dX5_lightSet_49 : decode cX5_lightSet 49 = .ok (.if_icmp .ne 7, 3) := by decide +kernel
theorem dX5_lightSet_52 : decode cX5_lightSet 52 = .ok (.iconst 1, 1) := by decide +kernel
theorem dX5_lightSet_53 : decode cX5_lightSet 53 = .ok (.goto 4, 3) := by decide +kernel
theorem dX5_lightSet_56 : decode cX5_lightSet 56 = .ok (.iconst 0, 1) := by decide +kernel
theorem dX5_lightSet_57 : decode cX5_lightSet 57 = .ok (.invokevirtual 138, 3) := by decide +kernel
theorem dX5_lightSet_60 : decode cX5_lightSet 60 = .ok (.iinc 2 1, 3) := by decide +kernel
theorem dX5_lightSet_63 : decode cX5_lightSet 63 = .ok (.goto (-50), 3) := by decide +kernel
theorem dX5_lightSet_66 : decode cX5_lightSet 66 = .ok (.aload_n 0, 1) := by decide +kernel
theorem dX5_lightSet_67 : decode cX5_lightSet 67 = .ok (.getfield 21, 3) := by decide +kernel
theorem dX5_lightSet_70 : decode cX5_lightSet 70 = .ok (.iconst 0, 1) := by decide +kernel
theorem dX5_lightSet_71 : decode cX5_lightSet 71 = .ok (.putfield 142, 3) := by decide +kernel
theorem dX5_lightSet_74 : decode cX5_lightSet 74 = .ok (.return_, 1) := by decide +kernel
theorem dX5_note_0 : decode cX5_note 0 = .ok (.iconst 0, 1) := by decide +kernel
theorem dX5_note_1 : decode cX5_note 1 = .ok (.istore_n 3, 1) := by decide +kernel
theorem dX5_note_2 : decode cX5_note 2 = .ok (.iconst 0, 1) := by decide +kernel
theorem dX5_note_3 : decode cX5_note 3 = .ok (.istore 4, 2) := by decide +kernel
theorem dX5_note_5 : decode cX5_note 5 = .ok (.iload 4, 2) := by decide +kernel
theorem dX5_note_7 : decode cX5_note 7 = .ok (.aload_n 0, 1) := by decide +kernel
theorem dX5_note_8 : decode cX5_note 8 = .ok (.getfield 36, 3) := by decide +kernel
theorem dX5_note_11 : decode cX5_note 11 = .ok (.if_icmp .ge 42, 3) := by decide +kernel
theorem dX5_note_14 : decode cX5_note 14 = .ok (.iload 4, 2) := by decide +kernel
theorem dX5_note_16 : decode cX5_note 16 = .ok (.aload_n 0, 1) := by decide +kernel
theorem dX5_note_17 : decode cX5_note 17 = .ok (.getfield 32, 3) := by decide +kernel
theorem dX5_note_20 : decode cX5_note 20 = .ok (.arraylength, 1) := by decide +kernel
theorem dX5_note_21 : decode cX5_note 21 = .ok (.if_icmp .ge 32, 3) := by decide +kernel
theorem dX5_note_24 : decode cX5_note 24 = .ok (.iload_n 3, 1) := by decide +kernel
theorem dX5_note_25 : decode cX5_note 25 = .ok (.aload_n 0, 1) := by decide +kernel
theorem dX5_note_26 : decode cX5_note 26 = .ok (.getfield 21, 3) := by decide +kernel
theorem dX5_note_29 : decode cX5_note 29 = .ok (.getfield 142, 3) := by decide +kernel
theorem dX5_note_32 : decode cX5_note 32 = .ok (.aload_n 0, 1) := by decide +kernel
theorem dX5_note_33 : decode cX5_note 33 = .ok (.getfield 32, 3) := by decide +kernel
theorem dX5_note_36 : decode cX5_note 36 = .ok (.iload 4, 2) := by decide +kernel
theorem dX5_note_38 : decode cX5_note 38 = .ok (.iaload, 1) := by decide +kernel
theorem dX5_note_39 : decode cX5_note 39 = .ok (.ishr, 1) := by decide +kernel
theorem dX5_note_40 : decode cX5_note 40 = .ok (.iconst 1, 1) := by decide +kernel
theorem dX5_note_41 : decode cX5_note 41 = .ok (.iand, 1) := by decide +kernel
theorem dX5_note_42 : decode cX5_note 42 = .ok (.iload 4, 2) := by decide +kernel
theorem dX5_note_44 : decode cX5_note 44 = .ok (.ishl, 1) := by decide +kernel
theorem dX5_note_45 : decode cX5_note 45 = .ok (.ior, 1) := by decide +kernel
theorem dX5_note_46 : decode cX5_note 46 = .ok (.istore_n 3, 1) := by decide +kernel
theorem dX5_note_47 : decode cX5_note 47 = .ok (.iinc 4 1, 3) := by decide +kernel
theorem dX5_note_50 : decode cX5_note 50 = .ok (.goto (-45), 3) := by decide +kernel
theorem dX5_note_53 : decode cX5_note 53 = .ok (.iload_n 1, 1) := by decide +kernel
theorem dX5_note_54 : decode cX5_note 54 = .ok (.istore 4, 2) := by decide +kernel
theorem dX5_note_56 : decode cX5_note 56 = .ok (.iload 4, 2) := by decide +kernel
theorem dX5_note_58 : decode cX5_note 58 = .ok (.sipush 512, 3) := by decide +kernel
theorem dX5_note_61 : decode cX5_note 61 = .ok (.if_icmp .ge 35, 3) := by decide +kernel
theorem dX5_note_64 : decode cX5_note 64 = .ok (.aload_n 0, 1) := by decide +kernel
theorem dX5_note_65 : decode cX5_note 65 = .ok (.iload 4, 2) := by decide +kernel
theorem dX5_note_67 : decode cX5_note 67 = .ok (.invokevirtual 77, 3) := by decide +kernel
theorem dX5_note_70 : decode cX5_note 70 = .ok (.ifCond .eq 26, 3) := by decide +kernel
theorem dX5_note_73 : decode cX5_note 73 = .ok (.iload 4, 2) := by decide +kernel
theorem dX5_note_75 : decode cX5_note 75 = .ok (.iload_n 1, 1) := by decide +kernel
theorem dX5_note_76 : decode cX5_note 76 = .ok (.ixor, 1) := by decide +kernel
theorem dX5_note_77 : decode cX5_note 77 = .ok (.iload_n 3, 1) := by decide +kernel
theorem dX5_note_78 : decode cX5_note 78 = .ok (.iand, 1) := by decide +kernel
theorem dX5_note_79 : decode cX5_note 79 = .ok (.ifCond .ne 11, 3) := by decide +kernel
theorem dX5_note_82 : decode cX5_note 82 = .ok (.aload_n 0, 1) := by decide +kernel
theorem dX5_note_83 : decode cX5_note 83 = .ok (.getfield 40, 3) := by decide +kernel
theorem dX5_note_86 : decode cX5_note 86 = .ok (.iload 4, 2) := by decide +kernel
theorem dX5_note_88 : decode cX5_note 88 = .ok (.iload_n 2, 1) := by decide +kernel
theorem dX5_note_89 : decode cX5_note 89 = .ok (.iastore, 1) := by decide +kernel
theorem dX5_note_90 : decode cX5_note 90 = .ok (.iinc 4 1, 3) := by decide +kernel
theorem dX5_note_93 : decode cX5_note 93 = .ok (.goto (-37), 3) := by decide +kernel
theorem dX5_note_96 : decode cX5_note 96 = .ok (.return_, 1) := by decide +kernel
theorem dX5_lampsOf_0 : decode cX5_lampsOf 0 = .ok (.iconst 0, 1) := by decide +kernel
theorem dX5_lampsOf_1 : decode cX5_lampsOf 1 = .ok (.istore_n 2, 1) := by decide +kernel
theorem dX5_lampsOf_2 : decode cX5_lampsOf 2 = .ok (.iconst 0, 1) := by decide +kernel
theorem dX5_lampsOf_3 : decode cX5_lampsOf 3 = .ok (.istore_n 3, 1) := by decide +kernel
theorem dX5_lampsOf_4 : decode cX5_lampsOf 4 = .ok (.iload_n 3, 1) := by decide +kernel
theorem dX5_lampsOf_5 : decode cX5_lampsOf 5 = .ok (.aload_n 0, 1) := by decide +kernel
theorem dX5_lampsOf_6 : decode cX5_lampsOf 6 = .ok (.getfield 36, 3) := by decide +kernel
theorem dX5_lampsOf_9 : decode cX5_lampsOf 9 = .ok (.if_icmp .ge 33, 3) := by decide +kernel
theorem dX5_lampsOf_12 : decode cX5_lampsOf 12 = .ok (.iload_n 3, 1) := by decide +kernel
theorem dX5_lampsOf_13 : decode cX5_lampsOf 13 = .ok (.aload_n 0, 1) := by decide +kernel
theorem dX5_lampsOf_14 : decode cX5_lampsOf 14 = .ok (.getfield 32, 3) := by decide +kernel
theorem dX5_lampsOf_17 : decode cX5_lampsOf 17 = .ok (.arraylength, 1) := by decide +kernel
theorem dX5_lampsOf_18 : decode cX5_lampsOf 18 = .ok (.if_icmp .ge 24, 3) := by decide +kernel
theorem dX5_lampsOf_21 : decode cX5_lampsOf 21 = .ok (.iload_n 2, 1) := by decide +kernel
theorem dX5_lampsOf_22 : decode cX5_lampsOf 22 = .ok (.iload_n 1, 1) := by decide +kernel
theorem dX5_lampsOf_23 : decode cX5_lampsOf 23 = .ok (.iload_n 3, 1) := by decide +kernel
theorem dX5_lampsOf_24 : decode cX5_lampsOf 24 = .ok (.ishr, 1) := by decide +kernel
theorem dX5_lampsOf_25 : decode cX5_lampsOf 25 = .ok (.iconst 1, 1) := by decide +kernel
theorem dX5_lampsOf_26 : decode cX5_lampsOf 26 = .ok (.iand, 1) := by decide +kernel
theorem dX5_lampsOf_27 : decode cX5_lampsOf 27 = .ok (.aload_n 0, 1) := by decide +kernel
theorem dX5_lampsOf_28 : decode cX5_lampsOf 28 = .ok (.getfield 32, 3) := by decide +kernel
theorem dX5_lampsOf_31 : decode cX5_lampsOf 31 = .ok (.iload_n 3, 1) := by decide +kernel
theorem dX5_lampsOf_32 : decode cX5_lampsOf 32 = .ok (.iaload, 1) := by decide +kernel
theorem dX5_lampsOf_33 : decode cX5_lampsOf 33 = .ok (.ishl, 1) := by decide +kernel
theorem dX5_lampsOf_34 : decode cX5_lampsOf 34 = .ok (.ior, 1) := by decide +kernel
theorem dX5_lampsOf_35 : decode cX5_lampsOf 35 = .ok (.istore_n 2, 1) := by decide +kernel
theorem dX5_lampsOf_36 : decode cX5_lampsOf 36 = .ok (.iinc 3 1, 3) := by decide +kernel
theorem dX5_lampsOf_39 : decode cX5_lampsOf 39 = .ok (.goto (-35), 3) := by decide +kernel
theorem dX5_lampsOf_42 : decode cX5_lampsOf 42 = .ok (.iload_n 2, 1) := by decide +kernel
theorem dX5_lampsOf_43 : decode cX5_lampsOf 43 = .ok (.ireturn, 1) := by decide +kernel
theorem dX5_cameOf_0 : decode cX5_cameOf 0 = .ok (.aload_n 0, 1) := by decide +kernel
theorem dX5_cameOf_1 : decode cX5_cameOf 1 = .ok (.iload_n 1, 1) := by decide +kernel
theorem dX5_cameOf_2 : decode cX5_cameOf 2 = .ok (.invokevirtual 77, 3) := by decide +kernel
theorem dX5_cameOf_5 : decode cX5_cameOf 5 = .ok (.ifCond .eq 12, 3) := by decide +kernel
theorem dX5_cameOf_8 : decode cX5_cameOf 8 = .ok (.aload_n 0, 1) := by decide +kernel
theorem dX5_cameOf_9 : decode cX5_cameOf 9 = .ok (.getfield 40, 3) := by decide +kernel
theorem dX5_cameOf_12 : decode cX5_cameOf 12 = .ok (.iload_n 1, 1) := by decide +kernel
theorem dX5_cameOf_13 : decode cX5_cameOf 13 = .ok (.iaload, 1) := by decide +kernel
theorem dX5_cameOf_14 : decode cX5_cameOf 14 = .ok (.goto 4, 3) := by decide +kernel
theorem dX5_cameOf_17 : decode cX5_cameOf 17 = .ok (.iconst (-1), 1) := by decide +kernel
theorem dX5_cameOf_18 : decode cX5_cameOf 18 = .ok (.ireturn, 1) := by decide +kernel
theorem dX5_costOf_0 : decode cX5_costOf 0 = .ok (.aload_n 0, 1) := by decide +kernel
theorem dX5_costOf_1 : decode cX5_costOf 1 = .ok (.iload_n 1, 1) := by decide +kernel
theorem dX5_costOf_2 : decode cX5_costOf 2 = .ok (.invokevirtual 77, 3) := by decide +kernel
theorem dX5_costOf_5 : decode cX5_costOf 5 = .ok (.ifCond .eq 12, 3) := by decide +kernel
theorem dX5_costOf_8 : decode cX5_costOf 8 = .ok (.aload_n 0, 1) := by decide +kernel
theorem dX5_costOf_9 : decode cX5_costOf 9 = .ok (.getfield 43, 3) := by decide +kernel
theorem dX5_costOf_12 : decode cX5_costOf 12 = .ok (.iload_n 1, 1) := by decide +kernel
theorem dX5_costOf_13 : decode cX5_costOf 13 = .ok (.iaload, 1) := by decide +kernel
theorem dX5_costOf_14 : decode cX5_costOf 14 = .ok (.goto 4, 3) := by decide +kernel
theorem dX5_costOf_17 : decode cX5_costOf 17 = .ok (.iconst 0, 1) := by decide +kernel
theorem dX5_costOf_18 : decode cX5_costOf 18 = .ok (.ireturn, 1) := by decide +kernel
theorem dX5_isAsSeen_0 : decode cX5_isAsSeen 0 = .ok (.iconst 0, 1) := by decide +kernel
theorem dX5_isAsSeen_1 : decode cX5_isAsSeen 1 = .ok (.istore_n 2, 1) := by decide +kernel
theorem dX5_isAsSeen_2 : decode cX5_isAsSeen 2 = .ok (.iconst 0, 1) := by decide +kernel
theorem dX5_isAsSeen_3 : decode cX5_isAsSeen 3 = .ok (.istore_n 3, 1) := by decide +kernel
theorem dX5_isAsSeen_4 : decode cX5_isAsSeen 4 = .ok (.iload_n 3, 1) := by decide +kernel
theorem dX5_isAsSeen_5 : decode cX5_isAsSeen 5 = .ok (.bipush 6, 2) := by decide +kernel
theorem dX5_isAsSeen_7 : decode cX5_isAsSeen 7 = .ok (.if_icmp .ge 72, 3) := by decide +kernel
theorem dX5_isAsSeen_10 : decode cX5_isAsSeen 10 = .ok (.aload_n 0, 1) := by decide +kernel
theorem dX5_isAsSeen_11 : decode cX5_isAsSeen 11 = .ok (.getfield 12, 3) := by decide +kernel
theorem dX5_isAsSeen_14 : decode cX5_isAsSeen 14 = .ok (.getfield 92, 3) := by decide +kernel
theorem dX5_isAsSeen_17 : decode cX5_isAsSeen 17 = .ok (.iload_n 3, 1) := by decide +kernel
theorem dX5_isAsSeen_18 : decode cX5_isAsSeen 18 = .ok (.invokevirtual 145, 3) := by decide +kernel
theorem dX5_isAsSeen_21 : decode cX5_isAsSeen 21 = .ok (.ifCond .eq 52, 3) := by decide +kernel
theorem dX5_isAsSeen_24 : decode cX5_isAsSeen 24 = .ok (.aload_n 0, 1) := by decide +kernel
theorem dX5_isAsSeen_25 : decode cX5_isAsSeen 25 = .ok (.getfield 25, 3) := by decide +kernel
theorem dX5_isAsSeen_28 : decode cX5_isAsSeen 28 = .ok (.getfield 92, 3) := by decide +kernel
theorem dX5_isAsSeen_31 : decode cX5_isAsSeen 31 = .ok (.iload_n 3, 1) := by decide +kernel
theorem dX5_isAsSeen_32 : decode cX5_isAsSeen 32 = .ok (.invokevirtual 145, 3) := by decide +kernel
theorem dX5_isAsSeen_35 : decode cX5_isAsSeen 35 = .ok (.ifCond .eq 18, 3) := by decide +kernel
theorem dX5_isAsSeen_38 : decode cX5_isAsSeen 38 = .ok (.aload_n 0, 1) := by decide +kernel
theorem dX5_isAsSeen_39 : decode cX5_isAsSeen 39 = .ok (.getfield 25, 3) := by decide +kernel
theorem dX5_isAsSeen_42 : decode cX5_isAsSeen 42 = .ok (.getfield 92, 3) := by decide +kernel
theorem dX5_isAsSeen_45 : decode cX5_isAsSeen 45 = .ok (.getfield 148, 3) := by decide +kernel
theorem dX5_isAsSeen_48 : decode cX5_isAsSeen 48 = .ok (.iload_n 3, 1) := by decide +kernel
theorem dX5_isAsSeen_49 : decode cX5_isAsSeen 49 = .ok (.iaload, 1) := by decide +kernel
theorem dX5_isAsSeen_50 : decode cX5_isAsSeen 50 = .ok (.goto 6, 3) := by decide +kernel
theorem dX5_isAsSeen_53 : decode cX5_isAsSeen 53 = .ok (.sipush 255, 3) := by decide +kernel
theorem dX5_isAsSeen_56 : decode cX5_isAsSeen 56 = .ok (.istore 4, 2) := by decide +kernel
theorem dX5_isAsSeen_58 : decode cX5_isAsSeen 58 = .ok (.aload_n 1, 1) := by decide +kernel
theorem dX5_isAsSeen_59 : decode cX5_isAsSeen 59 = .ok (.iload_n 2, 1) := by decide +kernel
theorem dX5_isAsSeen_60 : decode cX5_isAsSeen 60 = .ok (.invokevirtual 151, 3) := by decide +kernel
theorem dX5_isAsSeen_63 : decode cX5_isAsSeen 63 = .ok (.iload 4, 2) := by decide +kernel
theorem dX5_isAsSeen_65 : decode cX5_isAsSeen 65 = .ok (.if_icmp .eq 5, 3) := by decide +kernel
theorem dX5_isAsSeen_68 : decode cX5_isAsSeen 68 = .ok (.iconst 0, 1) := by decide +kernel
theorem dX5_isAsSeen_69 : decode cX5_isAsSeen 69 = .ok (.ireturn, 1) := by decide +kernel
theorem dX5_isAsSeen_70 : decode cX5_isAsSeen 70 = .ok (.iinc 2 1, 3) := by decide +kernel
theorem dX5_isAsSeen_73 : decode cX5_isAsSeen 73 = .ok (.iinc 3 1, 3) := by decide +kernel
theorem dX5_isAsSeen_76 : decode cX5_isAsSeen 76 = .ok (.goto (-72), 3) := by decide +kernel
theorem dX5_isAsSeen_79 : decode cX5_isAsSeen 79 = .ok (.iconst 1, 1) := by decide +kernel
theorem dX5_isAsSeen_80 : decode cX5_isAsSeen 80 = .ok (.ireturn, 1) := by decide +kernel
theorem dX5_takeBeers_0 : decode cX5_takeBeers 0 = .ok (.iconst 0, 1) := by decide +kernel
theorem dX5_takeBeers_1 : decode cX5_takeBeers 1 = .ok (.istore_n 1, 1) := by decide +kernel
theorem dX5_takeBeers_2 : decode cX5_takeBeers 2 = .ok (.iload_n 1, 1) := by decide +kernel
theorem dX5_takeBeers_3 : decode cX5_takeBeers 3 = .ok (.bipush 9, 2) := by decide +kernel
theorem dX5_takeBeers_5 : decode cX5_takeBeers 5 = .ok (.if_icmp .ge 45, 3) := by decide +kernel
theorem dX5_takeBeers_8 : decode cX5_takeBeers 8 = .ok (.aload_n 0, 1) := by decide +kernel
theorem dX5_takeBeers_9 : decode cX5_takeBeers 9 = .ok (.getfield 46, 3) := by decide +kernel
theorem dX5_takeBeers_12 : decode cX5_takeBeers 12 = .ok (.iload_n 1, 1) := by decide +kernel
theorem dX5_takeBeers_13 : decode cX5_takeBeers 13 = .ok (.aload_n 0, 1) := by decide +kernel
theorem dX5_takeBeers_14 : decode cX5_takeBeers 14 = .ok (.getfield 12, 3) := by decide +kernel
theorem dX5_takeBeers_17 : decode cX5_takeBeers 17 = .ok (.getfield 122, 3) := by decide +kernel
theorem dX5_takeBeers_20 : decode cX5_takeBeers 20 = .ok (.iload_n 1, 1) := by decide +kernel
theorem dX5_takeBeers_21 : decode cX5_takeBeers 21 = .ok (.invokevirtual 126, 3) := by decide +kernel
theorem dX5_takeBeers_24 : decode cX5_takeBeers 24 = .ok (.ifCond .eq 18, 3) := by decide +kernel
theorem dX5_takeBeers_27 : decode cX5_takeBeers 27 = .ok (.aload_n 0, 1) := by decide +kernel
theorem dX5_takeBeers_28 : decode cX5_takeBeers 28 = .ok (.getfield 21, 3) := by decide +kernel
theorem dX5_takeBeers_31 : decode cX5_takeBeers 31 = .ok (.aload_n 0, 1) := by decide +kernel
theorem dX5_takeBeers_32 : decode cX5_takeBeers 32 = .ok (.getfield 12, 3) := by decide +kernel
theorem dX5_takeBeers_35 : decode cX5_takeBeers 35 = .ok (.iload_n 1, 1) := by decide +kernel
theorem dX5_takeBeers_36 : decode cX5_takeBeers 36 = .ok (.invokevirtual 156, 3) := by decide +kernel
theorem dX5_takeBeers_39 : decode cX5_takeBeers 39 = .ok (.goto 4, 3) := by decide +kernel
theorem dX5_takeBeers_42 : decode cX5_takeBeers 42 = .ok (.iconst 0, 1) := by decide +kernel
theorem dX5_takeBeers_43 : decode cX5_takeBeers 43 = .ok (.iastore, 1) := by decide +kernel
theorem dX5_takeBeers_44 : decode cX5_takeBeers 44 = .ok (.iinc 1 1, 3) := by decide +kernel
theorem dX5_takeBeers_47 : decode cX5_takeBeers 47 = .ok (.goto (-45), 3) := by decide +kernel
theorem dX5_takeBeers_50 : decode cX5_takeBeers 50 = .ok (.aload_n 0, 1) := by decide +kernel
theorem dX5_takeBeers_51 : decode cX5_takeBeers 51 = .ok (.invokevirtual 159, 3) := by decide +kernel
theorem dX5_takeBeers_54 : decode cX5_takeBeers 54 = .ok (.return_, 1) := by decide +kernel
theorem dX5_fillCosts_0 : decode cX5_fillCosts 0 = .ok (.aload_n 0, 1) := by decide +kernel
theorem dX5_fillCosts_1 : decode cX5_fillCosts 1 = .ok (.getfield 43, 3) := by decide +kernel
theorem dX5_fillCosts_4 : decode cX5_fillCosts 4 = .ok (.iconst 0, 1) := by decide +kernel
theorem dX5_fillCosts_5 : decode cX5_fillCosts 5 = .ok (.iconst 0, 1) := by decide +kernel
theorem dX5_fillCosts_6 : decode cX5_fillCosts 6 = .ok (.iastore, 1) := by decide +kernel
theorem dX5_fillCosts_7 : decode cX5_fillCosts 7 = .ok (.iconst 1, 1) := by decide +kernel
theorem dX5_fillCosts_8 : decode cX5_fillCosts 8 = .ok (.istore_n 1, 1) := by decide +kernel
theorem dX5_fillCosts_9 : decode cX5_fillCosts 9 = .ok (.iload_n 1, 1) := by decide +kernel
theorem dX5_fillCosts_10 : decode cX5_fillCosts 10 = .ok (.sipush 512, 3) := by decide +kernel
theorem dX5_fillCosts_13 : decode cX5_fillCosts 13 = .ok (.if_icmp .ge 84, 3) := by decide +kernel
theorem dX5_fillCosts_16 : decode cX5_fillCosts 16 = .ok (.aload_n 0, 1) := by decide +kernel
theorem dX5_fillCosts_17 : decode cX5_fillCosts 17 = .ok (.iload_n 1, 1) := by decide +kernel
theorem dX5_fillCosts_18 : decode cX5_fillCosts 18 = .ok (.invokevirtual 77, 3) := by decide +kernel
theorem dX5_fillCosts_21 : decode cX5_fillCosts 21 = .ok (.ifCond .eq 76, 3) := by decide +kernel
theorem dX5_fillCosts_24 : decode cX5_fillCosts 24 = .ok (.iload_n 1, 1) := by decide +kernel
theorem dX5_fillCosts_25 : decode cX5_fillCosts 25 = .ok (.invokestatic 162, 3) := by decide +kernel
theorem dX5_fillCosts_28 : decode cX5_fillCosts 28 = .ok (.istore_n 2, 1) := by decide +kernel
theorem dX5_fillCosts_29 : decode cX5_fillCosts 29 = .ok (.iload_n 1, 1) := by decide +kernel
theorem dX5_fillCosts_30 : decode cX5_fillCosts 30 = .ok (.iload_n 1, 1) := by decide +kernel
theorem dX5_fillCosts_31 : decode cX5_fillCosts 31 = .ok (.iconst 1, 1) := by decide +kernel
theorem dX5_fillCosts_32 : decode cX5_fillCosts 32 = .ok (.isub, 1) := by decide +kernel
theorem dX5_fillCosts_33 : decode cX5_fillCosts 33 = .ok (.iand, 1) := by decide +kernel
theorem dX5_fillCosts_34 : decode cX5_fillCosts 34 = .ok (.istore_n 3, 1) := by decide +kernel
theorem dX5_fillCosts_35 : decode cX5_fillCosts 35 = .ok (.iload_n 2, 1) := by decide +kernel
theorem dX5_fillCosts_36 : decode cX5_fillCosts 36 = .ok (.aload_n 0, 1) := by decide +kernel
theorem dX5_fillCosts_37 : decode cX5_fillCosts 37 = .ok (.getfield 32, 3) := by decide +kernel
theorem dX5_fillCosts_40 : decode cX5_fillCosts 40 = .ok (.arraylength, 1) := by decide +kernel
theorem dX5_fillCosts_41 : decode cX5_fillCosts 41 = .ok (.if_icmp .ge 12, 3) := by decide +kernel
theorem dX5_fillCosts_44 : decode cX5_fillCosts 44 = .ok (.aload_n 0, 1) := by decide +kernel
theorem dX5_fillCosts_45 : decode cX5_fillCosts 45 = .ok (.getfield 32, 3) := by decide +kernel
theorem dX5_fillCosts_48 : decode cX5_fillCosts 48 = .ok (.iload_n 2, 1) := by decide +kernel
theorem dX5_fillCosts_49 : decode cX5_fillCosts 49 = .ok (.iaload, 1) := by decide +kernel
theorem dX5_fillCosts_50 : decode cX5_fillCosts 50 = .ok (.goto 4, 3) := by decide +kernel
theorem dX5_fillCosts_53 : decode cX5_fillCosts 53 = .ok (.iconst (-1), 1) := by decide +kernel
theorem dX5_fillCosts_54 : decode cX5_fillCosts 54 = .ok (.istore 4, 2) := by decide +kernel
theorem dX5_fillCosts_56 : decode cX5_fillCosts 56 = .ok (.aload_n 0, 1) := by decide +kernel
theorem dX5_fillCosts_57 : decode cX5_fillCosts 57 = .ok (.getfield 43, 3) := by decide +kernel
theorem dX5_fillCosts_60 : decode cX5_fillCosts 60 = .ok (.iload_n 1, 1) := by decide +kernel
theorem dX5_fillCosts_61 : decode cX5_fillCosts 61 = .ok (.aload_n 0, 1) := by decide +kernel
theorem dX5_fillCosts_62 : decode cX5_fillCosts 62 = .ok (.iload_n 3, 1) := by decide +kernel
theorem dX5_fillCosts_63 : decode cX5_fillCosts 63 = .ok (.invokevirtual 167, 3) := by decide +kernel
theorem dX5_fillCosts_66 : decode cX5_fillCosts 66 = .ok (.iload 4, 2) := by decide +kernel
theorem dX5_fillCosts_68 : decode cX5_fillCosts 68 = .ok (.ifCond .lt 20, 3) := by decide +kernel
theorem dX5_fillCosts_71 : decode cX5_fillCosts 71 = .ok (.iload 4, 2) := by decide +kernel
theorem dX5_fillCosts_73 : decode cX5_fillCosts 73 = .ok (.bipush 9, 2) := by decide +kernel
theorem dX5_fillCosts_75 : decode cX5_fillCosts 75 = .ok (.if_icmp .ge 13, 3) := by decide +kernel
theorem dX5_fillCosts_78 : decode cX5_fillCosts 78 = .ok (.aload_n 0, 1) := by decide +kernel
theorem dX5_fillCosts_79 : decode cX5_fillCosts 79 = .ok (.getfield 46, 3) := by decide +kernel
theorem dX5_fillCosts_82 : decode cX5_fillCosts 82 = .ok (.iload 4, 2) := by decide +kernel
theorem dX5_fillCosts_84 : decode cX5_fillCosts 84 = .ok (.iaload, 1) := by decide +kernel
theorem dX5_fillCosts_85 : decode cX5_fillCosts 85 = .ok (.goto 4, 3) := by decide +kernel
theorem dX5_fillCosts_88 : decode cX5_fillCosts 88 = .ok (.iconst 0, 1) := by decide +kernel
theorem dX5_fillCosts_89 : decode cX5_fillCosts 89 = .ok (.iadd, 1) := by decide +kernel
theorem dX5_fillCosts_90 : decode cX5_fillCosts 90 = .ok (.iastore, 1) := by decide +kernel
theorem dX5_fillCosts_91 : decode cX5_fillCosts 91 = .ok (.iinc 1 1, 3) := by decide +kernel
theorem dX5_fillCosts_94 : decode cX5_fillCosts 94 = .ok (.goto (-85), 3) := by decide +kernel
theorem dX5_fillCosts_97 : decode cX5_fillCosts 97 = .ok (.return_, 1) := by decide +kernel
theorem dX5_planBy_0 : decode cX5_planBy 0 = .ok (.iconst 0, 1) := by decide +kernel
theorem dX5_planBy_1 : decode cX5_planBy 1 = .ok (.istore_n 2, 1) := by decide +kernel
theorem dX5_planBy_2 : decode cX5_planBy 2 = .ok (.iconst 1, 1) := by decide +kernel
theorem dX5_planBy_3 : decode cX5_planBy 3 = .ok (.istore_n 3, 1) := by decide +kernel
theorem dX5_planBy_4 : decode cX5_planBy 4 = .ok (.iload_n 3, 1) := by decide +kernel
theorem dX5_planBy_5 : decode cX5_planBy 5 = .ok (.sipush 512, 3) := by decide +kernel
theorem dX5_planBy_8 : decode cX5_planBy 8 = .ok (.if_icmp .ge 83, 3) := by decide +kernel
theorem dX5_planBy_11 : decode cX5_planBy 11 = .ok (.aload_n 0, 1) := by decide +kernel
theorem dX5_planBy_12 : decode cX5_planBy 12 = .ok (.iload_n 3, 1) := by decide +kernel
theorem dX5_planBy_13 : decode cX5_planBy 13 = .ok (.invokevirtual 77, 3) := by decide +kernel
theorem dX5_planBy_16 : decode cX5_planBy 16 = .ok (.ifCond .eq 75, 3) := by decide +kernel
theorem dX5_planBy_19 : decode cX5_planBy 19 = .ok (.aload_n 0, 1) := by decide +kernel
theorem dX5_planBy_20 : decode cX5_planBy 20 = .ok (.getfield 40, 3) := by decide +kernel
theorem dX5_planBy_23 : decode cX5_planBy 23 = .ok (.iload_n 3, 1) := by decide +kernel
theorem dX5_planBy_24 : decode cX5_planBy 24 = .ok (.iaload, 1) := by decide +kernel
theorem dX5_planBy_25 : decode cX5_planBy 25 = .ok (.aload_n 0, 1) := by decide +kernel
theorem dX5_planBy_26 : decode cX5_planBy 26 = .ok (.iload_n 2, 1) := by decide +kernel
theorem dX5_planBy_27 : decode cX5_planBy 27 = .ok (.invokevirtual 170, 3) := by decide +kernel
theorem dX5_planBy_30 : decode cX5_planBy 30 = .ok (.if_icmp .gt 31, 3) := by decide +kernel
theorem dX5_planBy_33 : decode cX5_planBy 33 = .ok (.aload_n 0, 1) := by decide +kernel
theorem dX5_planBy_34 : decode cX5_planBy 34 = .ok (.getfield 40, 3) := by decide +kernel
theorem dX5_planBy_37 : decode cX5_planBy 37 = .ok (.iload_n 3, 1) := by decide +kernel
theorem dX5_planBy_38 : decode cX5_planBy 38 = .ok (.iaload, 1) := by decide +kernel
theorem dX5_planBy_39 : decode cX5_planBy 39 = .ok (.aload_n 0, 1) := by decide +kernel
theorem dX5_planBy_40 : decode cX5_planBy 40 = .ok (.iload_n 2, 1) := by decide +kernel
theorem dX5_planBy_41 : decode cX5_planBy 41 = .ok (.invokevirtual 170, 3) := by decide +kernel
theorem dX5_planBy_44 : decode cX5_planBy 44 = .ok (.if_icmp .ne 21, 3) := by decide +kernel
theorem dX5_planBy_47 : decode cX5_planBy 47 = .ok (.aload_n 0, 1) := by decide +kernel
theorem dX5_planBy_48 : decode cX5_planBy 48 = .ok (.getfield 43, 3) := by decide +kernel
theorem dX5_planBy_51 : decode cX5_planBy 51 = .ok (.iload_n 3, 1) := by decide +kernel
theorem dX5_planBy_52 : decode cX5_planBy 52 = .ok (.iaload, 1) := by decide +kernel
theorem dX5_planBy_53 : decode cX5_planBy 53 = .ok (.aload_n 0, 1) := by decide +kernel
theorem dX5_planBy_54 : decode cX5_planBy 54 = .ok (.iload_n 2, 1) := by decide +kernel
theorem dX5_planBy_55 : decode cX5_planBy 55 = .ok (.invokevirtual 167, 3) := by decide +kernel
theorem dX5_planBy_58 : decode cX5_planBy 58 = .ok (.if_icmp .ge 7, 3) := by decide +kernel
theorem dX5_planBy_61 : decode cX5_planBy 61 = .ok (.iconst 1, 1) := by decide +kernel
theorem dX5_planBy_62 : decode cX5_planBy 62 = .ok (.goto 4, 3) := by decide +kernel
theorem dX5_planBy_65 : decode cX5_planBy 65 = .ok (.iconst 0, 1) := by decide +kernel
theorem dX5_planBy_66 : decode cX5_planBy 66 = .ok (.istore 4, 2) := by decide +kernel
theorem dX5_planBy_68 : decode cX5_planBy 68 = .ok (.aload_n 0, 1) := by decide +kernel
theorem dX5_planBy_69 : decode cX5_planBy 69 = .ok (.getfield 43, 3) := by decide +kernel
theorem dX5_planBy_72 : decode cX5_planBy 72 = .ok (.iload_n 3, 1) := by decide +kernel
theorem dX5_planBy_73 : decode cX5_planBy 73 = .ok (.iaload, 1) := by decide +kernel
theorem dX5_planBy_74 : decode cX5_planBy 74 = .ok (.iload_n 1, 1) := by decide +kernel
theorem dX5_planBy_75 : decode cX5_planBy 75 = .ok (.if_icmp .gt 10, 3) := by decide +kernel
theorem dX5_planBy_78 : decode cX5_planBy 78 = .ok (.iload 4, 2) := by decide +kernel
theorem dX5_planBy_80 : decode cX5_planBy 80 = .ok (.ifCond .eq 5, 3) := by decide +kernel
theorem dX5_planBy_83 : decode cX5_planBy 83 = .ok (.iload_n 3, 1) := by decide +kernel
theorem dX5_planBy_84 : decode cX5_planBy 84 = .ok (.istore_n 2, 1) := by decide +kernel
theorem dX5_planBy_85 : decode cX5_planBy 85 = .ok (.iinc 3 1, 3) := by decide +kernel
theorem dX5_planBy_88 : decode cX5_planBy 88 = .ok (.goto (-84), 3) := by decide +kernel
theorem dX5_planBy_91 : decode cX5_planBy 91 = .ok (.iload_n 2, 1) := by decide +kernel
theorem dX5_planBy_92 : decode cX5_planBy 92 = .ok (.ireturn, 1) := by decide +kernel
theorem dX5_safeSet_0 : decode cX5_safeSet 0 = .ok (.aload_n 0, 1) := by decide +kernel
theorem dX5_safeSet_1 : decode cX5_safeSet 1 = .ok (.getfield 12, 3) := by decide +kernel
theorem dX5_safeSet_4 : decode cX5_safeSet 4 = .ok (.getfield 92, 3) := by decide +kernel
theorem dX5_safeSet_7 : decode cX5_safeSet 7 = .ok (.invokevirtual 96, 3) := by decide +kernel
theorem dX5_safeSet_10 : decode cX5_safeSet 10 = .ok (.istore_n 1, 1) := by decide +kernel
theorem dX5_safeSet_11 : decode cX5_safeSet 11 = .ok (.iconst (-1), 1) := by decide +kernel
theorem dX5_safeSet_12 : decode cX5_safeSet 12 = .ok (.istore_n 2, 1) := by decide +kernel
theorem dX5_safeSet_13 : decode cX5_safeSet 13 = .ok (.iconst 0, 1) := by decide +kernel
theorem dX5_safeSet_14 : decode cX5_safeSet 14 = .ok (.istore_n 3, 1) := by decide +kernel
theorem dX5_safeSet_15 : decode cX5_safeSet 15 = .ok (.iload_n 3, 1) := by decide +kernel
theorem dX5_safeSet_16 : decode cX5_safeSet 16 = .ok (.sipush 512, 3) := by decide +kernel
theorem dX5_safeSet_19 : decode cX5_safeSet 19 = .ok (.if_icmp .ge 51, 3) := by decide +kernel
theorem dX5_safeSet_22 : decode cX5_safeSet 22 = .ok (.aload_n 0, 1) := by decide +kernel
theorem dX5_safeSet_23 : decode cX5_safeSet 23 = .ok (.iload_n 3, 1) := by decide +kernel
theorem dX5_safeSet_24 : decode cX5_safeSet 24 = .ok (.invokevirtual 77, 3) := by decide +kernel
theorem dX5_safeSet_27 : decode cX5_safeSet 27 = .ok (.ifCond .eq 43, 3) := by decide +kernel
theorem dX5_safeSet_30 : decode cX5_safeSet 30 = .ok (.aload_n 0, 1) := by decide +kernel
theorem dX5_safeSet_31 : decode cX5_safeSet 31 = .ok (.getfield 40, 3) := by decide +kernel
theorem dX5_safeSet_34 : decode cX5_safeSet 34 = .ok (.iload_n 3, 1) := by decide +kernel
theorem dX5_safeSet_35 : decode cX5_safeSet 35 = .ok (.iaload, 1) := by decide +kernel
theorem dX5_safeSet_36 : decode cX5_safeSet 36 = .ok (.iload_n 1, 1) := by decide +kernel
theorem dX5_safeSet_37 : decode cX5_safeSet 37 = .ok (.if_icmp .ne 27, 3) := by decide +kernel
theorem dX5_safeSet_40 : decode cX5_safeSet 40 = .ok (.aload_n 0, 1) := by decide +kernel
theorem dX5_safeSet_41 : decode cX5_safeSet 41 = .ok (.iload_n 2, 1) := by decide +kernel
theorem dX5_safeSet_42 : decode cX5_safeSet 42 = .ok (.invokevirtual 77, 3) := by decide +kernel
theorem dX5_safeSet_45 : decode cX5_safeSet 45 = .ok (.ifCond .eq 17, 3) := by decide +kernel
theorem dX5_safeSet_48 : decode cX5_safeSet 48 = .ok (.aload_n 0, 1) := by decide +kernel
theorem dX5_safeSet_49 : decode cX5_safeSet 49 = .ok (.getfield 43, 3) := by decide +kernel
theorem dX5_safeSet_52 : decode cX5_safeSet 52 = .ok (.iload_n 3, 1) := by decide +kernel
theorem dX5_safeSet_53 : decode cX5_safeSet 53 = .ok (.iaload, 1) := by decide +kernel
theorem dX5_safeSet_54 : decode cX5_safeSet 54 = .ok (.aload_n 0, 1) := by decide +kernel
theorem dX5_safeSet_55 : decode cX5_safeSet 55 = .ok (.iload_n 2, 1) := by decide +kernel
theorem dX5_safeSet_56 : decode cX5_safeSet 56 = .ok (.invokevirtual 167, 3) := by decide +kernel
theorem dX5_safeSet_59 : decode cX5_safeSet 59 = .ok (.if_icmp .ge 5, 3) := by decide +kernel
theorem dX5_safeSet_62 : decode cX5_safeSet 62 = .ok (.iload_n 3, 1) := by decide +kernel
theorem dX5_safeSet_63 : decode cX5_safeSet 63 = .ok (.istore_n 2, 1) := by decide +kernel
theorem dX5_safeSet_64 : decode cX5_safeSet 64 = .ok (.iinc 3 1, 3) := by decide +kernel
theorem dX5_safeSet_67 : decode cX5_safeSet 67 = .ok (.goto (-52), 3) := by decide +kernel
theorem dX5_safeSet_70 : decode cX5_safeSet 70 = .ok (.iload_n 2, 1) := by decide +kernel
theorem dX5_safeSet_71 : decode cX5_safeSet 71 = .ok (.ireturn, 1) := by decide +kernel
theorem dX5_fillGains_0 : decode cX5_fillGains 0 = .ok (.iload_n 1, 1) := by decide +kernel
theorem dX5_fillGains_1 : decode cX5_fillGains 1 = .ok (.iconst 0, 1) := by decide +kernel
theorem dX5_fillGains_2 : decode cX5_fillGains 2 = .ok (.bipush 8, 2) := by decide +kernel
theorem dX5_fillGains_4 : decode cX5_fillGains 4 = .ok (.invokestatic 173, 3) := by decide +kernel
theorem dX5_fillGains_7 : decode cX5_fillGains 7 = .ok (.ifCond .eq 13, 3) := by decide +kernel
theorem dX5_fillGains_10 : decode cX5_fillGains 10 = .ok (.iload_n 2, 1) := by decide +kernel
theorem dX5_fillGains_11 : decode cX5_fillGains 11 = .ok (.iconst 0, 1) := by decide +kernel
theorem dX5_fillGains_12 : decode cX5_fillGains 12 = .ok (.bipush 8, 2) := by decide +kernel
theorem dX5_fillGains_14 : decode cX5_fillGains 14 = .ok (.invokestatic 173, 3) := by decide +kernel
theorem dX5_fillGains_17 : decode cX5_fillGains 17 = .ok (.ifCond .ne 4, 3) := by decide +kernel
theorem dX5_fillGains_20 : decode cX5_fillGains 20 = .ok (.return_, 1) := by decide +kernel
theorem dX5_fillGains_21 : decode cX5_fillGains 21 = .ok (.iconst 0, 1) := by decide +kernel
theorem dX5_fillGains_22 : decode cX5_fillGains 22 = .ok (.istore 4, 2) := by decide +kernel
theorem dX5_fillGains_24 : decode cX5_fillGains 24 = .ok (.iload 4, 2) := by decide +kernel
theorem dX5_fillGains_26 : decode cX5_fillGains 26 = .ok (.bipush 25, 2) := by decide +kernel
theorem dX5_fillGains_28 : decode cX5_fillGains 28 = .ok (.if_icmp .ge 88, 3) := by decide +kernel
theorem dX5_fillGains_31 : decode cX5_fillGains 31 = .ok (.aload_n 0, 1) := by decide +kernel
theorem dX5_fillGains_32 : decode cX5_fillGains 32 = .ok (.getfield 46, 3) := by decide +kernel
theorem dX5_fillGains_35 : decode cX5_fillGains 35 = .ok (.iload_n 1, 1) := by decide +kernel
theorem dX5_fillGains_36 : decode cX5_fillGains 36 = .ok (.iload 4, 2) := by decide +kernel
theorem dX5_fillGains_38 : decode cX5_fillGains 38 = .ok (.iconst 5, 1) := by decide +kernel
theorem dX5_fillGains_39 : decode cX5_fillGains 39 = .ok (.idiv, 1) := by decide +kernel
theorem dX5_fillGains_40 : decode cX5_fillGains 40 = .ok (.iconst 1, 1) := by decide +kernel
theorem dX5_fillGains_41 : decode cX5_fillGains 41 = .ok (.iadd, 1) := by decide +kernel
theorem dX5_fillGains_42 : decode cX5_fillGains 42 = .ok (.iastore, 1) := by decide +kernel
theorem dX5_fillGains_43 : decode cX5_fillGains 43 = .ok (.aload_n 0, 1) := by decide +kernel
theorem dX5_fillGains_44 : decode cX5_fillGains 44 = .ok (.getfield 46, 3) := by decide +kernel
theorem dX5_fillGains_47 : decode cX5_fillGains 47 = .ok (.iload_n 2, 1) := by decide +kernel
theorem dX5_fillGains_48 : decode cX5_fillGains 48 = .ok (.iload 4, 2) := by decide +kernel
theorem dX5_fillGains_50 : decode cX5_fillGains 50 = .ok (.iconst 5, 1) := by decide +kernel
theorem dX5_fillGains_51 : decode cX5_fillGains 51 = .ok (.irem, 1) := by decide +kernel
theorem dX5_fillGains_52 : decode cX5_fillGains 52 = .ok (.iconst 1, 1) := by decide +kernel
theorem dX5_fillGains_53 : decode cX5_fillGains 53 = .ok (.iadd, 1) := by decide +kernel
theorem dX5_fillGains_54 : decode cX5_fillGains 54 = .ok (.iastore, 1) := by decide +kernel
theorem dX5_fillGains_55 : decode cX5_fillGains 55 = .ok (.aload_n 0, 1) := by decide +kernel
theorem dX5_fillGains_56 : decode cX5_fillGains 56 = .ok (.invokevirtual 159, 3) := by decide +kernel
theorem dX5_fillGains_59 : decode cX5_fillGains 59 = .ok (.aload_n 0, 1) := by decide +kernel
theorem dX5_fillGains_60 : decode cX5_fillGains 60 = .ok (.aload_n 0, 1) := by decide +kernel
theorem dX5_fillGains_61 : decode cX5_fillGains 61 = .ok (.iload_n 3, 1) := by decide +kernel
theorem dX5_fillGains_62 : decode cX5_fillGains 62 = .ok (.invokevirtual 177, 3) := by decide +kernel
theorem dX5_fillGains_65 : decode cX5_fillGains 65 = .ok (.invokevirtual 115, 3) := by decide +kernel
theorem dX5_fillGains_68 : decode cX5_fillGains 68 = .ok (.istore 5, 2) := by decide +kernel
theorem dX5_fillGains_70 : decode cX5_fillGains 70 = .ok (.aload_n 0, 1) := by decide +kernel
theorem dX5_fillGains_71 : decode cX5_fillGains 71 = .ok (.getfield 49, 3) := by decide +kernel
theorem dX5_fillGains_74 : decode cX5_fillGains 74 = .ok (.iload 4, 2) := by decide +kernel
theorem dX5_fillGains_76 : decode cX5_fillGains 76 = .ok (.iload 5, 2) := by decide +kernel
theorem dX5_fillGains_78 : decode cX5_fillGains 78 = .ok (.iload_n 1, 1) := by decide +kernel
theorem dX5_fillGains_79 : decode cX5_fillGains 79 = .ok (.ishr, 1) := by decide +kernel
theorem dX5_fillGains_80 : decode cX5_fillGains 80 = .ok (.iconst 1, 1) := by decide +kernel
theorem dX5_fillGains_81 : decode cX5_fillGains 81 = .ok (.iand, 1) := by decide +kernel
theorem dX5_fillGains_82 : decode cX5_fillGains 82 = .ok (.aload_n 0, 1) := by decide +kernel
theorem dX5_fillGains_83 : decode cX5_fillGains 83 = .ok (.getfield 46, 3) := by decide +kernel
theorem dX5_fillGains_86 : decode cX5_fillGains 86 = .ok (.iload_n 1, 1) := by decide +kernel
theorem dX5_fillGains_87 : decode cX5_fillGains 87 = .ok (.iaload, 1) := by decide +kernel
theorem dX5_fillGains_88 : decode cX5_fillGains 88 = .ok (.imul, 1) := by decide +kernel
theorem dX5_fillGains_89 : decode cX5_fillGains 89 = .ok (.iastore, 1) := by decide +kernel
theorem dX5_fillGains_90 : decode cX5_fillGains 90 = .ok (.aload_n 0, 1) := by decide +kernel
theorem dX5_fillGains_91 : decode cX5_fillGains 91 = .ok (.getfield 52, 3) := by decide +kernel
theorem dX5_fillGains_94 : decode cX5_fillGains 94 = .ok (.iload 4, 2) := by decide +kernel
theorem dX5_fillGains_96 : decode cX5_fillGains 96 = .ok (.iload 5, 2) := by decide +kernel
theorem dX5_fillGains_98 : decode cX5_fillGains 98 = .ok (.iload_n 2, 1) := by decide +kernel
theorem dX5_fillGains_99 : decode cX5_fillGains 99 = .ok (.ishr, 1) := by decide +kernel
theorem dX5_fillGains_100 : decode cX5_fillGains 100 = .ok (.iconst 1, 1) := by decide +kernel
theorem dX5_fillGains_101 : decode cX5_fillGains 101 = .ok (.iand, 1) := by decide +kernel
theorem dX5_fillGains_102 : decode cX5_fillGains 102 = .ok (.aload_n 0, 1) := by decide +kernel
theorem dX5_fillGains_103 : decode cX5_fillGains 103 = .ok (.getfield 46, 3) := by decide +kernel
theorem dX5_fillGains_106 : decode cX5_fillGains 106 = .ok (.iload_n 2, 1) := by decide +kernel
theorem dX5_fillGains_107 : decode cX5_fillGains 107 = .ok (.iaload, 1) := by decide +kernel
theorem dX5_fillGains_108 : decode cX5_fillGains 108 = .ok (.imul, 1) := by decide +kernel
theorem dX5_fillGains_109 : decode cX5_fillGains 109 = .ok (.iastore, 1) := by decide +kernel
theorem dX5_fillGains_110 : decode cX5_fillGains 110 = .ok (.iinc 4 1, 3) := by decide +kernel
theorem dX5_fillGains_113 : decode cX5_fillGains 113 = .ok (.goto (-89), 3) := by decide +kernel
theorem dX5_fillGains_116 : decode cX5_fillGains 116 = .ok (.return_, 1) := by decide +kernel
theorem dX5_findRest_0 : decode cX5_findRest 0 = .ok (.aload_n 0, 1) := by decide +kernel
theorem dX5_findRest_1 : decode cX5_findRest 1 = .ok (.invokevirtual 108, 3) := by decide +kernel
theorem dX5_findRest_4 : decode cX5_findRest 4 = .ok (.iconst 0, 1) := by decide +kernel
theorem dX5_findRest_5 : decode cX5_findRest 5 = .ok (.istore_n 1, 1) := by decide +kernel
theorem dX5_findRest_6 : decode cX5_findRest 6 = .ok (.iload_n 1, 1) := by decide +kernel
theorem dX5_findRest_7 : decode cX5_findRest 7 = .ok (.bipush 25, 2) := by decide +kernel
theorem dX5_findRest_9 : decode cX5_findRest 9 = .ok (.if_icmp .ge 91, 3) := by decide +kernel
theorem dX5_findRest_12 : decode cX5_findRest 12 = .ok (.iconst 1, 1) := by decide +kernel
theorem dX5_findRest_13 : decode cX5_findRest 13 = .ok (.istore_n 2, 1) := by decide +kernel
theorem dX5_findRest_14 : decode cX5_findRest 14 = .ok (.iconst 0, 1) := by decide +kernel
theorem dX5_findRest_15 : decode cX5_findRest 15 = .ok (.istore_n 3, 1) := by decide +kernel
theorem dX5_findRest_16 : decode cX5_findRest 16 = .ok (.iload_n 3, 1) := by decide +kernel
theorem dX5_findRest_17 : decode cX5_findRest 17 = .ok (.iconst 5, 1) := by decide +kernel
theorem dX5_findRest_18 : decode cX5_findRest 18 = .ok (.if_icmp .ge 67, 3) := by decide +kernel
theorem dX5_findRest_21 : decode cX5_findRest 21 = .ok (.iload_n 2, 1) := by decide +kernel
theorem dX5_findRest_22 : decode cX5_findRest 22 = .ok (.aload_n 0, 1) := by decide +kernel
theorem dX5_findRest_23 : decode cX5_findRest 23 = .ok (.getfield 49, 3) := by decide +kernel
theorem dX5_findRest_26 : decode cX5_findRest 26 = .ok (.iconst 5, 1) := by decide +kernel
theorem dX5_findRest_27 : decode cX5_findRest 27 = .ok (.iload_n 3, 1) := by decide +kernel
theorem dX5_findRest_28 : decode cX5_findRest 28 = .ok (.imul, 1) := by decide +kernel
theorem dX5_findRest_29 : decode cX5_findRest 29 = .ok (.iload_n 1, 1) := by decide +kernel
theorem dX5_findRest_30 : decode cX5_findRest 30 = .ok (.iconst 5, 1) := by decide +kernel
theorem dX5_findRest_31 : decode cX5_findRest 31 = .ok (.irem, 1) := by decide +kernel
theorem dX5_findRest_32 : decode cX5_findRest 32 = .ok (.iadd, 1) := by decide +kernel
theorem dX5_findRest_33 : decode cX5_findRest 33 = .ok (.iaload, 1) := by decide +kernel
theorem dX5_findRest_34 : decode cX5_findRest 34 = .ok (.aload_n 0, 1) := by decide +kernel
theorem dX5_findRest_35 : decode cX5_findRest 35 = .ok (.getfield 49, 3) := by decide +kernel
theorem dX5_findRest_38 : decode cX5_findRest 38 = .ok (.iload_n 1, 1) := by decide +kernel
theorem dX5_findRest_39 : decode cX5_findRest 39 = .ok (.iaload, 1) := by decide +kernel
theorem dX5_findRest_40 : decode cX5_findRest 40 = .ok (.if_icmp .gt 7, 3) := by decide +kernel
theorem dX5_findRest_43 : decode cX5_findRest 43 = .ok (.iconst 1, 1) := by decide +kernel
theorem dX5_findRest_44 : decode cX5_findRest 44 = .ok (.goto 4, 3) := by decide +kernel
theorem dX5_findRest_47 : decode cX5_findRest 47 = .ok (.iconst 0, 1) := by decide +kernel
theorem dX5_findRest_48 : decode cX5_findRest 48 = .ok (.iand, 1) := by decide +kernel
theorem dX5_findRest_49 : decode cX5_findRest 49 = .ok (.istore_n 2, 1) := by decide +kernel
theorem dX5_findRest_50 : decode cX5_findRest 50 = .ok (.iload_n 2, 1) := by decide +kernel
theorem dX5_findRest_51 : decode cX5_findRest 51 = .ok (.aload_n 0, 1) := by decide +kernel
theorem dX5_findRest_52 : decode cX5_findRest 52 = .ok (.getfield 52, 3) := by decide +kernel
theorem dX5_findRest_55 : decode cX5_findRest 55 = .ok (.iload_n 1, 1) := by decide +kernel
theorem dX5_findRest_56 : decode cX5_findRest 56 = .ok (.iload_n 1, 1) := by decide +kernel
theorem dX5_findRest_57 : decode cX5_findRest 57 = .ok (.iconst 5, 1) := by decide +kernel
theorem dX5_findRest_58 : decode cX5_findRest 58 = .ok (.irem, 1) := by decide +kernel
theorem dX5_findRest_59 : decode cX5_findRest 59 = .ok (.isub, 1) := by decide +kernel
theorem dX5_findRest_60 : decode cX5_findRest 60 = .ok (.iload_n 3, 1) := by decide +kernel
theorem dX5_findRest_61 : decode cX5_findRest 61 = .ok (.iadd, 1) := by decide +kernel
theorem dX5_findRest_62 : decode cX5_findRest 62 = .ok (.iaload, 1) := by decide +kernel
theorem dX5_findRest_63 : decode cX5_findRest 63 = .ok (.aload_n 0, 1) := by decide +kernel
theorem dX5_findRest_64 : decode cX5_findRest 64 = .ok (.getfield 52, 3) := by decide +kernel
theorem dX5_findRest_67 : decode cX5_findRest 67 = .ok (.iload_n 1, 1) := by decide +kernel
theorem dX5_findRest_68 : decode cX5_findRest 68 = .ok (.iaload, 1) := by decide +kernel
theorem dX5_findRest_69 : decode cX5_findRest 69 = .ok (.if_icmp .gt 7, 3) := by decide +kernel
theorem dX5_findRest_72 : decode cX5_findRest 72 = .ok (.iconst 1, 1) := by decide +kernel
theorem dX5_findRest_73 : decode cX5_findRest 73 = .ok (.goto 4, 3) := by decide +kernel
theorem dX5_findRest_76 : decode cX5_findRest 76 = .ok (.iconst 0, 1) := by decide +kernel
theorem dX5_findRest_77 : decode cX5_findRest 77 = .ok (.iand, 1) := by decide +kernel
theorem dX5_findRest_78 : decode cX5_findRest 78 = .ok (.istore_n 2, 1) := by decide +kernel
theorem dX5_findRest_79 : decode cX5_findRest 79 = .ok (.iinc 3 1, 3) := by decide +kernel
theorem dX5_findRest_82 : decode cX5_findRest 82 = .ok (.goto (-66), 3) := by decide +kernel
theorem dX5_findRest_85 : decode cX5_findRest 85 = .ok (.iload_n 2, 1) := by decide +kernel
theorem dX5_findRest_86 : decode cX5_findRest 86 = .ok (.ifCond .eq 8, 3) := by decide +kernel
theorem dX5_findRest_89 : decode cX5_findRest 89 = .ok (.aload_n 0, 1) := by decide +kernel
theorem dX5_findRest_90 : decode cX5_findRest 90 = .ok (.iload_n 1, 1) := by decide +kernel
theorem dX5_findRest_91 : decode cX5_findRest 91 = .ok (.invokevirtual 119, 3) := by decide +kernel
theorem dX5_findRest_94 : decode cX5_findRest 94 = .ok (.iinc 1 1, 3) := by decide +kernel
theorem dX5_findRest_97 : decode cX5_findRest 97 = .ok (.goto (-91), 3) := by decide +kernel
theorem dX5_findRest_100 : decode cX5_findRest 100 = .ok (.return_, 1) := by decide +kernel
theorem dX5_findPlace_0 : decode cX5_findPlace 0 = .ok (.aload_n 0, 1) := by decide +kernel
theorem dX5_findPlace_1 : decode cX5_findPlace 1 = .ok (.invokevirtual 108, 3) := by decide +kernel
theorem dX5_findPlace_4 : decode cX5_findPlace 4 = .ok (.iconst 0, 1) := by decide +kernel
theorem dX5_findPlace_5 : decode cX5_findPlace 5 = .ok (.istore_n 2, 1) := by decide +kernel
theorem dX5_findPlace_6 : decode cX5_findPlace 6 = .ok (.iload_n 2, 1) := by decide +kernel
theorem dX5_findPlace_7 : decode cX5_findPlace 7 = .ok (.sipush 196, 3) := by decide +kernel
theorem dX5_findPlace_10 : decode cX5_findPlace 10 = .ok (.if_icmp .ge 129, 3) := by decide +kernel
theorem dX5_findPlace_13 : decode cX5_findPlace 13 = .ok (.aload_n 0, 1) := by decide +kernel
theorem dX5_findPlace_14 : decode cX5_findPlace 14 = .ok (.getfield 12, 3) := by decide +kernel
theorem dX5_findPlace_17 : decode cX5_findPlace 17 = .ok (.iload_n 2, 1) := by decide +kernel
theorem dX5_findPlace_18 : decode cX5_findPlace 18 = .ok (.invokevirtual 180, 3) := by decide +kernel
theorem dX5_findPlace_21 : decode cX5_findPlace 21 = .ok (.iconst 3, 1) := by decide +kernel
theorem dX5_findPlace_22 : decode cX5_findPlace 22 = .ok (.if_icmp .eq 111, 3) := by decide +kernel
theorem dX5_findPlace_25 : decode cX5_findPlace 25 = .ok (.aload_n 0, 1) := by decide +kernel
theorem dX5_findPlace_26 : decode cX5_findPlace 26 = .ok (.getfield 12, 3) := by decide +kernel
theorem dX5_findPlace_29 : decode cX5_findPlace 29 = .ok (.getfield 122, 3) := by decide +kernel
theorem dX5_findPlace_32 : decode cX5_findPlace 32 = .ok (.iload_n 1, 1) := by decide +kernel
theorem dX5_findPlace_33 : decode cX5_findPlace 33 = .ok (.invokevirtual 126, 3) := by decide +kernel
theorem dX5_findPlace_36 : decode cX5_findPlace 36 = .ok (.ifCond .ne 6, 3) := by decide +kernel
theorem dX5_findPlace_39 : decode cX5_findPlace 39 = .ok (.goto 94, 3) := by decide +kernel
theorem dX5_findPlace_42 : decode cX5_findPlace 42 = .ok (.aload_n 0, 1) := by decide +kernel
theorem dX5_findPlace_43 : decode cX5_findPlace 43 = .ok (.getfield 25, 3) := by decide +kernel
theorem dX5_findPlace_46 : decode cX5_findPlace 46 = .ok (.aload_n 0, 1) := by decide +kernel
theorem dX5_findPlace_47 : decode cX5_findPlace 47 = .ok (.getfield 12, 3) := by decide +kernel
theorem dX5_findPlace_50 : decode cX5_findPlace 50 = .ok (.invokevirtual 134, 3) := by decide +kernel
theorem dX5_findPlace_53 : decode cX5_findPlace 53 = .ok (.aload_n 0, 1) := by decide +kernel
theorem dX5_findPlace_54 : decode cX5_findPlace 54 = .ok (.getfield 25, 3) := by decide +kernel
theorem dX5_findPlace_57 : decode cX5_findPlace 57 = .ok (.getfield 122, 3) := by decide +kernel
theorem dX5_findPlace_60 : decode cX5_findPlace 60 = .ok (.iload_n 1, 1) := by decide +kernel
theorem dX5_findPlace_61 : decode cX5_findPlace 61 = .ok (.iconst 1, 1) := by decide +kernel
theorem dX5_findPlace_62 : decode cX5_findPlace 62 = .ok (.invokevirtual 138, 3) := by decide +kernel
theorem dX5_findPlace_65 : decode cX5_findPlace 65 = .ok (.aload_n 0, 1) := by decide +kernel
theorem dX5_findPlace_66 : decode cX5_findPlace 66 = .ok (.getfield 25, 3) := by decide +kernel
theorem dX5_findPlace_69 : decode cX5_findPlace 69 = .ok (.getfield 122, 3) := by decide +kernel
theorem dX5_findPlace_72 : decode cX5_findPlace 72 = .ok (.getfield 183, 3) := by decide +kernel
theorem dX5_findPlace_75 : decode cX5_findPlace 75 = .ok (.iload_n 1, 1) := by decide +kernel
theorem dX5_findPlace_76 : decode cX5_findPlace 76 = .ok (.iload_n 2, 1) := by decide +kernel
theorem dX5_findPlace_77 : decode cX5_findPlace 77 = .ok (.iastore, 1) := by decide +kernel
theorem dX5_findPlace_78 : decode cX5_findPlace 78 = .ok (.aload_n 0, 1) := by decide +kernel
theorem dX5_findPlace_79 : decode cX5_findPlace 79 = .ok (.getfield 21, 3) := by decide +kernel
theorem dX5_findPlace_82 : decode cX5_findPlace 82 = .ok (.aload_n 0, 1) := by decide +kernel
theorem dX5_findPlace_83 : decode cX5_findPlace 83 = .ok (.getfield 25, 3) := by decide +kernel
theorem dX5_findPlace_86 : decode cX5_findPlace 86 = .ok (.aload_n 0, 1) := by decide +kernel
theorem dX5_findPlace_87 : decode cX5_findPlace 87 = .ok (.getfield 12, 3) := by decide +kernel
theorem dX5_findPlace_90 : decode cX5_findPlace 90 = .ok (.invokevirtual 84, 3) := by decide +kernel
theorem dX5_findPlace_93 : decode cX5_findPlace 93 = .ok (.invokevirtual 88, 3) := by decide +kernel
theorem dX5_findPlace_96 : decode cX5_findPlace 96 = .ok (.pop, 1) := by decide +kernel
theorem dX5_findPlace_97 : decode cX5_findPlace 97 = .ok (.aload_n 0, 1) := by decide +kernel
theorem dX5_findPlace_98 : decode cX5_findPlace 98 = .ok (.getfield 25, 3) := by decide +kernel
theorem dX5_findPlace_101 : decode cX5_findPlace 101 = .ok (.getfield 92, 3) := by decide +kernel
theorem dX5_findPlace_104 : decode cX5_findPlace 104 = .ok (.invokevirtual 96, 3) := by decide +kernel
theorem dX5_findPlace_107 : decode cX5_findPlace 107 = .ok (.aload_n 0, 1) := by decide +kernel
theorem dX5_findPlace_108 : decode cX5_findPlace 108 = .ok (.getfield 64, 3) := by decide +kernel
theorem dX5_findPlace_111 : decode cX5_findPlace 111 = .ok (.if_icmp .le 22, 3) := by decide +kernel
theorem dX5_findPlace_114 : decode cX5_findPlace 114 = .ok (.aload_n 0, 1) := by decide +kernel
theorem dX5_findPlace_115 : decode cX5_findPlace 115 = .ok (.aload_n 0, 1) := by decide +kernel
theorem dX5_findPlace_116 : decode cX5_findPlace 116 = .ok (.getfield 25, 3) := by decide +kernel
theorem dX5_findPlace_119 : decode cX5_findPlace 119 = .ok (.getfield 92, 3) := by decide +kernel
theorem dX5_findPlace_122 : decode cX5_findPlace 122 = .ok (.invokevirtual 96, 3) := by decide +kernel
theorem dX5_findPlace_125 : decode cX5_findPlace 125 = .ok (.putfield 64, 3) := by decide +kernel
theorem dX5_findPlace_128 : decode cX5_findPlace 128 = .ok (.aload_n 0, 1) := by decide +kernel
theorem dX5_findPlace_129 : decode cX5_findPlace 129 = .ok (.iload_n 2, 1) := by decide +kernel
theorem dX5_findPlace_130 : decode cX5_findPlace 130 = .ok (.putfield 58, 3) := by decide +kernel
theorem dX5_findPlace_133 : decode cX5_findPlace 133 = .ok (.iinc 2 1, 3) := by decide +kernel
theorem dX5_findPlace_136 : decode cX5_findPlace 136 = .ok (.goto (-130), 3) := by decide +kernel
theorem dX5_findPlace_139 : decode cX5_findPlace 139 = .ok (.return_, 1) := by decide +kernel
theorem dX5_findWhere_0 : decode cX5_findWhere 0 = .ok (.aload_n 0, 1) := by decide +kernel
theorem dX5_findWhere_1 : decode cX5_findWhere 1 = .ok (.invokevirtual 108, 3) := by decide +kernel
theorem dX5_findWhere_4 : decode cX5_findWhere 4 = .ok (.iconst 0, 1) := by decide +kernel
theorem dX5_findWhere_5 : decode cX5_findWhere 5 = .ok (.istore 4, 2) := by decide +kernel
theorem dX5_findWhere_7 : decode cX5_findWhere 7 = .ok (.iload 4, 2) := by decide +kernel
theorem dX5_findWhere_9 : decode cX5_findWhere 9 = .ok (.sipush 196, 3) := by decide +kernel
theorem dX5_findWhere_12 : decode cX5_findWhere 12 = .ok (.if_icmp .ge 113, 3) := by decide +kernel
theorem dX5_findWhere_15 : decode cX5_findWhere 15 = .ok (.aload_n 0, 1) := by decide +kernel
theorem dX5_findWhere_16 : decode cX5_findWhere 16 = .ok (.getfield 12, 3) := by decide +kernel
theorem dX5_findWhere_19 : decode cX5_findWhere 19 = .ok (.iload 4, 2) := by decide +kernel
theorem dX5_findWhere_21 : decode cX5_findWhere 21 = .ok (.invokevirtual 180, 3) := by decide +kernel
theorem dX5_findWhere_24 : decode cX5_findWhere 24 = .ok (.iconst 3, 1) := by decide +kernel
theorem dX5_findWhere_25 : decode cX5_findWhere 25 = .ok (.if_icmp .eq 94, 3) := by decide +kernel
theorem dX5_findWhere_28 : decode cX5_findWhere 28 = .ok (.aload_n 0, 1) := by decide +kernel
theorem dX5_findWhere_29 : decode cX5_findWhere 29 = .ok (.getfield 12, 3) := by decide +kernel
theorem dX5_findWhere_32 : decode cX5_findWhere 32 = .ok (.getfield 92, 3) := by decide +kernel
theorem dX5_findWhere_35 : decode cX5_findWhere 35 = .ok (.iload_n 1, 1) := by decide +kernel
theorem dX5_findWhere_36 : decode cX5_findWhere 36 = .ok (.invokevirtual 145, 3) := by decide +kernel
theorem dX5_findWhere_39 : decode cX5_findWhere 39 = .ok (.ifCond .ne 6, 3) := by decide +kernel
theorem dX5_findWhere_42 : decode cX5_findWhere 42 = .ok (.goto 77, 3) := by decide +kernel
theorem dX5_findWhere_45 : decode cX5_findWhere 45 = .ok (.aload_n 0, 1) := by decide +kernel
theorem dX5_findWhere_46 : decode cX5_findWhere 46 = .ok (.getfield 25, 3) := by decide +kernel
theorem dX5_findWhere_49 : decode cX5_findWhere 49 = .ok (.aload_n 0, 1) := by decide +kernel
theorem dX5_findWhere_50 : decode cX5_findWhere 50 = .ok (.getfield 12, 3) := by decide +kernel
theorem dX5_findWhere_53 : decode cX5_findWhere 53 = .ok (.invokevirtual 134, 3) := by decide +kernel
theorem dX5_findWhere_56 : decode cX5_findWhere 56 = .ok (.aload_n 0, 1) := by decide +kernel
theorem dX5_findWhere_57 : decode cX5_findWhere 57 = .ok (.getfield 25, 3) := by decide +kernel
theorem dX5_findWhere_60 : decode cX5_findWhere 60 = .ok (.getfield 92, 3) := by decide +kernel
theorem dX5_findWhere_63 : decode cX5_findWhere 63 = .ok (.getfield 148, 3) := by decide +kernel
theorem dX5_findWhere_66 : decode cX5_findWhere 66 = .ok (.iload_n 1, 1) := by decide +kernel
theorem dX5_findWhere_67 : decode cX5_findWhere 67 = .ok (.iload 4, 2) := by decide +kernel
theorem dX5_findWhere_69 : decode cX5_findWhere 69 = .ok (.iastore, 1) := by decide +kernel
theorem dX5_findWhere_70 : decode cX5_findWhere 70 = .ok (.aload_n 0, 1) := by decide +kernel
theorem dX5_findWhere_71 : decode cX5_findWhere 71 = .ok (.getfield 21, 3) := by decide +kernel
theorem dX5_findWhere_74 : decode cX5_findWhere 74 = .ok (.aload_n 0, 1) := by decide +kernel
theorem dX5_findWhere_75 : decode cX5_findWhere 75 = .ok (.getfield 25, 3) := by decide +kernel
theorem dX5_findWhere_78 : decode cX5_findWhere 78 = .ok (.iload_n 2, 1) := by decide +kernel
theorem dX5_findWhere_79 : decode cX5_findWhere 79 = .ok (.invokevirtual 88, 3) := by decide +kernel
theorem dX5_findWhere_82 : decode cX5_findWhere 82 = .ok (.pop, 1) := by decide +kernel
theorem dX5_findWhere_83 : decode cX5_findWhere 83 = .ok (.aload_n 0, 1) := by decide +kernel
theorem dX5_findWhere_84 : decode cX5_findWhere 84 = .ok (.getfield 25, 3) := by decide +kernel
theorem dX5_findWhere_87 : decode cX5_findWhere 87 = .ok (.getfield 92, 3) := by decide +kernel
theorem dX5_findWhere_90 : decode cX5_findWhere 90 = .ok (.iload_n 1, 1) := by decide +kernel
theorem dX5_findWhere_91 : decode cX5_findWhere 91 = .ok (.invokevirtual 145, 3) := by decide +kernel
theorem dX5_findWhere_94 : decode cX5_findWhere 94 = .ok (.ifCond .eq 25, 3) := by decide +kernel
theorem dX5_findWhere_97 : decode cX5_findWhere 97 = .ok (.aload_n 0, 1) := by decide +kernel
theorem dX5_findWhere_98 : decode cX5_findWhere 98 = .ok (.getfield 25, 3) := by decide +kernel
theorem dX5_findWhere_101 : decode cX5_findWhere 101 = .ok (.getfield 92, 3) := by decide +kernel
theorem dX5_findWhere_104 : decode cX5_findWhere 104 = .ok (.getfield 148, 3) := by decide +kernel
theorem dX5_findWhere_107 : decode cX5_findWhere 107 = .ok (.iload_n 1, 1) := by decide +kernel
theorem dX5_findWhere_108 : decode cX5_findWhere 108 = .ok (.iaload, 1) := by decide +kernel
theorem dX5_findWhere_109 : decode cX5_findWhere 109 = .ok (.iload_n 3, 1) := by decide +kernel
theorem dX5_findWhere_110 : decode cX5_findWhere 110 = .ok (.if_icmp .ne 9, 3) := by decide +kernel
theorem dX5_findWhere_113 : decode cX5_findWhere 113 = .ok (.aload_n 0, 1) := by decide +kernel
theorem dX5_findWhere_114 : decode cX5_findWhere 114 = .ok (.iload 4, 2) := by decide +kernel
theorem dX5_findWhere_116 : decode cX5_findWhere 116 = .ok (.invokevirtual 119, 3) := by decide +kernel
theorem dX5_findWhere_119 : decode cX5_findWhere 119 = .ok (.iinc 4 1, 3) := by decide +kernel
theorem dX5_findWhere_122 : decode cX5_findWhere 122 = .ok (.goto (-115), 3) := by decide +kernel
theorem dX5_findWhere_125 : decode cX5_findWhere 125 = .ok (.return_, 1) := by decide +kernel
theorem dX5_clearFound_0 : decode cX5_clearFound 0 = .ok (.aload_n 0, 1) := by decide +kernel
theorem dX5_clearFound_1 : decode cX5_clearFound 1 = .ok (.iconst 0, 1) := by decide +kernel
theorem dX5_clearFound_2 : decode cX5_clearFound 2 = .ok (.putfield 55, 3) := by decide +kernel
theorem dX5_clearFound_5 : decode cX5_clearFound 5 = .ok (.aload_n 0, 1) := by decide +kernel
theorem dX5_clearFound_6 : decode cX5_clearFound 6 = .ok (.iconst (-1), 1) := by decide +kernel
theorem dX5_clearFound_7 : decode cX5_clearFound 7 = .ok (.putfield 58, 3) := by decide +kernel
theorem dX5_clearFound_10 : decode cX5_clearFound 10 = .ok (.aload_n 0, 1) := by decide +kernel
theorem dX5_clearFound_11 : decode cX5_clearFound 11 = .ok (.iconst 0, 1) := by decide +kernel
theorem dX5_clearFound_12 : decode cX5_clearFound 12 = .ok (.putfield 61, 3) := by decide +kernel
theorem dX5_clearFound_15 : decode cX5_clearFound 15 = .ok (.aload_n 0, 1) := by decide +kernel
theorem dX5_clearFound_16 : decode cX5_clearFound 16 = .ok (.iconst (-1), 1) := by decide +kernel
theorem dX5_clearFound_17 : decode cX5_clearFound 17 = .ok (.putfield 64, 3) := by decide +kernel
theorem dX5_clearFound_20 : decode cX5_clearFound 20 = .ok (.return_, 1) := by decide +kernel
theorem dX5_found_0 : decode cX5_found 0 = .ok (.aload_n 0, 1) := by decide +kernel
theorem dX5_found_1 : decode cX5_found 1 = .ok (.aload_n 0, 1) := by decide +kernel
theorem dX5_found_2 : decode cX5_found 2 = .ok (.getfield 55, 3) := by decide +kernel
theorem dX5_found_5 : decode cX5_found 5 = .ok (.ifCond .ne 7, 3) := by decide +kernel
theorem dX5_found_8 : decode cX5_found 8 = .ok (.iload_n 1, 1) := by decide +kernel
theorem dX5_found_9 : decode cX5_found 9 = .ok (.goto 7, 3) := by decide +kernel
theorem dX5_found_12 : decode cX5_found 12 = .ok (.aload_n 0, 1) := by decide +kernel
theorem dX5_found_13 : decode cX5_found 13 = .ok (.getfield 58, 3) := by decide +kernel
theorem dX5_found_16 : decode cX5_found 16 = .ok (.putfield 58, 3) := by decide +kernel
theorem dX5_found_19 : decode cX5_found 19 = .ok (.aload_n 0, 1) := by decide +kernel
theorem dX5_found_20 : decode cX5_found 20 = .ok (.dup, 1) := by decide +kernel
theorem dX5_found_21 : decode cX5_found 21 = .ok (.getfield 55, 3) := by decide +kernel
theorem dX5_found_24 : decode cX5_found 24 = .ok (.iconst 1, 1) := by decide +kernel
theorem dX5_found_25 : decode cX5_found 25 = .ok (.iadd, 1) := by decide +kernel
theorem dX5_found_26 : decode cX5_found 26 = .ok (.putfield 55, 3) := by decide +kernel
theorem dX5_found_29 : decode cX5_found 29 = .ok (.return_, 1) := by decide +kernel
theorem dX5_countDraws_0 : decode cX5_countDraws 0 = .ok (.aload_n 0, 1) := by decide +kernel
theorem dX5_countDraws_1 : decode cX5_countDraws 1 = .ok (.getfield 28, 3) := by decide +kernel
theorem dX5_countDraws_4 : decode cX5_countDraws 4 = .ok (.iconst 0, 1) := by decide +kernel
theorem dX5_countDraws_5 : decode cX5_countDraws 5 = .ok (.aaload, 1) := by decide +kernel
theorem dX5_countDraws_6 : decode cX5_countDraws 6 = .ok (.aload_n 0, 1) := by decide +kernel
theorem dX5_countDraws_7 : decode cX5_countDraws 7 = .ok (.getfield 12, 3) := by decide +kernel
theorem dX5_countDraws_10 : decode cX5_countDraws 10 = .ok (.invokevirtual 134, 3) := by decide +kernel
theorem dX5_countDraws_13 : decode cX5_countDraws 13 = .ok (.aload_n 0, 1) := by decide +kernel
theorem dX5_countDraws_14 : decode cX5_countDraws 14 = .ok (.iconst 0, 1) := by decide +kernel
theorem dX5_countDraws_15 : decode cX5_countDraws 15 = .ok (.iload_n 1, 1) := by decide +kernel
theorem dX5_countDraws_16 : decode cX5_countDraws 16 = .ok (.iload_n 2, 1) := by decide +kernel
theorem dX5_countDraws_17 : decode cX5_countDraws 17 = .ok (.invokevirtual 184, 3) := by decide +kernel
theorem dX5_countDraws_20 : decode cX5_countDraws 20 = .ok (.ireturn, 1) := by decide +kernel
theorem dX5_countBehind_0 : decode cX5_countBehind 0 = .ok (.iload_n 1, 1) := by decide +kernel
theorem dX5_countBehind_1 : decode cX5_countBehind 1 = .ok (.ifCond .lt 12, 3) := by decide +kernel
theorem dX5_countBehind_4 : decode cX5_countBehind 4 = .ok (.iload_n 1, 1) := by decide +kernel
theorem dX5_countBehind_5 : decode cX5_countBehind 5 = .ok (.aload_n 0, 1) := by decide +kernel
theorem dX5_countBehind_6 : decode cX5_countBehind 6 = .ok (.getfield 28, 3) := by decide +kernel
theorem dX5_countBehind_9 : decode cX5_countBehind 9 = .ok (.arraylength, 1) := by decide +kernel
theorem dX5_countBehind_10 : decode cX5_countBehind 10 = .ok (.if_icmp .lt 5, 3) := by decide +kernel
theorem dX5_countBehind_13 : decode cX5_countBehind 13 = .ok (.iconst 0, 1) := by decide +kernel
theorem dX5_countBehind_14 : decode cX5_countBehind 14 = .ok (.ireturn, 1) := by decide +kernel
theorem dX5_countBehind_15 : decode cX5_countBehind 15 = .ok (.iload_n 1, 1) := by decide +kernel
theorem dX5_countBehind_16 : decode cX5_countBehind 16 = .ok (.iload_n 2, 1) := by decide +kernel
theorem dX5_countBehind_17 : decode cX5_countBehind 17 = .ok (.if_icmp .ge 14, 3) := by decide +kernel
theorem dX5_countBehind_20 : decode cX5_countBehind 20 = .ok (.iload_n 1, 1) := by decide +kernel
theorem dX5_countBehind_21 : decode cX5_countBehind 21 = .ok (.iconst 1, 1) := by decide +kernel
theorem dX5_countBehind_22 : decode cX5_countBehind 22 = .ok (.iadd, 1) := by decide +kernel
theorem dX5_countBehind_23 : decode cX5_countBehind 23 = .ok (.aload_n 0, 1) := by decide +kernel
theorem dX5_countBehind_24 : decode cX5_countBehind 24 = .ok (.getfield 28, 3) := by decide +kernel
theorem dX5_countBehind_27 : decode cX5_countBehind 27 = .ok (.arraylength, 1) := by decide +kernel
theorem dX5_countBehind_28 : decode cX5_countBehind 28 = .ok (.if_icmp .lt 25, 3) := by decide +kernel
theorem dX5_countBehind_31 : decode cX5_countBehind 31 = .ok (.aload_n 0, 1) := by decide +kernel
theorem dX5_countBehind_32 : decode cX5_countBehind 32 = .ok (.getfield 28, 3) := by decide +kernel
theorem dX5_countBehind_35 : decode cX5_countBehind 35 = .ok (.iload_n 1, 1) := by decide +kernel
theorem dX5_countBehind_36 : decode cX5_countBehind 36 = .ok (.aaload, 1) := by decide +kernel
theorem dX5_countBehind_37 : decode cX5_countBehind 37 = .ok (.getfield 92, 3) := by decide +kernel
theorem dX5_countBehind_40 : decode cX5_countBehind 40 = .ok (.invokevirtual 96, 3) := by decide +kernel
theorem dX5_countBehind_43 : decode cX5_countBehind 43 = .ok (.iload_n 3, 1) := by decide +kernel
theorem dX5_countBehind_44 : decode cX5_countBehind 44 = .ok (.if_icmp .lt 7, 3) := by decide +kernel
theorem dX5_countBehind_47 : decode cX5_countBehind 47 = .ok (.iconst 1, 1) := by decide +kernel
theorem dX5_countBehind_48 : decode cX5_countBehind 48 = .ok (.goto 4, 3) := by decide +kernel
theorem dX5_countBehind_51 : decode cX5_countBehind 51 = .ok (.iconst 0, 1) := by decide +kernel
theorem dX5_countBehind_52 : decode cX5_countBehind 52 = .ok (.ireturn, 1) := by decide +kernel
theorem dX5_countBehind_53 : decode cX5_countBehind 53 = .ok (.iconst 0, 1) := by decide +kernel
theorem dX5_countBehind_54 : decode cX5_countBehind 54 = .ok (.istore 4, 2) := by decide +kernel
theorem dX5_countBehind_56 : decode cX5_countBehind 56 = .ok (.iconst 0, 1) := by decide +kernel
theorem dX5_countBehind_57 : decode cX5_countBehind 57 = .ok (.istore 5, 2) := by decide +kernel
theorem dX5_countBehind_59 : decode cX5_countBehind 59 = .ok (.iload 5, 2) := by decide +kernel
theorem dX5_countBehind_61 : decode cX5_countBehind 61 = .ok (.bipush 10, 2) := by decide +kernel
theorem dX5_countBehind_63 : decode cX5_countBehind 63 = .ok (.if_icmp .ge 58, 3) := by decide +kernel
theorem dX5_countBehind_66 : decode cX5_countBehind 66 = .ok (.aload_n 0, 1) := by decide +kernel
theorem dX5_countBehind_67 : decode cX5_countBehind 67 = .ok (.getfield 28, 3) := by decide +kernel
theorem dX5_countBehind_70 : decode cX5_countBehind 70 = .ok (.iload_n 1, 1) := by decide +kernel
theorem dX5_countBehind_71 : decode cX5_countBehind 71 = .ok (.iconst 1, 1) := by decide +kernel
theorem dX5_countBehind_72 : decode cX5_countBehind 72 = .ok (.iadd, 1) := by decide +kernel
theorem dX5_countBehind_73 : decode cX5_countBehind 73 = .ok (.aaload, 1) := by decide +kernel
theorem dX5_countBehind_74 : decode cX5_countBehind 74 = .ok (.aload_n 0, 1) := by decide +kernel
theorem dX5_countBehind_75 : decode cX5_countBehind 75 = .ok (.getfield 28, 3) := by decide +kernel
theorem dX5_countBehind_78 : decode cX5_countBehind 78 = .ok (.iload_n 1, 1) := by decide +kernel
theorem dX5_countBehind_79 : decode cX5_countBehind 79 = .ok (.aaload, 1) := by decide +kernel
theorem dX5_countBehind_80 : decode cX5_countBehind 80 = .ok (.invokevirtual 134, 3) := by decide +kernel
theorem dX5_countBehind_83 : decode cX5_countBehind 83 = .ok (.aload_n 0, 1) := by decide +kernel
theorem dX5_countBehind_84 : decode cX5_countBehind 84 = .ok (.getfield 21, 3) := by decide +kernel
theorem dX5_countBehind_87 : decode cX5_countBehind 87 = .ok (.aload_n 0, 1) := by decide +kernel
theorem dX5_countBehind_88 : decode cX5_countBehind 88 = .ok (.getfield 28, 3) := by decide +kernel
theorem dX5_countBehind_91 : decode cX5_countBehind 91 = .ok (.iload_n 1, 1) := by decide +kernel
theorem dX5_countBehind_92 : decode cX5_countBehind 92 = .ok (.iconst 1, 1) := by decide +kernel
theorem dX5_countBehind_93 : decode cX5_countBehind 93 = .ok (.iadd, 1) := by decide +kernel
theorem dX5_countBehind_94 : decode cX5_countBehind 94 = .ok (.aaload, 1) := by decide +kernel
theorem dX5_countBehind_95 : decode cX5_countBehind 95 = .ok (.iload 5, 2) := by decide +kernel
theorem dX5_countBehind_97 : decode cX5_countBehind 97 = .ok (.invokevirtual 188, 3) := by decide +kernel
theorem dX5_countBehind_100 : decode cX5_countBehind 100 = .ok (.pop, 1) := by decide +kernel
theorem dX5_countBehind_101 : decode cX5_countBehind 101 = .ok (.iload 4, 2) := by decide +kernel
theorem dX5_countBehind_103 : decode cX5_countBehind 103 = .ok (.aload_n 0, 1) := by decide +kernel
theorem dX5_countBehind_104 : decode cX5_countBehind 104 = .ok (.iload_n 1, 1) := by decide +kernel
theorem dX5_countBehind_105 : decode cX5_countBehind 105 = .ok (.iconst 1, 1) := by decide +kernel
theorem dX5_countBehind_106 : decode cX5_countBehind 106 = .ok (.iadd, 1) := by decide +kernel
theorem dX5_countBehind_107 : decode cX5_countBehind 107 = .ok (.iload_n 2, 1) := by decide +kernel
theorem dX5_countBehind_108 : decode cX5_countBehind 108 = .ok (.iload_n 3, 1) := by decide +kernel
theorem dX5_countBehind_109 : decode cX5_countBehind 109 = .ok (.invokevirtual 184, 3) := by decide +kernel
theorem dX5_countBehind_112 : decode cX5_countBehind 112 = .ok (.iadd, 1) := by decide +kernel
theorem dX5_countBehind_113 : decode cX5_countBehind 113 = .ok (.istore 4, 2) := by decide +kernel
theorem dX5_countBehind_115 : decode cX5_countBehind 115 = .ok (.iinc 5 1, 3) := by decide +kernel
theorem dX5_countBehind_118 : decode cX5_countBehind 118 = .ok (.goto (-59), 3) := by decide +kernel
theorem dX5_countBehind_121 : decode cX5_countBehind 121 = .ok (.iload 4, 2) := by decide +kernel
theorem dX5_countBehind_123 : decode cX5_countBehind 123 = .ok (.ireturn, 1) := by decide +kernel
theorem dX8_init_0 : decode cX8_init 0 = .ok (.aload_n 0, 1) := by decide +kernel
theorem dX8_init_1 : decode cX8_init 1 = .ok (.invokespecial 1, 3) := by decide +kernel
theorem dX8_init_4 : decode cX8_init 4 = .ok (.aload_n 0, 1) := by decide +kernel
theorem dX8_init_5 : decode cX8_init 5 = .ok (.new 7, 3) := by decide +kernel
theorem dX8_init_8 : decode cX8_init 8 = .ok (.dup, 1) := by decide +kernel
theorem dX8_init_9 : decode cX8_init 9 = .ok (.invokespecial 9, 3) := by decide +kernel
theorem dX8_init_12 : decode cX8_init 12 = .ok (.putfield 10, 3) := by decide +kernel
theorem dX8_init_15 : decode cX8_init 15 = .ok (.aload_n 0, 1) := by decide +kernel
theorem dX8_init_16 : decode cX8_init 16 = .ok (.aload_n 0, 1) := by decide +kernel
theorem dX8_init_17 : decode cX8_init 17 = .ok (.getfield 10, 3) := by decide +kernel
theorem dX8_init_20 : decode cX8_init 20 = .ok (.getfield 16, 3) := by decide +kernel
theorem dX8_init_23 : decode cX8_init 23 = .ok (.putfield 20, 3) := by decide +kernel
theorem dX8_init_26 : decode cX8_init 26 = .ok (.aload_n 0, 1) := by decide +kernel
theorem dX8_init_27 : decode cX8_init 27 = .ok (.aload_n 0, 1) := by decide +kernel
theorem dX8_init_28 : decode cX8_init 28 = .ok (.getfield 10, 3) := by decide +kernel
theorem dX8_init_31 : decode cX8_init 31 = .ok (.getfield 21, 3) := by decide +kernel
theorem dX8_init_34 : decode cX8_init 34 = .ok (.putfield 25, 3) := by decide +kernel
theorem dX8_init_37 : decode cX8_init 37 = .ok (.aload_n 0, 1) := by decide +kernel
theorem dX8_init_38 : decode cX8_init 38 = .ok (.aload_n 0, 1) := by decide +kernel
theorem dX8_init_39 : decode cX8_init 39 = .ok (.getfield 25, 3) := by decide +kernel
theorem dX8_init_42 : decode cX8_init 42 = .ok (.getfield 26, 3) := by decide +kernel
theorem dX8_init_45 : decode cX8_init 45 = .ok (.putfield 32, 3) := by decide +kernel
theorem dX8_init_48 : decode cX8_init 48 = .ok (.aload_n 0, 1) := by decide +kernel
theorem dX8_init_49 : decode cX8_init 49 = .ok (.new 33, 3) := by decide +kernel
theorem dX8_init_52 : decode cX8_init 52 = .ok (.dup, 1) := by decide +kernel
theorem dX8_init_53 : decode cX8_init 53 = .ok (.invokespecial 35, 3) := by decide +kernel
theorem dX8_init_56 : decode cX8_init 56 = .ok (.putfield 36, 3) := by decide +kernel
theorem dX8_init_59 : decode cX8_init 59 = .ok (.aload_n 0, 1) := by decide +kernel
theorem dX8_init_60 : decode cX8_init 60 = .ok (.aload_n 0, 1) := by decide +kernel
theorem dX8_init_61 : decode cX8_init 61 = .ok (.getfield 36, 3) := by decide +kernel
theorem dX8_init_64 : decode cX8_init 64 = .ok (.getfield 40, 3) := by decide +kernel
theorem dX8_init_67 : decode cX8_init 67 = .ok (.putfield 44, 3) := by decide +kernel
theorem dX8_init_70 : decode cX8_init 70 = .ok (.aload_n 0, 1) := by decide +kernel
theorem dX8_init_71 : decode cX8_init 71 = .ok (.new 45, 3) := by decide +kernel
theorem dX8_init_74 : decode cX8_init 74 = .ok (.dup, 1) := by decide +kernel
theorem dX8_init_75 : decode cX8_init 75 = .ok (.invokespecial 47, 3) := by decide +kernel
theorem dX8_init_78 : decode cX8_init 78 = .ok (.putfield 48, 3) := by decide +kernel
theorem dX8_init_81 : decode cX8_init 81 = .ok (.aload_n 0, 1) := by decide +kernel
theorem dX8_init_82 : decode cX8_init 82 = .ok (.iconst 0, 1) := by decide +kernel
theorem dX8_init_83 : decode cX8_init 83 = .ok (.putfield 51, 3) := by decide +kernel
theorem dX8_init_86 : decode cX8_init 86 = .ok (.return_, 1) := by decide +kernel
theorem dX8_ground_0 : decode cX8_ground 0 = .ok (.iload_n 1, 1) := by decide +kernel
theorem dX8_ground_1 : decode cX8_ground 1 = .ok (.iload_n 2, 1) := by decide +kernel
theorem dX8_ground_2 : decode cX8_ground 2 = .ok (.invokestatic 55, 3) := by decide +kernel
theorem dX8_ground_5 : decode cX8_ground 5 = .ok (.ifCond .eq 12, 3) := by decide +kernel
theorem dX8_ground_8 : decode cX8_ground 8 = .ok (.iload_n 3, 1) := by decide +kernel
theorem dX8_ground_9 : decode cX8_ground 9 = .ok (.iconst 0, 1) := by decide +kernel
theorem dX8_ground_10 : decode cX8_ground 10 = .ok (.iconst 3, 1) := by decide +kernel
theorem dX8_ground_11 : decode cX8_ground 11 = .ok (.invokestatic 59, 3) := by decide +kernel
theorem dX8_ground_14 : decode cX8_ground 14 = .ok (.ifCond .ne 5, 3) := by decide +kernel
theorem dX8_ground_17 : decode cX8_ground 17 = .ok (.iconst 0, 1) := by decide +kernel
theorem dX8_ground_18 : decode cX8_ground 18 = .ok (.ireturn, 1) := by decide +kernel
theorem dX8_ground_19 : decode cX8_ground 19 = .ok (.bipush 14, 2) := by decide +kernel
theorem dX8_ground_21 : decode cX8_ground 21 = .ok (.iload_n 2, 1) := by decide +kernel
theorem dX8_ground_22 : decode cX8_ground 22 = .ok (.imul, 1) := by decide +kernel
theorem dX8_ground_23 : decode cX8_ground 23 = .ok (.iload_n 1, 1) := by decide +kernel
theorem dX8_ground_24 : decode cX8_ground 24 = .ok (.iadd, 1) := by decide +kernel
theorem dX8_ground_25 : decode cX8_ground 25 = .ok (.istore 4, 2) := by decide +kernel
theorem dX8_ground_27 : decode cX8_ground 27 = .ok (.iload_n 3, 1) := by decide +kernel
theorem dX8_ground_28 : decode cX8_ground 28 = .ok (.iconst 3, 1) := by decide +kernel
theorem dX8_ground_29 : decode cX8_ground 29 = .ok (.if_icmp .ne 17, 3) := by decide +kernel
theorem dX8_ground_32 : decode cX8_ground 32 = .ok (.aload_n 0, 1) := by decide +kernel
theorem dX8_ground_33 : decode cX8_ground 33 = .ok (.getfield 20, 3) := by decide +kernel
theorem dX8_ground_36 : decode cX8_ground 36 = .ok (.iload 4, 2) := by decide +kernel
theorem dX8_ground_38 : decode cX8_ground 38 = .ok (.invokevirtual 63, 3) := by decide +kernel
theorem dX8_ground_41 : decode cX8_ground 41 = .ok (.ifCond .eq 5, 3) := by decide +kernel
theorem dX8_ground_44 : decode cX8_ground 44 = .ok (.iconst 0, 1) := by decide +kernel
theorem dX8_ground_45 : decode cX8_ground 45 = .ok (.ireturn, 1) := by decide +kernel
theorem dX8_ground_46 : decode cX8_ground 46 = .ok (.aload_n 0, 1) := by decide +kernel
theorem dX8_ground_47 : decode cX8_ground 47 = .ok (.getfield 20, 3) := by decide +kernel
theorem dX8_ground_50 : decode cX8_ground 50 = .ok (.getfield 67, 3) := by decide +kernel
theorem dX8_ground_53 : decode cX8_ground 53 = .ok (.iload 4, 2) := by decide +kernel
theorem dX8_ground_55 : decode cX8_ground 55 = .ok (.iload_n 3, 1) := by decide +kernel
theorem dX8_ground_56 : decode cX8_ground 56 = .ok (.iastore, 1) := by decide +kernel
theorem dX8_ground_57 : decode cX8_ground 57 = .ok (.iconst 1, 1) := by decide +kernel
theorem dX8_ground_58 : decode cX8_ground 58 = .ok (.ireturn, 1) := by decide +kernel
theorem dX8_inn_0 : decode cX8_inn 0 = .ok (.iload_n 1, 1) := by decide +kernel
theorem dX8_inn_1 : decode cX8_inn 1 = .ok (.iconst 0, 1) := by decide +kernel
theorem dX8_inn_2 : decode cX8_inn 2 = .ok (.bipush 8, 2) := by decide +kernel
theorem dX8_inn_4 : decode cX8_inn 4 = .ok (.invokestatic 59, 3) := by decide +kernel
theorem dX8_inn_7 : decode cX8_inn 7 = .ok (.ifCond .ne 5, 3) := by decide +kernel
theorem dX8_inn_10 : decode cX8_inn 10 = .ok (.iconst 0, 1) := by decide +kernel
theorem dX8_inn_11 : decode cX8_inn 11 = .ok (.ireturn, 1) := by decide +kernel
theorem dX8_inn_12 : decode cX8_inn 12 = .ok (.aload_n 0, 1) := by decide +kernel
theorem dX8_inn_13 : decode cX8_inn 13 = .ok (.iload_n 1, 1) := by decide +kernel
theorem dX8_inn_14 : decode cX8_inn 14 = .ok (.iload_n 2, 1) := by decide +kernel
theorem dX8_inn_15 : decode cX8_inn 15 = .ok (.iload_n 3, 1) := by decide +kernel
theorem dX8_inn_16 : decode cX8_inn 16 = .ok (.iload 4, 2) := by decide +kernel
theorem dX8_inn_18 : decode cX8_inn 18 = .ok (.iconst 0, 1) := by decide +kernel
theorem dX8_inn_19 : decode cX8_inn 19 = .ok (.invokevirtual 71, 3) := by decide +kernel
theorem dX8_inn_22 : decode cX8_inn 22 = .ok (.ireturn, 1) := by decide +kernel
theorem dX8_stray_0 : decode cX8_stray 0 = .ok (.iload_n 1, 1) := by decide +kernel
theorem dX8_stray_1 : decode cX8_stray 1 = .ok (.bipush 9, 2) := by decide +kernel
theorem dX8_stray_3 : decode cX8_stray 3 = .ok (.bipush 11, 2) := by decide +kernel
theorem dX8_stray_5 : decode cX8_stray 5 = .ok (.invokestatic 59, 3) := by decide +kernel
theorem dX8_stray_8 : decode cX8_stray 8 = .ok (.ifCond .ne 5, 3) := by decide +kernel
theorem dX8_stray_11 : decode cX8_stray 11 = .ok (.iconst 0, 1) := by decide +kernel
theorem dX8_stray_12 : decode cX8_stray 12 = .ok (.ireturn, 1) := by decide +kernel
theorem dX8_stray_13 : decode cX8_stray 13 = .ok (.aload_n 0, 1) := by decide +kernel
theorem dX8_stray_14 : decode cX8_stray 14 = .ok (.iload_n 1, 1) := by decide +kernel
theorem dX8_stray_15 : decode cX8_stray 15 = .ok (.iload_n 2, 1) := by decide +kernel
theorem dX8_stray_16 : decode cX8_stray 16 = .ok (.iload_n 3, 1) := by decide +kernel
theorem dX8_stray_17 : decode cX8_stray 17 = .ok (.iload 4, 2) := by decide +kernel
theorem dX8_stray_19 : decode cX8_stray 19 = .ok (.iload 5, 2) := by decide +kernel
theorem dX8_stray_21 : decode cX8_stray 21 = .ok (.invokevirtual 71, 3) := by decide +kernel
theorem dX8_stray_24 : decode cX8_stray 24 = .ok (.ireturn, 1) := by decide +kernel
theorem dX8_gone_0 : decode cX8_gone 0 = .ok (.aload_n 0, 1) := by decide +kernel
theorem dX8_gone_1 : decode cX8_gone 1 = .ok (.getfield 20, 3) := by decide +kernel
theorem dX8_gone_4 : decode cX8_gone 4 = .ok (.getfield 75, 3) := by decide +kernel
theorem dX8_gone_7 : decode cX8_gone 7 = .ok (.iload_n 1, 1) := by decide +kernel
theorem dX8_gone_8 : decode cX8_gone 8 = .ok (.invokevirtual 79, 3) := by decide +kernel
theorem dX8_gone_11 : decode cX8_gone 11 = .ok (.ifCond .ne 5, 3) := by decide +kernel
theorem dX8_gone_14 : decode cX8_gone 14 = .ok (.iconst 0, 1) := by decide +kernel
theorem dX8_gone_15 : decode cX8_gone 15 = .ok (.ireturn, 1) := by decide +kernel
theorem dX8_gone_16 : decode cX8_gone 16 = .ok (.aload_n 0, 1) := by decide +kernel
theorem dX8_gone_17 : decode cX8_gone 17 = .ok (.getfield 20, 3) := by decide +kernel
theorem dX8_gone_20 : decode cX8_gone 20 = .ok (.getfield 75, 3) := by decide +kernel
theorem dX8_gone_23 : decode cX8_gone 23 = .ok (.getfield 84, 3) := by decide +kernel
theorem dX8_gone_26 : decode cX8_gone 26 = .ok (.iload_n 1, 1) := by decide +kernel
theorem dX8_gone_27 : decode cX8_gone 27 = .ok (.iconst 0, 1) := by decide +kernel
theorem dX8_gone_28 : decode cX8_gone 28 = .ok (.bastore, 1) := by decide +kernel
theorem dX8_gone_29 : decode cX8_gone 29 = .ok (.iconst 1, 1) := by decide +kernel
theorem dX8_gone_30 : decode cX8_gone 30 = .ok (.ireturn, 1) := by decide +kernel
theorem dX8_dog_0 : decode cX8_dog 0 = .ok (.aload_n 0, 1) := by decide +kernel
theorem dX8_dog_1 : decode cX8_dog 1 = .ok (.iload_n 1, 1) := by decide +kernel
theorem dX8_dog_2 : decode cX8_dog 2 = .ok (.invokevirtual 88, 3) := by decide +kernel
theorem dX8_dog_5 : decode cX8_dog 5 = .ok (.ifCond .eq 13, 3) := by decide +kernel
theorem dX8_dog_8 : decode cX8_dog 8 = .ok (.iload_n 2, 1) := by decide +kernel
theorem dX8_dog_9 : decode cX8_dog 9 = .ok (.iconst 0, 1) := by decide +kernel
theorem dX8_dog_10 : decode cX8_dog 10 = .ok (.bipush 99, 2) := by decide +kernel
theorem dX8_dog_12 : decode cX8_dog 12 = .ok (.invokestatic 59, 3) := by decide +kernel
theorem dX8_dog_15 : decode cX8_dog 15 = .ok (.ifCond .ne 5, 3) := by decide +kernel
theorem dX8_dog_18 : decode cX8_dog 18 = .ok (.iconst 0, 1) := by decide +kernel
theorem dX8_dog_19 : decode cX8_dog 19 = .ok (.ireturn, 1) := by decide +kernel
theorem dX8_dog_20 : decode cX8_dog 20 = .ok (.aload_n 0, 1) := by decide +kernel
theorem dX8_dog_21 : decode cX8_dog 21 = .ok (.getfield 20, 3) := by decide +kernel
theorem dX8_dog_24 : decode cX8_dog 24 = .ok (.getfield 75, 3) := by decide +kernel
theorem dX8_dog_27 : decode cX8_dog 27 = .ok (.getfield 91, 3) := by decide +kernel
theorem dX8_dog_30 : decode cX8_dog 30 = .ok (.iload_n 1, 1) := by decide +kernel
theorem dX8_dog_31 : decode cX8_dog 31 = .ok (.iload_n 2, 1) := by decide +kernel
theorem dX8_dog_32 : decode cX8_dog 32 = .ok (.iastore, 1) := by decide +kernel
theorem dX8_dog_33 : decode cX8_dog 33 = .ok (.iconst 1, 1) := by decide +kernel
theorem dX8_dog_34 : decode cX8_dog 34 = .ok (.ireturn, 1) := by decide +kernel
theorem dX8_herd_0 : decode cX8_herd 0 = .ok (.iload_n 1, 1) := by decide +kernel
theorem dX8_herd_1 : decode cX8_herd 1 = .ok (.iconst 0, 1) := by decide +kernel
theorem dX8_herd_2 : decode cX8_herd 2 = .ok (.iconst 5, 1) := by decide +kernel
theorem dX8_herd_3 : decode cX8_herd 3 = .ok (.invokestatic 59, 3) := by decide +kernel
theorem dX8_herd_6 : decode cX8_herd 6 = .ok (.ifCond .eq 23, 3) := by decide +kernel
theorem dX8_herd_9 : decode cX8_herd 9 = .ok (.iload_n 2, 1) := by decide +kernel
theorem dX8_herd_10 : decode cX8_herd 10 = .ok (.iload_n 3, 1) := by decide +kernel
theorem dX8_herd_11 : decode cX8_herd 11 = .ok (.invokestatic 55, 3) := by decide +kernel
theorem dX8_herd_14 : decode cX8_herd 14 = .ok (.ifCond .eq 15, 3) := by decide +kernel
theorem dX8_herd_17 : decode cX8_herd 17 = .ok (.iload 4, 2) := by decide +kernel
theorem dX8_herd_19 : decode cX8_herd 19 = .ok (.iconst 0, 1) := by decide +kernel
theorem dX8_herd_20 : decode cX8_herd 20 = .ok (.sipush 999, 3) := by decide +kernel
theorem dX8_herd_23 : decode cX8_herd 23 = .ok (.invokestatic 59, 3) := by decide +kernel
theorem dX8_herd_26 : decode cX8_herd 26 = .ok (.ifCond .ne 5, 3) := by decide +kernel
theorem dX8_herd_29 : decode cX8_herd 29 = .ok (.iconst 0, 1) := by decide +kernel
theorem dX8_herd_30 : decode cX8_herd 30 = .ok (.ireturn, 1) := by decide +kernel
theorem dX8_herd_31 : decode cX8_herd 31 = .ok (.iload 5, 2) := by decide +kernel
theorem dX8_herd_33 : decode cX8_herd 33 = .ok (.iconst 0, 1) := by decide +kernel
theorem dX8_herd_34 : decode cX8_herd 34 = .ok (.bipush 99, 2) := by decide +kernel
theorem dX8_herd_36 : decode cX8_herd 36 = .ok (.invokestatic 59, 3) := by decide +kernel
theorem dX8_herd_39 : decode cX8_herd 39 = .ok (.ifCond .eq 31, 3) := by decide +kernel
theorem dX8_herd_42 : decode cX8_herd 42 = .ok (.iload 6, 2) := by decide +kernel
theorem dX8_herd_44 : decode cX8_herd 44 = .ok (.iconst 0, 1) := by decide +kernel
theorem dX8_herd_45 : decode cX8_herd 45 = .ok (.bipush 99, 2) := by decide +kernel
theorem dX8_herd_47 : decode cX8_herd 47 = .ok (.invokestatic 59, 3) := by decide +kernel
theorem dX8_herd_50 : decode cX8_herd 50 = .ok (.ifCond .eq 20, 3) := by decide +kernel
theorem dX8_herd_53 : decode cX8_herd 53 = .ok (.aload_n 0, 1) := by decide +kernel
theorem dX8_herd_54 : decode cX8_herd 54 = .ok (.getfield 20, 3) := by decide +kernel
theorem dX8_herd_57 : decode cX8_herd 57 = .ok (.bipush 14, 2) := by decide +kernel
theorem dX8_herd_59 : decode cX8_herd 59 = .ok (.iload_n 3, 1) := by decide +kernel
theorem dX8_herd_60 : decode cX8_herd 60 = .ok (.imul, 1) := by decide +kernel
theorem dX8_herd_61 : decode cX8_herd 61 = .ok (.iload_n 2, 1) := by decide +kernel
theorem dX8_herd_62 : decode cX8_herd 62 = .ok (.iadd, 1) := by decide +kernel
theorem dX8_herd_63 : decode cX8_herd 63 = .ok (.invokevirtual 94, 3) := by decide +kernel
theorem dX8_herd_66 : decode cX8_herd 66 = .ok (.iconst 3, 1) := by decide +kernel
theorem dX8_herd_67 : decode cX8_herd 67 = .ok (.if_icmp .ne 5, 3) := by decide +kernel
theorem dX8_herd_70 : decode cX8_herd 70 = .ok (.iconst 0, 1) := by decide +kernel
theorem dX8_herd_71 : decode cX8_herd 71 = .ok (.ireturn, 1) := by decide +kernel
theorem dX8_herd_72 : decode cX8_herd 72 = .ok (.aload_n 0, 1) := by decide +kernel
theorem dX8_herd_73 : decode cX8_herd 73 = .ok (.getfield 20, 3) := by decide +kernel
theorem dX8_herd_76 : decode cX8_herd 76 = .ok (.getfield 98, 3) := by decide +kernel
theorem dX8_herd_79 : decode cX8_herd 79 = .ok (.astore 7, 2) := by decide +kernel
theorem dX8_herd_81 : decode cX8_herd 81 = .ok (.aload 7, 2) := by decide +kernel
theorem dX8_herd_83 : decode cX8_herd 83 = .ok (.getfield 102, 3) := by decide +kernel
theorem dX8_herd_86 : decode cX8_herd 86 = .ok (.iload_n 1, 1) := by decide +kernel
theorem dX8_herd_87 : decode cX8_herd 87 = .ok (.iconst 1, 1) := by decide +kernel
theorem dX8_herd_88 : decode cX8_herd 88 = .ok (.bastore, 1) := by decide +kernel
theorem dX8_herd_89 : decode cX8_herd 89 = .ok (.aload 7, 2) := by decide +kernel
theorem dX8_herd_91 : decode cX8_herd 91 = .ok (.getfield 107, 3) := by decide +kernel
theorem dX8_herd_94 : decode cX8_herd 94 = .ok (.iload_n 1, 1) := by decide +kernel
theorem dX8_herd_95 : decode cX8_herd 95 = .ok (.bipush 14, 2) := by decide +kernel
theorem dX8_herd_97 : decode cX8_herd 97 = .ok (.iload_n 3, 1) := by decide +kernel
theorem dX8_herd_98 : decode cX8_herd 98 = .ok (.imul, 1) := by decide +kernel
theorem dX8_herd_99 : decode cX8_herd 99 = .ok (.iload_n 2, 1) := by decide +kernel
theorem dX8_herd_100 : decode cX8_herd 100 = .ok (.iadd, 1) := by decide +kernel
theorem dX8_herd_101 : decode cX8_herd 101 = .ok (.iastore, 1) := by decide +kernel
theorem dX8_herd_102 : decode cX8_herd 102 = .ok (.aload 7, 2) := by decide +kernel
theorem dX8_herd_104 : decode cX8_herd 104 = .ok (.getfield 110, 3) := by decide +kernel
theorem dX8_herd_107 : decode cX8_herd 107 = .ok (.iload_n 1, 1) := by decide +kernel
theorem dX8_herd_108 : decode cX8_herd 108 = .ok (.iload 4, 2) := by decide +kernel
theorem dX8_herd_110 : decode cX8_herd 110 = .ok (.iastore, 1) := by decide +kernel
theorem dX8_herd_111 : decode cX8_herd 111 = .ok (.aload 7, 2) := by decide +kernel
theorem dX8_herd_113 : decode cX8_herd 113 = .ok (.getfield 113, 3) := by decide +kernel
theorem dX8_herd_116 : decode cX8_herd 116 = .ok (.iload_n 1, 1) := by decide +kernel
theorem dX8_herd_117 : decode cX8_herd 117 = .ok (.iload 5, 2) := by decide +kernel
theorem dX8_herd_119 : decode cX8_herd 119 = .ok (.iastore, 1) := by decide +kernel
theorem dX8_herd_120 : decode cX8_herd 120 = .ok (.aload 7, 2) := by decide +kernel
theorem dX8_herd_122 : decode cX8_herd 122 = .ok (.getfield 116, 3) := by decide +kernel
theorem dX8_herd_125 : decode cX8_herd 125 = .ok (.iload_n 1, 1) := by decide +kernel
theorem dX8_herd_126 : decode cX8_herd 126 = .ok (.iload 6, 2) := by decide +kernel
theorem dX8_herd_128 : decode cX8_herd 128 = .ok (.iastore, 1) := by decide +kernel
theorem dX8_herd_129 : decode cX8_herd 129 = .ok (.aload 7, 2) := by decide +kernel
theorem dX8_herd_131 : decode cX8_herd 131 = .ok (.getfield 119, 3) := by decide +kernel
theorem dX8_herd_134 : decode cX8_herd 134 = .ok (.iload_n 1, 1) := by decide +kernel
theorem dX8_herd_135 : decode cX8_herd 135 = .ok (.iconst 0, 1) := by decide +kernel
theorem dX8_herd_136 : decode cX8_herd 136 = .ok (.bastore, 1) := by decide +kernel
theorem dX8_herd_137 : decode cX8_herd 137 = .ok (.iconst 1, 1) := by decide +kernel
theorem dX8_herd_138 : decode cX8_herd 138 = .ok (.ireturn, 1) := by decide +kernel
theorem dX8_fire_0 : decode cX8_fire 0 = .ok (.aload_n 0, 1) := by decide +kernel
theorem dX8_fire_1 : decode cX8_fire 1 = .ok (.getfield 20, 3) := by decide +kernel
theorem dX8_fire_4 : decode cX8_fire 4 = .ok (.getfield 98, 3) := by decide +kernel
theorem dX8_fire_7 : decode cX8_fire 7 = .ok (.iload_n 1, 1) := by decide +kernel
theorem dX8_fire_8 : decode cX8_fire 8 = .ok (.invokevirtual 122, 3) := by decide +kernel
theorem dX8_fire_11 : decode cX8_fire 11 = .ok (.ifCond .eq 19, 3) := by decide +kernel
theorem dX8_fire_14 : decode cX8_fire 14 = .ok (.aload_n 0, 1) := by decide +kernel
theorem dX8_fire_15 : decode cX8_fire 15 = .ok (.getfield 20, 3) := by decide +kernel
theorem dX8_fire_18 : decode cX8_fire 18 = .ok (.getfield 98, 3) := by decide +kernel
theorem dX8_fire_21 : decode cX8_fire 21 = .ok (.getfield 119, 3) := by decide +kernel
theorem dX8_fire_24 : decode cX8_fire 24 = .ok (.iload_n 1, 1) := by decide +kernel
theorem dX8_fire_25 : decode cX8_fire 25 = .ok (.baload, 1) := by decide +kernel
theorem dX8_fire_26 : decode cX8_fire 26 = .ok (.iload_n 2, 1) := by decide +kernel
theorem dX8_fire_27 : decode cX8_fire 27 = .ok (.if_icmp .ne 5, 3) := by decide +kernel
theorem dX8_fire_30 : decode cX8_fire 30 = .ok (.iconst 0, 1) := by decide +kernel
theorem dX8_fire_31 : decode cX8_fire 31 = .ok (.ireturn, 1) := by decide +kernel
theorem dX8_fire_32 : decode cX8_fire 32 = .ok (.aload_n 0, 1) := by decide +kernel
theorem dX8_fire_33 : decode cX8_fire 33 = .ok (.getfield 20, 3) := by decide +kernel
theorem dX8_fire_36 : decode cX8_fire 36 = .ok (.getfield 98, 3) := by decide +kernel
theorem dX8_fire_39 : decode cX8_fire 39 = .ok (.getfield 119, 3) := by decide +kernel
theorem dX8_fire_42 : decode cX8_fire 42 = .ok (.iload_n 1, 1) := by decide +kernel
theorem dX8_fire_43 : decode cX8_fire 43 = .ok (.iload_n 2, 1) := by decide +kernel
theorem dX8_fire_44 : decode cX8_fire 44 = .ok (.bastore, 1) := by decide +kernel
theorem dX8_fire_45 : decode cX8_fire 45 = .ok (.iconst 1, 1) := by decide +kernel
theorem dX8_fire_46 : decode cX8_fire 46 = .ok (.ireturn, 1) := by decide +kernel
theorem dX8_drover_0 : decode cX8_drover 0 = .ok (.iload_n 1, 1) := by decide +kernel
theorem dX8_drover_1 : decode cX8_drover 1 = .ok (.iconst 0, 1) := by decide +kernel
theorem dX8_drover_2 : decode cX8_drover 2 = .ok (.iconst 3, 1) := by decide +kernel
theorem dX8_drover_3 : decode cX8_drover 3 = .ok (.invokestatic 59, 3) := by decide +kernel
theorem dX8_drover_6 : decode cX8_drover 6 = .ok (.ifCond .eq 14, 3) := by decide +kernel
theorem dX8_drover_9 : decode cX8_drover 9 = .ok (.iload_n 2, 1) := by decide +kernel
theorem dX8_drover_10 : decode cX8_drover 10 = .ok (.iconst 0, 1) := by decide +kernel
theorem dX8_drover_11 : decode cX8_drover 11 = .ok (.sipush 9999, 3) := by decide +kernel
theorem dX8_drover_14 : decode cX8_drover 14 = .ok (.invokestatic 59, 3) := by decide +kernel
theorem dX8_drover_17 : decode cX8_drover 17 = .ok (.ifCond .ne 5, 3) := by decide +kernel
theorem dX8_drover_20 : decode cX8_drover 20 = .ok (.iconst 0, 1) := by decide +kernel
theorem dX8_drover_21 : decode cX8_drover 21 = .ok (.ireturn, 1) := by decide +kernel
theorem dX8_drover_22 : decode cX8_drover 22 = .ok (.aload_n 0, 1) := by decide +kernel
theorem dX8_drover_23 : decode cX8_drover 23 = .ok (.getfield 20, 3) := by decide +kernel
theorem dX8_drover_26 : decode cX8_drover 26 = .ok (.getfield 125, 3) := by decide +kernel
theorem dX8_drover_29 : decode cX8_drover 29 = .ok (.iload_n 1, 1) := by decide +kernel
theorem dX8_drover_30 : decode cX8_drover 30 = .ok (.iload_n 2, 1) := by decide +kernel
theorem dX8_drover_31 : decode cX8_drover 31 = .ok (.iastore, 1) := by decide +kernel
theorem dX8_drover_32 : decode cX8_drover 32 = .ok (.iconst 1, 1) := by decide +kernel
theorem dX8_drover_33 : decode cX8_drover 33 = .ok (.ireturn, 1) := by decide +kernel
theorem dX8_feed_0 : decode cX8_feed 0 = .ok (.aload_n 0, 1) := by decide +kernel
theorem dX8_feed_1 : decode cX8_feed 1 = .ok (.getfield 44, 3) := by decide +kernel
theorem dX8_feed_4 : decode cX8_feed 4 = .ok (.getfield 128, 3) := by decide +kernel
theorem dX8_feed_7 : decode cX8_feed 7 = .ok (.bipush 20, 2) := by decide +kernel
theorem dX8_feed_9 : decode cX8_feed 9 = .ok (.iadd, 1) := by decide +kernel
theorem dX8_feed_10 : decode cX8_feed 10 = .ok (.sipush 260, 3) := by decide +kernel
theorem dX8_feed_13 : decode cX8_feed 13 = .ok (.if_icmp .le 5, 3) := by decide +kernel
theorem dX8_feed_16 : decode cX8_feed 16 = .ok (.iconst (-1), 1) := by decide +kernel
theorem dX8_feed_17 : decode cX8_feed 17 = .ok (.ireturn, 1) := by decide +kernel
theorem dX8_feed_18 : decode cX8_feed 18 = .ok (.aload_n 0, 1) := by decide +kernel
theorem dX8_feed_19 : decode cX8_feed 19 = .ok (.getfield 44, 3) := by decide +kernel
theorem dX8_feed_22 : decode cX8_feed 22 = .ok (.iload_n 1, 1) := by decide +kernel
theorem dX8_feed_23 : decode cX8_feed 23 = .ok (.invokevirtual 134, 3) := by decide +kernel
theorem dX8_feed_26 : decode cX8_feed 26 = .ok (.aload_n 0, 1) := by decide +kernel
theorem dX8_feed_27 : decode cX8_feed 27 = .ok (.getfield 44, 3) := by decide +kernel
theorem dX8_feed_30 : decode cX8_feed 30 = .ok (.iload_n 2, 1) := by decide +kernel
theorem dX8_feed_31 : decode cX8_feed 31 = .ok (.invokevirtual 134, 3) := by decide +kernel
theorem dX8_feed_34 : decode cX8_feed 34 = .ok (.aload_n 0, 1) := by decide +kernel
theorem dX8_feed_35 : decode cX8_feed 35 = .ok (.getfield 44, 3) := by decide +kernel
theorem dX8_feed_38 : decode cX8_feed 38 = .ok (.iload_n 3, 1) := by decide +kernel
theorem dX8_feed_39 : decode cX8_feed 39 = .ok (.invokevirtual 134, 3) := by decide +kernel
theorem dX8_feed_42 : decode cX8_feed 42 = .ok (.aload_n 0, 1) := by decide +kernel
theorem dX8_feed_43 : decode cX8_feed 43 = .ok (.getfield 44, 3) := by decide +kernel
theorem dX8_feed_46 : decode cX8_feed 46 = .ok (.iload 4, 2) := by decide +kernel
theorem dX8_feed_48 : decode cX8_feed 48 = .ok (.invokevirtual 134, 3) := by decide +kernel
theorem dX8_feed_51 : decode cX8_feed 51 = .ok (.aload_n 0, 1) := by decide +kernel
theorem dX8_feed_52 : decode cX8_feed 52 = .ok (.getfield 44, 3) := by decide +kernel
theorem dX8_feed_55 : decode cX8_feed 55 = .ok (.iload 5, 2) := by decide +kernel
theorem dX8_feed_57 : decode cX8_feed 57 = .ok (.invokevirtual 134, 3) := by decide +kernel
theorem dX8_feed_60 : decode cX8_feed 60 = .ok (.aload_n 0, 1) := by decide +kernel
theorem dX8_feed_61 : decode cX8_feed 61 = .ok (.getfield 44, 3) := by decide +kernel
theorem dX8_feed_64 : decode cX8_feed 64 = .ok (.getfield 128, 3) := by decide +kernel
theorem dX8_feed_67 : decode cX8_feed 67 = .ok (.ireturn, 1) := by decide +kernel
theorem dX8_law_0 : decode cX8_law 0 = .ok (.iload_n 1, 1) := by decide +kernel
theorem dX8_law_1 : decode cX8_law 1 = .ok (.iconst 1, 1) := by decide +kernel
theorem dX8_law_2 : decode cX8_law 2 = .ok (.sipush 240, 3) := by decide +kernel
theorem dX8_law_5 : decode cX8_law 5 = .ok (.invokestatic 59, 3) := by decide +kernel
theorem dX8_law_8 : decode cX8_law 8 = .ok (.ifCond .eq 14, 3) := by decide +kernel
theorem dX8_law_11 : decode cX8_law 11 = .ok (.aload_n 0, 1) := by decide +kernel
theorem dX8_law_12 : decode cX8_law 12 = .ok (.getfield 44, 3) := by decide +kernel
theorem dX8_law_15 : decode cX8_law 15 = .ok (.getfield 128, 3) := by decide +kernel
theorem dX8_law_18 : decode cX8_law 18 = .ok (.iload_n 1, 1) := by decide +kernel
theorem dX8_law_19 : decode cX8_law 19 = .ok (.if_icmp .ge 5, 3) := by decide +kernel
theorem dX8_law_22 : decode cX8_law 22 = .ok (.iconst (-1), 1) := by decide +kernel
theorem dX8_law_23 : decode cX8_law 23 = .ok (.ireturn, 1) := by decide +kernel
theorem dX8_law_24 : decode cX8_law 24 = .ok (.aload_n 0, 1) := by decide +kernel
theorem dX8_law_25 : decode cX8_law 25 = .ok (.getfield 36, 3) := by decide +kernel
theorem dX8_law_28 : decode cX8_law 28 = .ok (.iload_n 1, 1) := by decide +kernel
theorem dX8_law_29 : decode cX8_law 29 = .ok (.invokevirtual 138, 3) := by decide +kernel
theorem dX8_law_32 : decode cX8_law 32 = .ok (.istore_n 2, 1) := by decide +kernel
theorem dX8_law_33 : decode cX8_law 33 = .ok (.aload_n 0, 1) := by decide +kernel
theorem dX8_law_34 : decode cX8_law 34 = .ok (.getfield 44, 3) := by decide +kernel
theorem dX8_law_37 : decode cX8_law 37 = .ok (.iconst 0, 1) := by decide +kernel
theorem dX8_law_38 : decode cX8_law 38 = .ok (.putfield 128, 3) := by decide +kernel
theorem dX8_law_41 : decode cX8_law 41 = .ok (.iload_n 2, 1) := by decide +kernel
theorem dX8_law_42 : decode cX8_law 42 = .ok (.ifCond .le 17, 3) := by decide +kernel
theorem dX8_law_45 : decode cX8_law 45 = .ok (.aload_n 0, 1) := by decide +kernel
theorem dX8_law_46 : decode cX8_law 46 = .ok (.getfield 32, 3) := by decide +kernel
theorem dX8_law_49 : decode cX8_law 49 = .ok (.aload_n 0, 1) := by decide +kernel
theorem dX8_law_50 : decode cX8_law 50 = .ok (.getfield 36, 3) := by decide +kernel
theorem dX8_law_53 : decode cX8_law 53 = .ok (.getfield 141, 3) := by decide +kernel
theorem dX8_law_56 : decode cX8_law 56 = .ok (.invokevirtual 144, 3) := by decide +kernel
theorem dX8_law_59 : decode cX8_law 59 = .ok (.iload_n 2, 1) := by decide +kernel
theorem dX8_law_60 : decode cX8_law 60 = .ok (.ireturn, 1) := by decide +kernel
theorem dX8_price_0 : decode cX8_price 0 = .ok (.aload_n 0, 1) := by decide +kernel
theorem dX8_price_1 : decode cX8_price 1 = .ok (.iload_n 1, 1) := by decide +kernel
theorem dX8_price_2 : decode cX8_price 2 = .ok (.invokevirtual 88, 3) := by decide +kernel
theorem dX8_price_5 : decode cX8_price 5 = .ok (.ifCond .eq 18, 3) := by decide +kernel
theorem dX8_price_8 : decode cX8_price 8 = .ok (.aload_n 0, 1) := by decide +kernel
theorem dX8_price_9 : decode cX8_price 9 = .ok (.getfield 25, 3) := by decide +kernel
theorem dX8_price_12 : decode cX8_price 12 = .ok (.aload_n 0, 1) := by decide +kernel
theorem dX8_price_13 : decode cX8_price 13 = .ok (.getfield 20, 3) := by decide +kernel
theorem dX8_price_16 : decode cX8_price 16 = .ok (.iload_n 1, 1) := by decide +kernel
theorem dX8_price_17 : decode cX8_price 17 = .ok (.invokevirtual 150, 3) := by decide +kernel
theorem dX8_price_20 : decode cX8_price 20 = .ok (.goto 4, 3) := by decide +kernel
theorem dX8_price_23 : decode cX8_price 23 = .ok (.iconst (-1), 1) := by decide +kernel
theorem dX8_price_24 : decode cX8_price 24 = .ok (.ireturn, 1) := by decide +kernel
theorem dX8_pay_0 : decode cX8_pay 0 = .ok (.iload_n 1, 1) := by decide +kernel
theorem dX8_pay_1 : decode cX8_pay 1 = .ok (.iconst 0, 1) := by decide +kernel
theorem dX8_pay_2 : decode cX8_pay 2 = .ok (.iconst 3, 1) := by decide +kernel
theorem dX8_pay_3 : decode cX8_pay 3 = .ok (.invokestatic 59, 3) := by decide +kernel
theorem dX8_pay_6 : decode cX8_pay 6 = .ok (.ifCond .eq 21, 3) := by decide +kernel
theorem dX8_pay_9 : decode cX8_pay 9 = .ok (.aload_n 0, 1) := by decide +kernel
theorem dX8_pay_10 : decode cX8_pay 10 = .ok (.iload_n 2, 1) := by decide +kernel
theorem dX8_pay_11 : decode cX8_pay 11 = .ok (.invokevirtual 88, 3) := by decide +kernel
theorem dX8_pay_14 : decode cX8_pay 14 = .ok (.ifCond .eq 13, 3) := by decide +kernel
theorem dX8_pay_17 : decode cX8_pay 17 = .ok (.iload_n 3, 1) := by decide +kernel
theorem dX8_pay_18 : decode cX8_pay 18 = .ok (.iconst 1, 1) := by decide +kernel
theorem dX8_pay_19 : decode cX8_pay 19 = .ok (.bipush 9, 2) := by decide +kernel
theorem dX8_pay_21 : decode cX8_pay 21 = .ok (.invokestatic 59, 3) := by decide +kernel
theorem dX8_pay_24 : decode cX8_pay 24 = .ok (.ifCond .ne 5, 3) := by decide +kernel
theorem dX8_pay_27 : decode cX8_pay 27 = .ok (.iconst (-1), 1) := by decide +kernel
theorem dX8_pay_28 : decode cX8_pay 28 = .ok (.ireturn, 1) := by decide +kernel
theorem dX8_pay_29 : decode cX8_pay 29 = .ok (.aload_n 0, 1) := by decide +kernel
theorem dX8_pay_30 : decode cX8_pay 30 = .ok (.getfield 25, 3) := by decide +kernel
theorem dX8_pay_33 : decode cX8_pay 33 = .ok (.aload_n 0, 1) := by decide +kernel
theorem dX8_pay_34 : decode cX8_pay 34 = .ok (.getfield 20, 3) := by decide +kernel
theorem dX8_pay_37 : decode cX8_pay 37 = .ok (.iload_n 2, 1) := by decide +kernel
theorem dX8_pay_38 : decode cX8_pay 38 = .ok (.invokevirtual 150, 3) := by decide +kernel
theorem dX8_pay_41 : decode cX8_pay 41 = .ok (.iload_n 3, 1) := by decide +kernel
theorem dX8_pay_42 : decode cX8_pay 42 = .ok (.imul, 1) := by decide +kernel
theorem dX8_pay_43 : decode cX8_pay 43 = .ok (.istore 4, 2) := by decide +kernel
theorem dX8_pay_45 : decode cX8_pay 45 = .ok (.aload_n 0, 1) := by decide +kernel
theorem dX8_pay_46 : decode cX8_pay 46 = .ok (.getfield 20, 3) := by decide +kernel
theorem dX8_pay_49 : decode cX8_pay 49 = .ok (.getfield 125, 3) := by decide +kernel
theorem dX8_pay_52 : decode cX8_pay 52 = .ok (.iload_n 1, 1) := by decide +kernel
theorem dX8_pay_53 : decode cX8_pay 53 = .ok (.iaload, 1) := by decide +kernel
theorem dX8_pay_54 : decode cX8_pay 54 = .ok (.iload 4, 2) := by decide +kernel
theorem dX8_pay_56 : decode cX8_pay 56 = .ok (.if_icmp .ge 6, 3) := by decide +kernel
theorem dX8_pay_59 : decode cX8_pay 59 = .ok (.bipush (-2), 2) := by decide +kernel
theorem dX8_pay_61 : decode cX8_pay 61 = .ok (.ireturn, 1) := by decide +kernel
theorem dX8_pay_62 : decode cX8_pay 62 = .ok (.aload_n 0, 1) := by decide +kernel
theorem dX8_pay_63 : decode cX8_pay 63 = .ok (.getfield 20, 3) := by decide +kernel
theorem dX8_pay_66 : decode cX8_pay 66 = .ok (.getfield 75, 3) := by decide +kernel
theorem dX8_pay_69 : decode cX8_pay 69 = .ok (.getfield 154, 3) := by decide +kernel
theorem dX8_pay_72 : decode cX8_pay 72 = .ok (.iload_n 2, 1) := by decide +kernel
theorem dX8_pay_73 : decode cX8_pay 73 = .ok (.iaload, 1) := by decide +kernel
theorem dX8_pay_74 : decode cX8_pay 74 = .ok (.iload_n 3, 1) := by decide +kernel
theorem dX8_pay_75 : decode cX8_pay 75 = .ok (.iadd, 1) := by decide +kernel
theorem dX8_pay_76 : decode cX8_pay 76 = .ok (.bipush 99, 2) := by decide +kernel
theorem dX8_pay_78 : decode cX8_pay 78 = .ok (.if_icmp .le 6, 3) := by decide +kernel
theorem dX8_pay_81 : decode cX8_pay 81 = .ok (.bipush (-3), 2) := by decide +kernel
theorem dX8_pay_83 : decode cX8_pay 83 = .ok (.ireturn, 1) := by decide +kernel
theorem dX8_pay_84 : decode cX8_pay 84 = .ok (.aload_n 0, 1) := by decide +kernel
theorem dX8_pay_85 : decode cX8_pay 85 = .ok (.getfield 20, 3) := by decide +kernel
theorem dX8_pay_88 : decode cX8_pay 88 = .ok (.getfield 125, 3) := by decide +kernel
theorem dX8_pay_91 : decode cX8_pay 91 = .ok (.iload_n 1, 1) := by decide +kernel
theorem dX8_pay_92 : decode cX8_pay 92 = .ok (.dup2, 1) := by decide +kernel
theorem dX8_pay_93 : decode cX8_pay 93 = .ok (.iaload, 1) := by decide +kernel
theorem dX8_pay_94 : decode cX8_pay 94 = .ok (.iload 4, 2) := by decide +kernel
theorem dX8_pay_96 : decode cX8_pay 96 = .ok (.isub, 1) := by decide +kernel
theorem dX8_pay_97 : decode cX8_pay 97 = .ok (.iastore, 1) := by decide +kernel
theorem dX8_pay_98 : decode cX8_pay 98 = .ok (.aload_n 0, 1) := by decide +kernel
theorem dX8_pay_99 : decode cX8_pay 99 = .ok (.getfield 20, 3) := by decide +kernel
theorem dX8_pay_102 : decode cX8_pay 102 = .ok (.getfield 75, 3) := by decide +kernel
theorem dX8_pay_105 : decode cX8_pay 105 = .ok (.getfield 154, 3) := by decide +kernel
theorem dX8_pay_108 : decode cX8_pay 108 = .ok (.iload_n 2, 1) := by decide +kernel
theorem dX8_pay_109 : decode cX8_pay 109 = .ok (.dup2, 1) := by decide +kernel
theorem dX8_pay_110 : decode cX8_pay 110 = .ok (.iaload, 1) := by decide +kernel
theorem dX8_pay_111 : decode cX8_pay 111 = .ok (.iload_n 3, 1) := by decide +kernel
theorem dX8_pay_112 : decode cX8_pay 112 = .ok (.iadd, 1) := by decide +kernel
theorem dX8_pay_113 : decode cX8_pay 113 = .ok (.iastore, 1) := by decide +kernel
theorem dX8_pay_114 : decode cX8_pay 114 = .ok (.iload 4, 2) := by decide +kernel
theorem dX8_pay_116 : decode cX8_pay 116 = .ok (.ireturn, 1) := by decide +kernel
theorem dX8_clouds_0 : decode cX8_clouds 0 = .ok (.iload_n 1, 1) := by decide +kernel
theorem dX8_clouds_1 : decode cX8_clouds 1 = .ok (.iconst 0, 1) := by decide +kernel
theorem dX8_clouds_2 : decode cX8_clouds 2 = .ok (.sipush 255, 3) := by decide +kernel
theorem dX8_clouds_5 : decode cX8_clouds 5 = .ok (.invokestatic 59, 3) := by decide +kernel
theorem dX8_clouds_8 : decode cX8_clouds 8 = .ok (.ifCond .ne 5, 3) := by decide +kernel
theorem dX8_clouds_11 : decode cX8_clouds 11 = .ok (.iconst 0, 1) := by decide +kernel
theorem dX8_clouds_12 : decode cX8_clouds 12 = .ok (.ireturn, 1) := by decide +kernel
theorem dX8_clouds_13 : decode cX8_clouds 13 = .ok (.aload_n 0, 1) := by decide +kernel
theorem dX8_clouds_14 : decode cX8_clouds 14 = .ok (.getfield 20, 3) := by decide +kernel
theorem dX8_clouds_17 : decode cX8_clouds 17 = .ok (.iload_n 1, 1) := by decide +kernel
theorem dX8_clouds_18 : decode cX8_clouds 18 = .ok (.putfield 157, 3) := by decide +kernel
theorem dX8_clouds_21 : decode cX8_clouds 21 = .ok (.iconst 1, 1) := by decide +kernel
theorem dX8_clouds_22 : decode cX8_clouds 22 = .ok (.ireturn, 1) := by decide +kernel
theorem dX8_lit_0 : decode cX8_lit 0 = .ok (.aload_n 0, 1) := by decide +kernel
theorem dX8_lit_1 : decode cX8_lit 1 = .ok (.getfield 20, 3) := by decide +kernel
theorem dX8_lit_4 : decode cX8_lit 4 = .ok (.getfield 75, 3) := by decide +kernel
theorem dX8_lit_7 : decode cX8_lit 7 = .ok (.iload_n 1, 1) := by decide +kernel
theorem dX8_lit_8 : decode cX8_lit 8 = .ok (.invokevirtual 79, 3) := by decide +kernel
theorem dX8_lit_11 : decode cX8_lit 11 = .ok (.ifCond .ne 22, 3) := by decide +kernel
theorem dX8_lit_14 : decode cX8_lit 14 = .ok (.aload_n 0, 1) := by decide +kernel
theorem dX8_lit_15 : decode cX8_lit 15 = .ok (.getfield 20, 3) := by decide +kernel
theorem dX8_lit_18 : decode cX8_lit 18 = .ok (.getfield 98, 3) := by decide +kernel
theorem dX8_lit_21 : decode cX8_lit 21 = .ok (.iload_n 1, 1) := by decide +kernel
theorem dX8_lit_22 : decode cX8_lit 22 = .ok (.bipush 12, 2) := by decide +kernel
theorem dX8_lit_24 : decode cX8_lit 24 = .ok (.isub, 1) := by decide +kernel
theorem dX8_lit_25 : decode cX8_lit 25 = .ok (.invokevirtual 122, 3) := by decide +kernel
theorem dX8_lit_28 : decode cX8_lit 28 = .ok (.ifCond .ne 5, 3) := by decide +kernel
theorem dX8_lit_31 : decode cX8_lit 31 = .ok (.iconst (-1), 1) := by decide +kernel
theorem dX8_lit_32 : decode cX8_lit 32 = .ok (.ireturn, 1) := by decide +kernel
theorem dX8_lit_33 : decode cX8_lit 33 = .ok (.aload_n 0, 1) := by decide +kernel
theorem dX8_lit_34 : decode cX8_lit 34 = .ok (.getfield 20, 3) := by decide +kernel
theorem dX8_lit_37 : decode cX8_lit 37 = .ok (.iload_n 1, 1) := by decide +kernel
theorem dX8_lit_38 : decode cX8_lit 38 = .ok (.invokevirtual 160, 3) := by decide +kernel
theorem dX8_lit_41 : decode cX8_lit 41 = .ok (.ifCond .eq 7, 3) := by decide +kernel
theorem dX8_lit_44 : decode cX8_lit 44 = .ok (.iconst 1, 1) := by decide +kernel
theorem dX8_lit_45 : decode cX8_lit 45 = .ok (.goto 4, 3) := by decide +kernel
theorem dX8_lit_48 : decode cX8_lit 48 = .ok (.iconst 0, 1) := by decide +kernel
theorem dX8_lit_49 : decode cX8_lit 49 = .ok (.ireturn, 1) := by decide +kernel
theorem dX8_pull_0 : decode cX8_pull 0 = .ok (.aload_n 0, 1) := by decide +kernel
theorem dX8_pull_1 : decode cX8_pull 1 = .ok (.getfield 20, 3) := by decide +kernel
theorem dX8_pull_4 : decode cX8_pull 4 = .ok (.getfield 98, 3) := by decide +kernel
theorem dX8_pull_7 : decode cX8_pull 7 = .ok (.iload_n 1, 1) := by decide +kernel
theorem dX8_pull_8 : decode cX8_pull 8 = .ok (.invokevirtual 163, 3) := by decide +kernel
theorem dX8_pull_11 : decode cX8_pull 11 = .ok (.ifCond .eq 22, 3) := by decide +kernel
theorem dX8_pull_14 : decode cX8_pull 14 = .ok (.aload_n 0, 1) := by decide +kernel
theorem dX8_pull_15 : decode cX8_pull 15 = .ok (.getfield 20, 3) := by decide +kernel
theorem dX8_pull_18 : decode cX8_pull 18 = .ok (.iload_n 2, 1) := by decide +kernel
theorem dX8_pull_19 : decode cX8_pull 19 = .ok (.invokevirtual 166, 3) := by decide +kernel
theorem dX8_pull_22 : decode cX8_pull 22 = .ok (.ifCond .eq 11, 3) := by decide +kernel
theorem dX8_pull_25 : decode cX8_pull 25 = .ok (.iload_n 2, 1) := by decide +kernel
theorem dX8_pull_26 : decode cX8_pull 26 = .ok (.bipush 12, 2) := by decide +kernel
theorem dX8_pull_28 : decode cX8_pull 28 = .ok (.iload_n 1, 1) := by decide +kernel
theorem dX8_pull_29 : decode cX8_pull 29 = .ok (.iadd, 1) := by decide +kernel
theorem dX8_pull_30 : decode cX8_pull 30 = .ok (.if_icmp .ne 5, 3) := by decide +kernel
theorem dX8_pull_33 : decode cX8_pull 33 = .ok (.iconst (-1), 1) := by decide +kernel
theorem dX8_pull_34 : decode cX8_pull 34 = .ok (.ireturn, 1) := by decide +kernel
theorem dX8_pull_35 : decode cX8_pull 35 = .ok (.aload_n 0, 1) := by decide +kernel
theorem dX8_pull_36 : decode cX8_pull 36 = .ok (.getfield 25, 3) := by decide +kernel
theorem dX8_pull_39 : decode cX8_pull 39 = .ok (.aload_n 0, 1) := by decide +kernel
theorem dX8_pull_40 : decode cX8_pull 40 = .ok (.getfield 20, 3) := by decide +kernel
theorem dX8_pull_43 : decode cX8_pull 43 = .ok (.iload_n 1, 1) := by decide +kernel
theorem dX8_pull_44 : decode cX8_pull 44 = .ok (.iload_n 2, 1) := by decide +kernel
theorem dX8_pull_45 : decode cX8_pull 45 = .ok (.invokevirtual 169, 3) := by decide +kernel
theorem dX8_pull_48 : decode cX8_pull 48 = .ok (.ireturn, 1) := by decide +kernel
theorem dX8_target_0 : decode cX8_target 0 = .ok (.aload_n 0, 1) := by decide +kernel
theorem dX8_target_1 : decode cX8_target 1 = .ok (.getfield 20, 3) := by decide +kernel
theorem dX8_target_4 : decode cX8_target 4 = .ok (.getfield 98, 3) := by decide +kernel
theorem dX8_target_7 : decode cX8_target 7 = .ok (.iload_n 1, 1) := by decide +kernel
theorem dX8_target_8 : decode cX8_target 8 = .ok (.invokevirtual 163, 3) := by decide +kernel
theorem dX8_target_11 : decode cX8_target 11 = .ok (.ifCond .ne 5, 3) := by decide +kernel
theorem dX8_target_14 : decode cX8_target 14 = .ok (.iconst (-1), 1) := by decide +kernel
theorem dX8_target_15 : decode cX8_target 15 = .ok (.ireturn, 1) := by decide +kernel
theorem dX8_target_16 : decode cX8_target 16 = .ok (.aload_n 0, 1) := by decide +kernel
theorem dX8_target_17 : decode cX8_target 17 = .ok (.getfield 25, 3) := by decide +kernel
theorem dX8_target_20 : decode cX8_target 20 = .ok (.aload_n 0, 1) := by decide +kernel
theorem dX8_target_21 : decode cX8_target 21 = .ok (.getfield 20, 3) := by decide +kernel
theorem dX8_target_24 : decode cX8_target 24 = .ok (.iload_n 1, 1) := by decide +kernel
theorem dX8_target_25 : decode cX8_target 25 = .ok (.invokevirtual 173, 3) := by decide +kernel
theorem dX8_target_28 : decode cX8_target 28 = .ok (.istore_n 2, 1) := by decide +kernel
theorem dX8_target_29 : decode cX8_target 29 = .ok (.iload_n 2, 1) := by decide +kernel
theorem dX8_target_30 : decode cX8_target 30 = .ok (.iconst (-1), 1) := by decide +kernel
theorem dX8_target_31 : decode cX8_target 31 = .ok (.if_icmp .ne 8, 3) := by decide +kernel
theorem dX8_target_34 : decode cX8_target 34 = .ok (.bipush (-2), 2) := by decide +kernel
theorem dX8_target_36 : decode cX8_target 36 = .ok (.goto 4, 3) := by decide +kernel
theorem dX8_target_39 : decode cX8_target 39 = .ok (.iload_n 2, 1) := by decide +kernel
theorem dX8_target_40 : decode cX8_target 40 = .ok (.ireturn, 1) := by decide +kernel
theorem dX8_hours_0 : decode cX8_hours 0 = .ok (.iload_n 1, 1) := by decide +kernel
theorem dX8_hours_1 : decode cX8_hours 1 = .ok (.iconst 1, 1) := by decide +kernel
theorem dX8_hours_2 : decode cX8_hours 2 = .ok (.bipush 24, 2) := by decide +kernel
theorem dX8_hours_4 : decode cX8_hours 4 = .ok (.invokestatic 59, 3) := by decide +kernel
theorem dX8_hours_7 : decode cX8_hours 7 = .ok (.ifCond .eq 18, 3) := by decide +kernel
theorem dX8_hours_10 : decode cX8_hours 10 = .ok (.aload_n 0, 1) := by decide +kernel
theorem dX8_hours_11 : decode cX8_hours 11 = .ok (.getfield 25, 3) := by decide +kernel
theorem dX8_hours_14 : decode cX8_hours 14 = .ok (.aload_n 0, 1) := by decide +kernel
theorem dX8_hours_15 : decode cX8_hours 15 = .ok (.getfield 20, 3) := by decide +kernel
theorem dX8_hours_18 : decode cX8_hours 18 = .ok (.iload_n 1, 1) := by decide +kernel
theorem dX8_hours_19 : decode cX8_hours 19 = .ok (.invokevirtual 176, 3) := by decide +kernel
theorem dX8_hours_22 : decode cX8_hours 22 = .ok (.goto 4, 3) := by decide +kernel
theorem dX8_hours_25 : decode cX8_hours 25 = .ok (.iconst (-1), 1) := by decide +kernel
theorem dX8_hours_26 : decode cX8_hours 26 = .ok (.ireturn, 1) := by decide +kernel
theorem dX8_hour_0 : decode cX8_hour 0 = .ok (.iload_n 1, 1) := by decide +kernel
theorem dX8_hour_1 : decode cX8_hour 1 = .ok (.iconst 0, 1) := by decide +kernel
theorem dX8_hour_2 : decode cX8_hour 2 = .ok (.bipush 9, 2) := by decide +kernel
theorem dX8_hour_4 : decode cX8_hour 4 = .ok (.invokestatic 59, 3) := by decide +kernel
theorem dX8_hour_7 : decode cX8_hour 7 = .ok (.ifCond .eq 18, 3) := by decide +kernel
theorem dX8_hour_10 : decode cX8_hour 10 = .ok (.aload_n 0, 1) := by decide +kernel
theorem dX8_hour_11 : decode cX8_hour 11 = .ok (.getfield 25, 3) := by decide +kernel
theorem dX8_hour_14 : decode cX8_hour 14 = .ok (.aload_n 0, 1) := by decide +kernel
theorem dX8_hour_15 : decode cX8_hour 15 = .ok (.getfield 20, 3) := by decide +kernel
theorem dX8_hour_18 : decode cX8_hour 18 = .ok (.iload_n 1, 1) := by decide +kernel
theorem dX8_hour_19 : decode cX8_hour 19 = .ok (.invokevirtual 179, 3) := by decide +kernel
theorem dX8_hour_22 : decode cX8_hour 22 = .ok (.goto 4, 3) := by decide +kernel
theorem dX8_hour_25 : decode cX8_hour 25 = .ok (.iconst (-1), 1) := by decide +kernel
theorem dX8_hour_26 : decode cX8_hour 26 = .ok (.ireturn, 1) := by decide +kernel
theorem dX8_tried_0 : decode cX8_tried 0 = .ok (.iload_n 1, 1) := by decide +kernel
theorem dX8_tried_1 : decode cX8_tried 1 = .ok (.iconst 1, 1) := by decide +kernel
theorem dX8_tried_2 : decode cX8_tried 2 = .ok (.bipush 24, 2) := by decide +kernel
theorem dX8_tried_4 : decode cX8_tried 4 = .ok (.invokestatic 59, 3) := by decide +kernel
theorem dX8_tried_7 : decode cX8_tried 7 = .ok (.ifCond .eq 11, 3) := by decide +kernel
theorem dX8_tried_10 : decode cX8_tried 10 = .ok (.aload_n 0, 1) := by decide +kernel
theorem dX8_tried_11 : decode cX8_tried 11 = .ok (.iload_n 2, 1) := by decide +kernel
theorem dX8_tried_12 : decode cX8_tried 12 = .ok (.invokevirtual 182, 3) := by decide +kernel
theorem dX8_tried_15 : decode cX8_tried 15 = .ok (.ifCond .ne 5, 3) := by decide +kernel
theorem dX8_tried_18 : decode cX8_tried 18 = .ok (.iconst (-1), 1) := by decide +kernel
theorem dX8_tried_19 : decode cX8_tried 19 = .ok (.ireturn, 1) := by decide +kernel
theorem dX8_tried_20 : decode cX8_tried 20 = .ok (.aload_n 0, 1) := by decide +kernel
theorem dX8_tried_21 : decode cX8_tried 21 = .ok (.getfield 10, 3) := by decide +kernel
theorem dX8_tried_24 : decode cX8_tried 24 = .ok (.getfield 185, 3) := by decide +kernel
theorem dX8_tried_27 : decode cX8_tried 27 = .ok (.astore_n 3, 1) := by decide +kernel
theorem dX8_tried_28 : decode cX8_tried 28 = .ok (.aload_n 3, 1) := by decide +kernel
theorem dX8_tried_29 : decode cX8_tried 29 = .ok (.aload_n 0, 1) := by decide +kernel
theorem dX8_tried_30 : decode cX8_tried 30 = .ok (.getfield 20, 3) := by decide +kernel
theorem dX8_tried_33 : decode cX8_tried 33 = .ok (.invokevirtual 188, 3) := by decide +kernel
theorem dX8_tried_36 : decode cX8_tried 36 = .ok (.aload_n 0, 1) := by decide +kernel
theorem dX8_tried_37 : decode cX8_tried 37 = .ok (.getfield 25, 3) := by decide +kernel
theorem dX8_tried_40 : decode cX8_tried 40 = .ok (.aload_n 3, 1) := by decide +kernel
theorem dX8_tried_41 : decode cX8_tried 41 = .ok (.iload_n 1, 1) := by decide +kernel
theorem dX8_tried_42 : decode cX8_tried 42 = .ok (.invokevirtual 176, 3) := by decide +kernel
theorem dX8_tried_45 : decode cX8_tried 45 = .ok (.istore 4, 2) := by decide +kernel
theorem dX8_tried_47 : decode cX8_tried 47 = .ok (.iload_n 2, 1) := by decide +kernel
theorem dX8_tried_48 : decode cX8_tried 48 = .ok (.ifCond .ne 6, 3) := by decide +kernel
theorem dX8_tried_51 : decode cX8_tried 51 = .ok (.iload 4, 2) := by decide +kernel
theorem dX8_tried_53 : decode cX8_tried 53 = .ok (.ireturn, 1) := by decide +kernel
theorem dX8_tried_54 : decode cX8_tried 54 = .ok (.iload_n 2, 1) := by decide +kernel
theorem dX8_tried_55 : decode cX8_tried 55 = .ok (.iconst 1, 1) := by decide +kernel
theorem dX8_tried_56 : decode cX8_tried 56 = .ok (.if_icmp .ne 11, 3) := by decide +kernel
theorem dX8_tried_59 : decode cX8_tried 59 = .ok (.aload_n 3, 1) := by decide +kernel
theorem dX8_tried_60 : decode cX8_tried 60 = .ok (.getfield 98, 3) := by decide +kernel
theorem dX8_tried_63 : decode cX8_tried 63 = .ok (.invokevirtual 191, 3) := by decide +kernel
theorem dX8_tried_66 : decode cX8_tried 66 = .ok (.ireturn, 1) := by decide +kernel
theorem dX8_tried_67 : decode cX8_tried 67 = .ok (.iload_n 2, 1) := by decide +kernel
theorem dX8_tried_68 : decode cX8_tried 68 = .ok (.iconst 2, 1) := by decide +kernel
theorem dX8_tried_69 : decode cX8_tried 69 = .ok (.if_icmp .ne 11, 3) := by decide +kernel
theorem dX8_tried_72 : decode cX8_tried 72 = .ok (.aload_n 3, 1) := by decide +kernel
theorem dX8_tried_73 : decode cX8_tried 73 = .ok (.getfield 98, 3) := by decide +kernel
theorem dX8_tried_76 : decode cX8_tried 76 = .ok (.invokevirtual 195, 3) := by decide +kernel
theorem dX8_tried_79 : decode cX8_tried 79 = .ok (.ireturn, 1) := by decide +kernel
theorem dX8_tried_80 : decode cX8_tried 80 = .ok (.aload_n 3, 1) := by decide +kernel
theorem dX8_tried_81 : decode cX8_tried 81 = .ok (.getfield 98, 3) := by decide +kernel
theorem dX8_tried_84 : decode cX8_tried 84 = .ok (.iload_n 2, 1) := by decide +kernel
theorem dX8_tried_85 : decode cX8_tried 85 = .ok (.bipush 10, 2) := by decide +kernel
theorem dX8_tried_87 : decode cX8_tried 87 = .ok (.irem, 1) := by decide +kernel
theorem dX8_tried_88 : decode cX8_tried 88 = .ok (.iload_n 2, 1) := by decide +kernel
theorem dX8_tried_89 : decode cX8_tried 89 = .ok (.bipush 10, 2) := by decide +kernel
theorem dX8_tried_91 : decode cX8_tried 91 = .ok (.idiv, 1) := by decide +kernel
theorem dX8_tried_92 : decode cX8_tried 92 = .ok (.iconst 1, 1) := by decide +kernel
theorem dX8_tried_93 : decode cX8_tried 93 = .ok (.if_icmp .ne 7, 3) := by decide +kernel
theorem dX8_tried_96 : decode cX8_tried 96 = .ok (.iconst 1, 1) := by decide +kernel
theorem dX8_tried_97 : decode cX8_tried 97 = .ok (.goto 21, 3) := by decide +kernel
theorem dX8_tried_100 : decode cX8_tried 100 = .ok (.iload_n 2, 1) := by decide +kernel
theorem dX8_tried_101 : decode cX8_tried 101 = .ok (.bipush 10, 2) := by decide +kernel
theorem dX8_tried_103 : decode cX8_tried 103 = .ok (.idiv, 1) := by decide +kernel
theorem dX8_tried_104 : decode cX8_tried 104 = .ok (.iconst 2, 1) := by decide +kernel
theorem dX8_tried_105 : decode cX8_tried 105 = .ok (.if_icmp .ne 7, 3) := by decide +kernel
theorem dX8_tried_108 : decode cX8_tried 108 = .ok (.iconst 0, 1) := by decide +kernel
theorem dX8_tried_109 : decode cX8_tried 109 = .ok (.goto 9, 3) := by decide +kernel
theorem dX8_tried_112 : decode cX8_tried 112 = .ok (.iload_n 2, 1) := by decide +kernel
theorem dX8_tried_113 : decode cX8_tried 113 = .ok (.bipush 10, 2) := by decide +kernel
theorem dX8_tried_115 : decode cX8_tried 115 = .ok (.idiv, 1) := by decide +kernel
theorem dX8_tried_116 : decode cX8_tried 116 = .ok (.iconst 1, 1) := by decide +kernel
theorem dX8_tried_117 : decode cX8_tried 117 = .ok (.isub, 1) := by decide +kernel
theorem dX8_tried_118 : decode cX8_tried 118 = .ok (.invokevirtual 198, 3) := by decide +kernel
theorem dX8_tried_121 : decode cX8_tried 121 = .ok (.ireturn, 1) := by decide +kernel
theorem dX8_herdIs_0 : decode cX8_herdIs 0 = .ok (.aload_n 0, 1) := by decide +kernel
theorem dX8_herdIs_1 : decode cX8_herdIs 1 = .ok (.getfield 20, 3) := by decide +kernel
theorem dX8_herdIs_4 : decode cX8_herdIs 4 = .ok (.getfield 98, 3) := by decide +kernel
theorem dX8_herdIs_7 : decode cX8_herdIs 7 = .ok (.iload_n 1, 1) := by decide +kernel
theorem dX8_herdIs_8 : decode cX8_herdIs 8 = .ok (.invokevirtual 122, 3) := by decide +kernel
theorem dX8_herdIs_11 : decode cX8_herdIs 11 = .ok (.ifCond .eq 18, 3) := by decide +kernel
theorem dX8_herdIs_14 : decode cX8_herdIs 14 = .ok (.aload_n 0, 1) := by decide +kernel
theorem dX8_herdIs_15 : decode cX8_herdIs 15 = .ok (.getfield 20, 3) := by decide +kernel
theorem dX8_herdIs_18 : decode cX8_herdIs 18 = .ok (.getfield 98, 3) := by decide +kernel
theorem dX8_herdIs_21 : decode cX8_herdIs 21 = .ok (.iload_n 1, 1) := by decide +kernel
theorem dX8_herdIs_22 : decode cX8_herdIs 22 = .ok (.iload_n 2, 1) := by decide +kernel
theorem dX8_herdIs_23 : decode cX8_herdIs 23 = .ok (.invokevirtual 198, 3) := by decide +kernel
theorem dX8_herdIs_26 : decode cX8_herdIs 26 = .ok (.goto 4, 3) := by decide +kernel
theorem dX8_herdIs_29 : decode cX8_herdIs 29 = .ok (.iconst (-1), 1) := by decide +kernel
theorem dX8_herdIs_30 : decode cX8_herdIs 30 = .ok (.ireturn, 1) := by decide +kernel
theorem dX8_lampIs_0 : decode cX8_lampIs 0 = .ok (.aload_n 0, 1) := by decide +kernel
theorem dX8_lampIs_1 : decode cX8_lampIs 1 = .ok (.getfield 20, 3) := by decide +kernel
theorem dX8_lampIs_4 : decode cX8_lampIs 4 = .ok (.getfield 75, 3) := by decide +kernel
theorem dX8_lampIs_7 : decode cX8_lampIs 7 = .ok (.iload_n 1, 1) := by decide +kernel
theorem dX8_lampIs_8 : decode cX8_lampIs 8 = .ok (.invokevirtual 79, 3) := by decide +kernel
theorem dX8_lampIs_11 : decode cX8_lampIs 11 = .ok (.ifCond .eq 18, 3) := by decide +kernel
theorem dX8_lampIs_14 : decode cX8_lampIs 14 = .ok (.aload_n 0, 1) := by decide +kernel
theorem dX8_lampIs_15 : decode cX8_lampIs 15 = .ok (.getfield 20, 3) := by decide +kernel
theorem dX8_lampIs_18 : decode cX8_lampIs 18 = .ok (.getfield 75, 3) := by decide +kernel
theorem dX8_lampIs_21 : decode cX8_lampIs 21 = .ok (.iload_n 1, 1) := by decide +kernel
theorem dX8_lampIs_22 : decode cX8_lampIs 22 = .ok (.iload_n 2, 1) := by decide +kernel
theorem dX8_lampIs_23 : decode cX8_lampIs 23 = .ok (.invokevirtual 202, 3) := by decide +kernel
theorem dX8_lampIs_26 : decode cX8_lampIs 26 = .ok (.goto 4, 3) := by decide +kernel
theorem dX8_lampIs_29 : decode cX8_lampIs 29 = .ok (.iconst (-1), 1) := by decide +kernel
theorem dX8_lampIs_30 : decode cX8_lampIs 30 = .ok (.ireturn, 1) := by decide +kernel
theorem dX8_led_0 : decode cX8_led 0 = .ok (.iload_n 1, 1) := by decide +kernel
theorem dX8_led_1 : decode cX8_led 1 = .ok (.iconst 0, 1) := by decide +kernel
theorem dX8_led_2 : decode cX8_led 2 = .ok (.bipush 18, 2) := by decide +kernel
theorem dX8_led_4 : decode cX8_led 4 = .ok (.invokestatic 59, 3) := by decide +kernel
theorem dX8_led_7 : decode cX8_led 7 = .ok (.ifCond .eq 15, 3) := by decide +kernel
theorem dX8_led_10 : decode cX8_led 10 = .ok (.aload_n 0, 1) := by decide +kernel
theorem dX8_led_11 : decode cX8_led 11 = .ok (.getfield 20, 3) := by decide +kernel
theorem dX8_led_14 : decode cX8_led 14 = .ok (.getfield 203, 3) := by decide +kernel
theorem dX8_led_17 : decode cX8_led 17 = .ok (.iload_n 1, 1) := by decide +kernel
theorem dX8_led_18 : decode cX8_led 18 = .ok (.iaload, 1) := by decide +kernel
theorem dX8_led_19 : decode cX8_led 19 = .ok (.goto 4, 3) := by decide +kernel
theorem dX8_led_22 : decode cX8_led 22 = .ok (.iconst (-1), 1) := by decide +kernel
theorem dX8_led_23 : decode cX8_led 23 = .ok (.ireturn, 1) := by decide +kernel
theorem dX8_plan_0 : decode cX8_plan 0 = .ok (.iload_n 1, 1) := by decide +kernel
theorem dX8_plan_1 : decode cX8_plan 1 = .ok (.iconst 0, 1) := by decide +kernel
theorem dX8_plan_2 : decode cX8_plan 2 = .ok (.sipush 9999, 3) := by decide +kernel
theorem dX8_plan_5 : decode cX8_plan 5 = .ok (.invokestatic 59, 3) := by decide +kernel
theorem dX8_plan_8 : decode cX8_plan 8 = .ok (.ifCond .eq 12, 3) := by decide +kernel
theorem dX8_plan_11 : decode cX8_plan 11 = .ok (.iload_n 2, 1) := by decide +kernel
theorem dX8_plan_12 : decode cX8_plan 12 = .ok (.iconst 0, 1) := by decide +kernel
theorem dX8_plan_13 : decode cX8_plan 13 = .ok (.iconst 2, 1) := by decide +kernel
theorem dX8_plan_14 : decode cX8_plan 14 = .ok (.invokestatic 59, 3) := by decide +kernel
theorem dX8_plan_17 : decode cX8_plan 17 = .ok (.ifCond .ne 5, 3) := by decide +kernel
theorem dX8_plan_20 : decode cX8_plan 20 = .ok (.iconst (-1), 1) := by decide +kernel
theorem dX8_plan_21 : decode cX8_plan 21 = .ok (.ireturn, 1) := by decide +kernel
theorem dX8_plan_22 : decode cX8_plan 22 = .ok (.aload_n 0, 1) := by decide +kernel
theorem dX8_plan_23 : decode cX8_plan 23 = .ok (.getfield 10, 3) := by decide +kernel
theorem dX8_plan_26 : decode cX8_plan 26 = .ok (.invokevirtual 206, 3) := by decide +kernel
theorem dX8_plan_29 : decode cX8_plan 29 = .ok (.aload_n 0, 1) := by decide +kernel
theorem dX8_plan_30 : decode cX8_plan 30 = .ok (.getfield 10, 3) := by decide +kernel
theorem dX8_plan_33 : decode cX8_plan 33 = .ok (.invokevirtual 209, 3) := by decide +kernel
theorem dX8_plan_36 : decode cX8_plan 36 = .ok (.aload_n 0, 1) := by decide +kernel
theorem dX8_plan_37 : decode cX8_plan 37 = .ok (.getfield 10, 3) := by decide +kernel
theorem dX8_plan_40 : decode cX8_plan 40 = .ok (.iload_n 1, 1) := by decide +kernel
theorem dX8_plan_41 : decode cX8_plan 41 = .ok (.invokevirtual 212, 3) := by decide +kernel
theorem dX8_plan_44 : decode cX8_plan 44 = .ok (.istore_n 3, 1) := by decide +kernel
theorem dX8_plan_45 : decode cX8_plan 45 = .ok (.iload_n 2, 1) := by decide +kernel
theorem dX8_plan_46 : decode cX8_plan 46 = .ok (.ifCond .ne 12, 3) := by decide +kernel
theorem dX8_plan_49 : decode cX8_plan 49 = .ok (.aload_n 0, 1) := by decide +kernel
theorem dX8_plan_50 : decode cX8_plan 50 = .ok (.getfield 10, 3) := by decide +kernel
theorem dX8_plan_53 : decode cX8_plan 53 = .ok (.iload_n 3, 1) := by decide +kernel
theorem dX8_plan_54 : decode cX8_plan 54 = .ok (.invokevirtual 215, 3) := by decide +kernel
theorem dX8_plan_57 : decode cX8_plan 57 = .ok (.ireturn, 1) := by decide +kernel
theorem dX8_plan_58 : decode cX8_plan 58 = .ok (.iload_n 2, 1) := by decide +kernel
theorem dX8_plan_59 : decode cX8_plan 59 = .ok (.iconst 1, 1) := by decide +kernel
theorem dX8_plan_60 : decode cX8_plan 60 = .ok (.if_icmp .ne 14, 3) := by decide +kernel
theorem dX8_plan_63 : decode cX8_plan 63 = .ok (.aload_n 0, 1) := by decide +kernel
theorem dX8_plan_64 : decode cX8_plan 64 = .ok (.getfield 10, 3) := by decide +kernel
theorem dX8_plan_67 : decode cX8_plan 67 = .ok (.iload_n 3, 1) := by decide +kernel
theorem dX8_plan_68 : decode cX8_plan 68 = .ok (.invokevirtual 218, 3) := by decide +kernel
theorem dX8_plan_71 : decode cX8_plan 71 = .ok (.goto 11, 3) := by decide +kernel
theorem dX8_plan_74 : decode cX8_plan 74 = .ok (.aload_n 0, 1) := by decide +kernel
theorem dX8_plan_75 : decode cX8_plan 75 = .ok (.getfield 10, 3) := by decide +kernel
theorem dX8_plan_78 : decode cX8_plan 78 = .ok (.iload_n 3, 1) := by decide +kernel
theorem dX8_plan_79 : decode cX8_plan 79 = .ok (.invokevirtual 221, 3) := by decide +kernel
theorem dX8_plan_82 : decode cX8_plan 82 = .ok (.ireturn, 1) := by decide +kernel
theorem dX8_safe_0 : decode cX8_safe 0 = .ok (.iload_n 1, 1) := by decide +kernel
theorem dX8_safe_1 : decode cX8_safe 1 = .ok (.iconst 0, 1) := by decide +kernel
theorem dX8_safe_2 : decode cX8_safe 2 = .ok (.iconst 1, 1) := by decide +kernel
theorem dX8_safe_3 : decode cX8_safe 3 = .ok (.invokestatic 59, 3) := by decide +kernel
theorem dX8_safe_6 : decode cX8_safe 6 = .ok (.ifCond .ne 5, 3) := by decide +kernel
theorem dX8_safe_9 : decode cX8_safe 9 = .ok (.iconst (-1), 1) := by decide +kernel
theorem dX8_safe_10 : decode cX8_safe 10 = .ok (.ireturn, 1) := by decide +kernel
theorem dX8_safe_11 : decode cX8_safe 11 = .ok (.aload_n 0, 1) := by decide +kernel
theorem dX8_safe_12 : decode cX8_safe 12 = .ok (.getfield 10, 3) := by decide +kernel
theorem dX8_safe_15 : decode cX8_safe 15 = .ok (.invokevirtual 206, 3) := by decide +kernel
theorem dX8_safe_18 : decode cX8_safe 18 = .ok (.aload_n 0, 1) := by decide +kernel
theorem dX8_safe_19 : decode cX8_safe 19 = .ok (.getfield 10, 3) := by decide +kernel
theorem dX8_safe_22 : decode cX8_safe 22 = .ok (.invokevirtual 209, 3) := by decide +kernel
theorem dX8_safe_25 : decode cX8_safe 25 = .ok (.aload_n 0, 1) := by decide +kernel
theorem dX8_safe_26 : decode cX8_safe 26 = .ok (.getfield 10, 3) := by decide +kernel
theorem dX8_safe_29 : decode cX8_safe 29 = .ok (.invokevirtual 224, 3) := by decide +kernel
theorem dX8_safe_32 : decode cX8_safe 32 = .ok (.istore_n 2, 1) := by decide +kernel
theorem dX8_safe_33 : decode cX8_safe 33 = .ok (.aload_n 0, 1) := by decide +kernel
theorem dX8_safe_34 : decode cX8_safe 34 = .ok (.getfield 10, 3) := by decide +kernel
theorem dX8_safe_37 : decode cX8_safe 37 = .ok (.iload_n 2, 1) := by decide +kernel
theorem dX8_safe_38 : decode cX8_safe 38 = .ok (.invokevirtual 227, 3) := by decide +kernel
theorem dX8_safe_41 : decode cX8_safe 41 = .ok (.ifCond .ne 6, 3) := by decide +kernel
theorem dX8_safe_44 : decode cX8_safe 44 = .ok (.bipush (-2), 2) := by decide +kernel
theorem dX8_safe_46 : decode cX8_safe 46 = .ok (.ireturn, 1) := by decide +kernel
theorem dX8_safe_47 : decode cX8_safe 47 = .ok (.iload_n 1, 1) := by decide +kernel
theorem dX8_safe_48 : decode cX8_safe 48 = .ok (.ifCond .ne 14, 3) := by decide +kernel
theorem dX8_safe_51 : decode cX8_safe 51 = .ok (.aload_n 0, 1) := by decide +kernel
theorem dX8_safe_52 : decode cX8_safe 52 = .ok (.getfield 10, 3) := by decide +kernel
theorem dX8_safe_55 : decode cX8_safe 55 = .ok (.iload_n 2, 1) := by decide +kernel
theorem dX8_safe_56 : decode cX8_safe 56 = .ok (.invokevirtual 215, 3) := by decide +kernel
theorem dX8_safe_59 : decode cX8_safe 59 = .ok (.goto 11, 3) := by decide +kernel
theorem dX8_safe_62 : decode cX8_safe 62 = .ok (.aload_n 0, 1) := by decide +kernel
theorem dX8_safe_63 : decode cX8_safe 63 = .ok (.getfield 10, 3) := by decide +kernel
theorem dX8_safe_66 : decode cX8_safe 66 = .ok (.iload_n 2, 1) := by decide +kernel
theorem dX8_safe_67 : decode cX8_safe 67 = .ok (.invokevirtual 218, 3) := by decide +kernel
theorem dX8_safe_70 : decode cX8_safe 70 = .ok (.ireturn, 1) := by decide +kernel
theorem dX8_place_0 : decode cX8_place 0 = .ok (.aload_n 0, 1) := by decide +kernel
theorem dX8_place_1 : decode cX8_place 1 = .ok (.iload_n 1, 1) := by decide +kernel
theorem dX8_place_2 : decode cX8_place 2 = .ok (.invokevirtual 88, 3) := by decide +kernel
theorem dX8_place_5 : decode cX8_place 5 = .ok (.ifCond .eq 12, 3) := by decide +kernel
theorem dX8_place_8 : decode cX8_place 8 = .ok (.iload_n 2, 1) := by decide +kernel
theorem dX8_place_9 : decode cX8_place 9 = .ok (.iconst 0, 1) := by decide +kernel
theorem dX8_place_10 : decode cX8_place 10 = .ok (.iconst 1, 1) := by decide +kernel
theorem dX8_place_11 : decode cX8_place 11 = .ok (.invokestatic 59, 3) := by decide +kernel
theorem dX8_place_14 : decode cX8_place 14 = .ok (.ifCond .ne 5, 3) := by decide +kernel
theorem dX8_place_17 : decode cX8_place 17 = .ok (.iconst (-1), 1) := by decide +kernel
theorem dX8_place_18 : decode cX8_place 18 = .ok (.ireturn, 1) := by decide +kernel
theorem dX8_place_19 : decode cX8_place 19 = .ok (.aload_n 0, 1) := by decide +kernel
theorem dX8_place_20 : decode cX8_place 20 = .ok (.getfield 10, 3) := by decide +kernel
theorem dX8_place_23 : decode cX8_place 23 = .ok (.iload_n 1, 1) := by decide +kernel
theorem dX8_place_24 : decode cX8_place 24 = .ok (.invokevirtual 230, 3) := by decide +kernel
theorem dX8_place_27 : decode cX8_place 27 = .ok (.iload_n 2, 1) := by decide +kernel
theorem dX8_place_28 : decode cX8_place 28 = .ok (.ifCond .ne 13, 3) := by decide +kernel
theorem dX8_place_31 : decode cX8_place 31 = .ok (.aload_n 0, 1) := by decide +kernel
theorem dX8_place_32 : decode cX8_place 32 = .ok (.getfield 10, 3) := by decide +kernel
theorem dX8_place_35 : decode cX8_place 35 = .ok (.getfield 233, 3) := by decide +kernel
theorem dX8_place_38 : decode cX8_place 38 = .ok (.goto 10, 3) := by decide +kernel
theorem dX8_place_41 : decode cX8_place 41 = .ok (.aload_n 0, 1) := by decide +kernel
theorem dX8_place_42 : decode cX8_place 42 = .ok (.getfield 10, 3) := by decide +kernel
theorem dX8_place_45 : decode cX8_place 45 = .ok (.getfield 236, 3) := by decide +kernel
theorem dX8_place_48 : decode cX8_place 48 = .ok (.ireturn, 1) := by decide +kernel
theorem dX8_prices_0 : decode cX8_prices 0 = .ok (.aload_n 0, 1) := by decide +kernel
theorem dX8_prices_1 : decode cX8_prices 1 = .ok (.iload_n 1, 1) := by decide +kernel
theorem dX8_prices_2 : decode cX8_prices 2 = .ok (.invokevirtual 88, 3) := by decide +kernel
theorem dX8_prices_5 : decode cX8_prices 5 = .ok (.ifCond .eq 38, 3) := by decide +kernel
theorem dX8_prices_8 : decode cX8_prices 8 = .ok (.aload_n 0, 1) := by decide +kernel
theorem dX8_prices_9 : decode cX8_prices 9 = .ok (.iload_n 2, 1) := by decide +kernel
theorem dX8_prices_10 : decode cX8_prices 10 = .ok (.invokevirtual 88, 3) := by decide +kernel
theorem dX8_prices_13 : decode cX8_prices 13 = .ok (.ifCond .eq 30, 3) := by decide +kernel
theorem dX8_prices_16 : decode cX8_prices 16 = .ok (.iload_n 1, 1) := by decide +kernel
theorem dX8_prices_17 : decode cX8_prices 17 = .ok (.iload_n 2, 1) := by decide +kernel
theorem dX8_prices_18 : decode cX8_prices 18 = .ok (.if_icmp .eq 25, 3) := by decide +kernel
theorem dX8_prices_21 : decode cX8_prices 21 = .ok (.aload_n 0, 1) := by decide +kernel
theorem dX8_prices_22 : decode cX8_prices 22 = .ok (.getfield 20, 3) := by decide +kernel
theorem dX8_prices_25 : decode cX8_prices 25 = .ok (.iload_n 1, 1) := by decide +kernel
theorem dX8_prices_26 : decode cX8_prices 26 = .ok (.invokevirtual 160, 3) := by decide +kernel
theorem dX8_prices_29 : decode cX8_prices 29 = .ok (.ifCond .ne 14, 3) := by decide +kernel
theorem dX8_prices_32 : decode cX8_prices 32 = .ok (.aload_n 0, 1) := by decide +kernel
theorem dX8_prices_33 : decode cX8_prices 33 = .ok (.getfield 20, 3) := by decide +kernel
theorem dX8_prices_36 : decode cX8_prices 36 = .ok (.iload_n 2, 1) := by decide +kernel
theorem dX8_prices_37 : decode cX8_prices 37 = .ok (.invokevirtual 160, 3) := by decide +kernel
theorem dX8_prices_40 : decode cX8_prices 40 = .ok (.ifCond .eq 6, 3) := by decide +kernel
theorem dX8_prices_43 : decode cX8_prices 43 = .ok (.bipush (-3), 2) := by decide +kernel
theorem dX8_prices_45 : decode cX8_prices 45 = .ok (.ireturn, 1) := by decide +kernel
theorem dX8_prices_46 : decode cX8_prices 46 = .ok (.iload_n 3, 1) := by decide +kernel
theorem dX8_prices_47 : decode cX8_prices 47 = .ok (.iconst 0, 1) := by decide +kernel
theorem dX8_prices_48 : decode cX8_prices 48 = .ok (.sipush 9999, 3) := by decide +kernel
theorem dX8_prices_51 : decode cX8_prices 51 = .ok (.invokestatic 59, 3) := by decide +kernel
theorem dX8_prices_54 : decode cX8_prices 54 = .ok (.ifCond .eq 13, 3) := by decide +kernel
theorem dX8_prices_57 : decode cX8_prices 57 = .ok (.iload 4, 2) := by decide +kernel
theorem dX8_prices_59 : decode cX8_prices 59 = .ok (.iconst 0, 1) := by decide +kernel
theorem dX8_prices_60 : decode cX8_prices 60 = .ok (.iconst 2, 1) := by decide +kernel
theorem dX8_prices_61 : decode cX8_prices 61 = .ok (.invokestatic 59, 3) := by decide +kernel
theorem dX8_prices_64 : decode cX8_prices 64 = .ok (.ifCond .ne 6, 3) := by decide +kernel
theorem dX8_prices_67 : decode cX8_prices 67 = .ok (.bipush (-3), 2) := by decide +kernel
theorem dX8_prices_69 : decode cX8_prices 69 = .ok (.ireturn, 1) := by decide +kernel
theorem dX8_prices_70 : decode cX8_prices 70 = .ok (.aload_n 0, 1) := by decide +kernel
theorem dX8_prices_71 : decode cX8_prices 71 = .ok (.getfield 10, 3) := by decide +kernel
theorem dX8_prices_74 : decode cX8_prices 74 = .ok (.invokevirtual 206, 3) := by decide +kernel
theorem dX8_prices_77 : decode cX8_prices 77 = .ok (.aload_n 0, 1) := by decide +kernel
theorem dX8_prices_78 : decode cX8_prices 78 = .ok (.getfield 10, 3) := by decide +kernel
theorem dX8_prices_81 : decode cX8_prices 81 = .ok (.invokevirtual 209, 3) := by decide +kernel
theorem dX8_prices_84 : decode cX8_prices 84 = .ok (.aload_n 0, 1) := by decide +kernel
theorem dX8_prices_85 : decode cX8_prices 85 = .ok (.getfield 10, 3) := by decide +kernel
theorem dX8_prices_88 : decode cX8_prices 88 = .ok (.iload_n 1, 1) := by decide +kernel
theorem dX8_prices_89 : decode cX8_prices 89 = .ok (.iload_n 2, 1) := by decide +kernel
theorem dX8_prices_90 : decode cX8_prices 90 = .ok (.iload_n 3, 1) := by decide +kernel
theorem dX8_prices_91 : decode cX8_prices 91 = .ok (.invokevirtual 239, 3) := by decide +kernel
theorem dX8_prices_94 : decode cX8_prices 94 = .ok (.aload_n 0, 1) := by decide +kernel
theorem dX8_prices_95 : decode cX8_prices 95 = .ok (.getfield 10, 3) := by decide +kernel
theorem dX8_prices_98 : decode cX8_prices 98 = .ok (.invokevirtual 243, 3) := by decide +kernel
theorem dX8_prices_101 : decode cX8_prices 101 = .ok (.iload 4, 2) := by decide +kernel
theorem dX8_prices_103 : decode cX8_prices 103 = .ok (.ifCond .ne 11, 3) := by decide +kernel
theorem dX8_prices_106 : decode cX8_prices 106 = .ok (.aload_n 0, 1) := by decide +kernel
theorem dX8_prices_107 : decode cX8_prices 107 = .ok (.getfield 10, 3) := by decide +kernel
theorem dX8_prices_110 : decode cX8_prices 110 = .ok (.getfield 246, 3) := by decide +kernel
theorem dX8_prices_113 : decode cX8_prices 113 = .ok (.ireturn, 1) := by decide +kernel
theorem dX8_prices_114 : decode cX8_prices 114 = .ok (.aload_n 0, 1) := by decide +kernel
theorem dX8_prices_115 : decode cX8_prices 115 = .ok (.getfield 10, 3) := by decide +kernel
theorem dX8_prices_118 : decode cX8_prices 118 = .ok (.getfield 246, 3) := by decide +kernel
theorem dX8_prices_121 : decode cX8_prices 121 = .ok (.ifCond .ne 6, 3) := by decide +kernel
theorem dX8_prices_124 : decode cX8_prices 124 = .ok (.bipush (-2), 2) := by decide +kernel
theorem dX8_prices_126 : decode cX8_prices 126 = .ok (.ireturn, 1) := by decide +kernel
theorem dX8_prices_127 : decode cX8_prices 127 = .ok (.iload 4, 2) := by decide +kernel
theorem dX8_prices_129 : decode cX8_prices 129 = .ok (.iconst 1, 1) := by decide +kernel
theorem dX8_prices_130 : decode cX8_prices 130 = .ok (.if_icmp .ne 17, 3) := by decide +kernel
theorem dX8_prices_133 : decode cX8_prices 133 = .ok (.aload_n 0, 1) := by decide +kernel
theorem dX8_prices_134 : decode cX8_prices 134 = .ok (.getfield 10, 3) := by decide +kernel
theorem dX8_prices_137 : decode cX8_prices 137 = .ok (.getfield 233, 3) := by decide +kernel
theorem dX8_prices_140 : decode cX8_prices 140 = .ok (.iconst 5, 1) := by decide +kernel
theorem dX8_prices_141 : decode cX8_prices 141 = .ok (.idiv, 1) := by decide +kernel
theorem dX8_prices_142 : decode cX8_prices 142 = .ok (.iconst 1, 1) := by decide +kernel
theorem dX8_prices_143 : decode cX8_prices 143 = .ok (.iadd, 1) := by decide +kernel
theorem dX8_prices_144 : decode cX8_prices 144 = .ok (.goto 14, 3) := by decide +kernel
theorem dX8_prices_147 : decode cX8_prices 147 = .ok (.aload_n 0, 1) := by decide +kernel
theorem dX8_prices_148 : decode cX8_prices 148 = .ok (.getfield 10, 3) := by decide +kernel
theorem dX8_prices_151 : decode cX8_prices 151 = .ok (.getfield 233, 3) := by decide +kernel
theorem dX8_prices_154 : decode cX8_prices 154 = .ok (.iconst 5, 1) := by decide +kernel
theorem dX8_prices_155 : decode cX8_prices 155 = .ok (.irem, 1) := by decide +kernel
theorem dX8_prices_156 : decode cX8_prices 156 = .ok (.iconst 1, 1) := by decide +kernel
theorem dX8_prices_157 : decode cX8_prices 157 = .ok (.iadd, 1) := by decide +kernel
theorem dX8_prices_158 : decode cX8_prices 158 = .ok (.ireturn, 1) := by decide +kernel
theorem dX8_whoLit_0 : decode cX8_whoLit 0 = .ok (.aload_n 0, 1) := by decide +kernel
theorem dX8_whoLit_1 : decode cX8_whoLit 1 = .ok (.getfield 20, 3) := by decide +kernel
theorem dX8_whoLit_4 : decode cX8_whoLit 4 = .ok (.getfield 98, 3) := by decide +kernel
theorem dX8_whoLit_7 : decode cX8_whoLit 7 = .ok (.invokevirtual 249, 3) := by decide +kernel
theorem dX8_whoLit_10 : decode cX8_whoLit 10 = .ok (.invokestatic 252, 3) := by decide +kernel
theorem dX8_whoLit_13 : decode cX8_whoLit 13 = .ok (.istore_n 3, 1) := by decide +kernel
theorem dX8_whoLit_14 : decode cX8_whoLit 14 = .ok (.aload_n 0, 1) := by decide +kernel
theorem dX8_whoLit_15 : decode cX8_whoLit 15 = .ok (.iload_n 1, 1) := by decide +kernel
theorem dX8_whoLit_16 : decode cX8_whoLit 16 = .ok (.invokevirtual 257, 3) := by decide +kernel
theorem dX8_whoLit_19 : decode cX8_whoLit 19 = .ok (.ifCond .eq 27, 3) := by decide +kernel
theorem dX8_whoLit_22 : decode cX8_whoLit 22 = .ok (.iload_n 2, 1) := by decide +kernel
theorem dX8_whoLit_23 : decode cX8_whoLit 23 = .ok (.iconst 0, 1) := by decide +kernel
theorem dX8_whoLit_24 : decode cX8_whoLit 24 = .ok (.iconst 2, 1) := by decide +kernel
theorem dX8_whoLit_25 : decode cX8_whoLit 25 = .ok (.invokestatic 59, 3) := by decide +kernel
theorem dX8_whoLit_28 : decode cX8_whoLit 28 = .ok (.ifCond .eq 18, 3) := by decide +kernel
theorem dX8_whoLit_31 : decode cX8_whoLit 31 = .ok (.iload_n 3, 1) := by decide +kernel
theorem dX8_whoLit_32 : decode cX8_whoLit 32 = .ok (.ifCond .eq 14, 3) := by decide +kernel
theorem dX8_whoLit_35 : decode cX8_whoLit 35 = .ok (.aload_n 0, 1) := by decide +kernel
theorem dX8_whoLit_36 : decode cX8_whoLit 36 = .ok (.getfield 44, 3) := by decide +kernel
theorem dX8_whoLit_39 : decode cX8_whoLit 39 = .ok (.getfield 128, 3) := by decide +kernel
theorem dX8_whoLit_42 : decode cX8_whoLit 42 = .ok (.iload_n 3, 1) := by decide +kernel
theorem dX8_whoLit_43 : decode cX8_whoLit 43 = .ok (.if_icmp .ge 5, 3) := by decide +kernel
theorem dX8_whoLit_46 : decode cX8_whoLit 46 = .ok (.iconst (-1), 1) := by decide +kernel
theorem dX8_whoLit_47 : decode cX8_whoLit 47 = .ok (.ireturn, 1) := by decide +kernel
theorem dX8_whoLit_48 : decode cX8_whoLit 48 = .ok (.aload_n 0, 1) := by decide +kernel
theorem dX8_whoLit_49 : decode cX8_whoLit 49 = .ok (.getfield 10, 3) := by decide +kernel
theorem dX8_whoLit_52 : decode cX8_whoLit 52 = .ok (.iload_n 1, 1) := by decide +kernel
theorem dX8_whoLit_53 : decode cX8_whoLit 53 = .ok (.aload_n 0, 1) := by decide +kernel
theorem dX8_whoLit_54 : decode cX8_whoLit 54 = .ok (.getfield 44, 3) := by decide +kernel
theorem dX8_whoLit_57 : decode cX8_whoLit 57 = .ok (.invokevirtual 260, 3) := by decide +kernel
theorem dX8_whoLit_60 : decode cX8_whoLit 60 = .ok (.aload_n 0, 1) := by decide +kernel
theorem dX8_whoLit_61 : decode cX8_whoLit 61 = .ok (.getfield 44, 3) := by decide +kernel
theorem dX8_whoLit_64 : decode cX8_whoLit 64 = .ok (.iconst 0, 1) := by decide +kernel
theorem dX8_whoLit_65 : decode cX8_whoLit 65 = .ok (.putfield 128, 3) := by decide +kernel
theorem dX8_whoLit_68 : decode cX8_whoLit 68 = .ok (.iload_n 2, 1) := by decide +kernel
theorem dX8_whoLit_69 : decode cX8_whoLit 69 = .ok (.ifCond .ne 11, 3) := by decide +kernel
theorem dX8_whoLit_72 : decode cX8_whoLit 72 = .ok (.aload_n 0, 1) := by decide +kernel
theorem dX8_whoLit_73 : decode cX8_whoLit 73 = .ok (.getfield 10, 3) := by decide +kernel
theorem dX8_whoLit_76 : decode cX8_whoLit 76 = .ok (.getfield 246, 3) := by decide +kernel
theorem dX8_whoLit_79 : decode cX8_whoLit 79 = .ok (.ireturn, 1) := by decide +kernel
theorem dX8_whoLit_80 : decode cX8_whoLit 80 = .ok (.aload_n 0, 1) := by decide +kernel
theorem dX8_whoLit_81 : decode cX8_whoLit 81 = .ok (.getfield 10, 3) := by decide +kernel
theorem dX8_whoLit_84 : decode cX8_whoLit 84 = .ok (.getfield 246, 3) := by decide +kernel
theorem dX8_whoLit_87 : decode cX8_whoLit 87 = .ok (.ifCond .ne 6, 3) := by decide +kernel
theorem dX8_whoLit_90 : decode cX8_whoLit 90 = .ok (.bipush (-2), 2) := by decide +kernel
theorem dX8_whoLit_92 : decode cX8_whoLit 92 = .ok (.ireturn, 1) := by decide +kernel
theorem dX8_whoLit_93 : decode cX8_whoLit 93 = .ok (.iload_n 2, 1) := by decide +kernel
theorem dX8_whoLit_94 : decode cX8_whoLit 94 = .ok (.iconst 1, 1) := by decide +kernel
theorem dX8_whoLit_95 : decode cX8_whoLit 95 = .ok (.if_icmp .ne 13, 3) := by decide +kernel
theorem dX8_whoLit_98 : decode cX8_whoLit 98 = .ok (.aload_n 0, 1) := by decide +kernel
theorem dX8_whoLit_99 : decode cX8_whoLit 99 = .ok (.getfield 10, 3) := by decide +kernel
theorem dX8_whoLit_102 : decode cX8_whoLit 102 = .ok (.getfield 233, 3) := by decide +kernel
theorem dX8_whoLit_105 : decode cX8_whoLit 105 = .ok (.goto 10, 3) := by decide +kernel
theorem dX8_whoLit_108 : decode cX8_whoLit 108 = .ok (.aload_n 0, 1) := by decide +kernel
theorem dX8_whoLit_109 : decode cX8_whoLit 109 = .ok (.getfield 10, 3) := by decide +kernel
theorem dX8_whoLit_112 : decode cX8_whoLit 112 = .ok (.getfield 264, 3) := by decide +kernel
theorem dX8_whoLit_115 : decode cX8_whoLit 115 = .ok (.ireturn, 1) := by decide +kernel
theorem dX8_where_0 : decode cX8_where 0 = .ok (.aload_n 0, 1) := by decide +kernel
theorem dX8_where_1 : decode cX8_where 1 = .ok (.getfield 20, 3) := by decide +kernel
theorem dX8_where_4 : decode cX8_where 4 = .ok (.getfield 98, 3) := by decide +kernel
theorem dX8_where_7 : decode cX8_where 7 = .ok (.iload_n 1, 1) := by decide +kernel
theorem dX8_where_8 : decode cX8_where 8 = .ok (.invokevirtual 163, 3) := by decide +kernel
theorem dX8_where_11 : decode cX8_where 11 = .ok (.ifCond .eq 32, 3) := by decide +kernel
theorem dX8_where_14 : decode cX8_where 14 = .ok (.aload_n 0, 1) := by decide +kernel
theorem dX8_where_15 : decode cX8_where 15 = .ok (.iload_n 2, 1) := by decide +kernel
theorem dX8_where_16 : decode cX8_where 16 = .ok (.invokevirtual 257, 3) := by decide +kernel
theorem dX8_where_19 : decode cX8_where 19 = .ok (.ifCond .eq 24, 3) := by decide +kernel
theorem dX8_where_22 : decode cX8_where 22 = .ok (.iload_n 3, 1) := by decide +kernel
theorem dX8_where_23 : decode cX8_where 23 = .ok (.iconst 0, 1) := by decide +kernel
theorem dX8_where_24 : decode cX8_where 24 = .ok (.sipush 195, 3) := by decide +kernel
theorem dX8_where_27 : decode cX8_where 27 = .ok (.invokestatic 59, 3) := by decide +kernel
theorem dX8_where_30 : decode cX8_where 30 = .ok (.ifCond .eq 13, 3) := by decide +kernel
theorem dX8_where_33 : decode cX8_where 33 = .ok (.iload 4, 2) := by decide +kernel
theorem dX8_where_35 : decode cX8_where 35 = .ok (.iconst 0, 1) := by decide +kernel
theorem dX8_where_36 : decode cX8_where 36 = .ok (.iconst 1, 1) := by decide +kernel
theorem dX8_where_37 : decode cX8_where 37 = .ok (.invokestatic 59, 3) := by decide +kernel
theorem dX8_where_40 : decode cX8_where 40 = .ok (.ifCond .ne 5, 3) := by decide +kernel
theorem dX8_where_43 : decode cX8_where 43 = .ok (.iconst (-1), 1) := by decide +kernel
theorem dX8_where_44 : decode cX8_where 44 = .ok (.ireturn, 1) := by decide +kernel
theorem dX8_where_45 : decode cX8_where 45 = .ok (.aload_n 0, 1) := by decide +kernel
theorem dX8_where_46 : decode cX8_where 46 = .ok (.getfield 10, 3) := by decide +kernel
theorem dX8_where_49 : decode cX8_where 49 = .ok (.iload_n 1, 1) := by decide +kernel
theorem dX8_where_50 : decode cX8_where 50 = .ok (.iload_n 2, 1) := by decide +kernel
theorem dX8_where_51 : decode cX8_where 51 = .ok (.iload_n 3, 1) := by decide +kernel
theorem dX8_where_52 : decode cX8_where 52 = .ok (.invokevirtual 267, 3) := by decide +kernel
theorem dX8_where_55 : decode cX8_where 55 = .ok (.iload 4, 2) := by decide +kernel
theorem dX8_where_57 : decode cX8_where 57 = .ok (.ifCond .ne 11, 3) := by decide +kernel
theorem dX8_where_60 : decode cX8_where 60 = .ok (.aload_n 0, 1) := by decide +kernel
theorem dX8_where_61 : decode cX8_where 61 = .ok (.getfield 10, 3) := by decide +kernel
theorem dX8_where_64 : decode cX8_where 64 = .ok (.getfield 246, 3) := by decide +kernel
theorem dX8_where_67 : decode cX8_where 67 = .ok (.ireturn, 1) := by decide +kernel
theorem dX8_where_68 : decode cX8_where 68 = .ok (.aload_n 0, 1) := by decide +kernel
theorem dX8_where_69 : decode cX8_where 69 = .ok (.getfield 10, 3) := by decide +kernel
theorem dX8_where_72 : decode cX8_where 72 = .ok (.getfield 246, 3) := by decide +kernel
theorem dX8_where_75 : decode cX8_where 75 = .ok (.ifCond .ne 8, 3) := by decide +kernel
theorem dX8_where_78 : decode cX8_where 78 = .ok (.bipush (-2), 2) := by decide +kernel
theorem dX8_where_80 : decode cX8_where 80 = .ok (.goto 10, 3) := by decide +kernel
theorem dX8_where_83 : decode cX8_where 83 = .ok (.aload_n 0, 1) := by decide +kernel
theorem dX8_where_84 : decode cX8_where 84 = .ok (.getfield 10, 3) := by decide +kernel
theorem dX8_where_87 : decode cX8_where 87 = .ok (.getfield 233, 3) := by decide +kernel
theorem dX8_where_90 : decode cX8_where 90 = .ok (.ireturn, 1) := by decide +kernel
theorem dX8_odds_0 : decode cX8_odds 0 = .ok (.iload_n 1, 1) := by decide +kernel
theorem dX8_odds_1 : decode cX8_odds 1 = .ok (.iconst 1, 1) := by decide +kernel
theorem dX8_odds_2 : decode cX8_odds 2 = .ok (.iconst 3, 1) := by decide +kernel
theorem dX8_odds_3 : decode cX8_odds 3 = .ok (.invokestatic 59, 3) := by decide +kernel
theorem dX8_odds_6 : decode cX8_odds 6 = .ok (.ifCond .eq 23, 3) := by decide +kernel
theorem dX8_odds_9 : decode cX8_odds 9 = .ok (.iload_n 2, 1) := by decide +kernel
theorem dX8_odds_10 : decode cX8_odds 10 = .ok (.iconst 0, 1) := by decide +kernel
theorem dX8_odds_11 : decode cX8_odds 11 = .ok (.sipush 9999, 3) := by decide +kernel
theorem dX8_odds_14 : decode cX8_odds 14 = .ok (.invokestatic 59, 3) := by decide +kernel
theorem dX8_odds_17 : decode cX8_odds 17 = .ok (.ifCond .eq 12, 3) := by decide +kernel
theorem dX8_odds_20 : decode cX8_odds 20 = .ok (.iload_n 3, 1) := by decide +kernel
theorem dX8_odds_21 : decode cX8_odds 21 = .ok (.iconst 0, 1) := by decide +kernel
theorem dX8_odds_22 : decode cX8_odds 22 = .ok (.iconst 1, 1) := by decide +kernel
theorem dX8_odds_23 : decode cX8_odds 23 = .ok (.invokestatic 59, 3) := by decide +kernel
theorem dX8_odds_26 : decode cX8_odds 26 = .ok (.ifCond .ne 5, 3) := by decide +kernel
theorem dX8_odds_29 : decode cX8_odds 29 = .ok (.iconst (-1), 1) := by decide +kernel
theorem dX8_odds_30 : decode cX8_odds 30 = .ok (.ireturn, 1) := by decide +kernel
theorem dX8_odds_31 : decode cX8_odds 31 = .ok (.aload_n 0, 1) := by decide +kernel
theorem dX8_odds_32 : decode cX8_odds 32 = .ok (.getfield 10, 3) := by decide +kernel
theorem dX8_odds_35 : decode cX8_odds 35 = .ok (.iload_n 1, 1) := by decide +kernel
theorem dX8_odds_36 : decode cX8_odds 36 = .ok (.iload_n 2, 1) := by decide +kernel
theorem dX8_odds_37 : decode cX8_odds 37 = .ok (.invokevirtual 270, 3) := by decide +kernel
theorem dX8_odds_40 : decode cX8_odds 40 = .ok (.istore 4, 2) := by decide +kernel
theorem dX8_odds_42 : decode cX8_odds 42 = .ok (.iload_n 1, 1) := by decide +kernel
theorem dX8_odds_43 : decode cX8_odds 43 = .ok (.iconst 1, 1) := by decide +kernel
theorem dX8_odds_44 : decode cX8_odds 44 = .ok (.if_icmp .ne 8, 3) := by decide +kernel
theorem dX8_odds_47 : decode cX8_odds 47 = .ok (.bipush 10, 2) := by decide +kernel
theorem dX8_odds_49 : decode cX8_odds 49 = .ok (.goto 16, 3) := by decide +kernel
theorem dX8_odds_52 : decode cX8_odds 52 = .ok (.iload_n 1, 1) := by decide +kernel
theorem dX8_odds_53 : decode cX8_odds 53 = .ok (.iconst 2, 1) := by decide +kernel
theorem dX8_odds_54 : decode cX8_odds 54 = .ok (.if_icmp .ne 8, 3) := by decide +kernel
theorem dX8_odds_57 : decode cX8_odds 57 = .ok (.bipush 100, 2) := by decide +kernel
theorem dX8_odds_59 : decode cX8_odds 59 = .ok (.goto 6, 3) := by decide +kernel
theorem dX8_odds_62 : decode cX8_odds 62 = .ok (.sipush 1000, 3) := by decide +kernel
theorem dX8_odds_65 : decode cX8_odds 65 = .ok (.istore 5, 2) := by decide +kernel
theorem dX8_odds_67 : decode cX8_odds 67 = .ok (.iload 4, 2) := by decide +kernel
theorem dX8_odds_69 : decode cX8_odds 69 = .ok (.iload 5, 2) := by decide +kernel
theorem dX8_odds_71 : decode cX8_odds 71 = .ok (.invokestatic 273, 3) := by decide +kernel
theorem dX8_odds_74 : decode cX8_odds 74 = .ok (.istore 6, 2) := by decide +kernel
theorem dX8_odds_76 : decode cX8_odds 76 = .ok (.iload 6, 2) := by decide +kernel
theorem dX8_odds_78 : decode cX8_odds 78 = .ok (.ifCond .ne 5, 3) := by decide +kernel
theorem dX8_odds_81 : decode cX8_odds 81 = .ok (.iconst (-1), 1) := by decide +kernel
theorem dX8_odds_82 : decode cX8_odds 82 = .ok (.ireturn, 1) := by decide +kernel
theorem dX8_odds_83 : decode cX8_odds 83 = .ok (.iload_n 3, 1) := by decide +kernel
theorem dX8_odds_84 : decode cX8_odds 84 = .ok (.ifCond .ne 8, 3) := by decide +kernel
theorem dX8_odds_87 : decode cX8_odds 87 = .ok (.iload 4, 2) := by decide +kernel
theorem dX8_odds_89 : decode cX8_odds 89 = .ok (.goto 5, 3) := by decide +kernel
theorem dX8_odds_92 : decode cX8_odds 92 = .ok (.iload 5, 2) := by decide +kernel
theorem dX8_odds_94 : decode cX8_odds 94 = .ok (.iload 6, 2) := by decide +kernel
theorem dX8_odds_96 : decode cX8_odds 96 = .ok (.idiv, 1) := by decide +kernel
theorem dX8_odds_97 : decode cX8_odds 97 = .ok (.ireturn, 1) := by decide +kernel
theorem dX8_seed_0 : decode cX8_seed 0 = .ok (.iload_n 1, 1) := by decide +kernel
theorem dX8_seed_1 : decode cX8_seed 1 = .ok (.iconst 0, 1) := by decide +kernel
theorem dX8_seed_2 : decode cX8_seed 2 = .ok (.ldc_w 276, 3) := by decide +kernel
theorem dX8_seed_5 : decode cX8_seed 5 = .ok (.invokestatic 59, 3) := by decide +kernel
theorem dX8_seed_8 : decode cX8_seed 8 = .ok (.ifCond .ne 5, 3) := by decide +kernel
theorem dX8_seed_11 : decode cX8_seed 11 = .ok (.iconst 0, 1) := by decide +kernel
theorem dX8_seed_12 : decode cX8_seed 12 = .ok (.ireturn, 1) := by decide +kernel
theorem dX8_seed_13 : decode cX8_seed 13 = .ok (.aload_n 0, 1) := by decide +kernel
theorem dX8_seed_14 : decode cX8_seed 14 = .ok (.getfield 20, 3) := by decide +kernel
theorem dX8_seed_17 : decode cX8_seed 17 = .ok (.iload_n 1, 1) := by decide +kernel
theorem dX8_seed_18 : decode cX8_seed 18 = .ok (.putfield 277, 3) := by decide +kernel
theorem dX8_seed_21 : decode cX8_seed 21 = .ok (.iconst 1, 1) := by decide +kernel
theorem dX8_seed_22 : decode cX8_seed 22 = .ok (.ireturn, 1) := by decide +kernel
theorem dX8_clouded_0 : decode cX8_clouded 0 = .ok (.aload_n 0, 1) := by decide +kernel
theorem dX8_clouded_1 : decode cX8_clouded 1 = .ok (.getfield 20, 3) := by decide +kernel
theorem dX8_clouded_4 : decode cX8_clouded 4 = .ok (.getfield 280, 3) := by decide +kernel
theorem dX8_clouded_7 : decode cX8_clouded 7 = .ok (.istore_n 1, 1) := by decide +kernel
theorem dX8_clouded_8 : decode cX8_clouded 8 = .ok (.iload_n 1, 1) := by decide +kernel
theorem dX8_clouded_9 : decode cX8_clouded 9 = .ok (.bipush 8, 2) := by decide +kernel
theorem dX8_clouded_11 : decode cX8_clouded 11 = .ok (.if_icmp .ge 65, 3) := by decide +kernel
theorem dX8_clouded_14 : decode cX8_clouded 14 = .ok (.aload_n 0, 1) := by decide +kernel
theorem dX8_clouded_15 : decode cX8_clouded 15 = .ok (.getfield 20, 3) := by decide +kernel
theorem dX8_clouded_18 : decode cX8_clouded 18 = .ok (.invokevirtual 283, 3) := by decide +kernel
theorem dX8_clouded_21 : decode cX8_clouded 21 = .ok (.istore_n 2, 1) := by decide +kernel
theorem dX8_clouded_22 : decode cX8_clouded 22 = .ok (.iconst 1, 1) := by decide +kernel
theorem dX8_clouded_23 : decode cX8_clouded 23 = .ok (.iload_n 1, 1) := by decide +kernel
theorem dX8_clouded_24 : decode cX8_clouded 24 = .ok (.ishl, 1) := by decide +kernel
theorem dX8_clouded_25 : decode cX8_clouded 25 = .ok (.istore_n 3, 1) := by decide +kernel
theorem dX8_clouded_26 : decode cX8_clouded 26 = .ok (.aload_n 0, 1) := by decide +kernel
theorem dX8_clouded_27 : decode cX8_clouded 27 = .ok (.getfield 20, 3) := by decide +kernel
theorem dX8_clouded_30 : decode cX8_clouded 30 = .ok (.dup, 1) := by decide +kernel
theorem dX8_clouded_31 : decode cX8_clouded 31 = .ok (.getfield 157, 3) := by decide +kernel
theorem dX8_clouded_34 : decode cX8_clouded 34 = .ok (.iload_n 3, 1) := by decide +kernel
theorem dX8_clouded_35 : decode cX8_clouded 35 = .ok (.iconst (-1), 1) := by decide +kernel
theorem dX8_clouded_36 : decode cX8_clouded 36 = .ok (.ixor, 1) := by decide +kernel
theorem dX8_clouded_37 : decode cX8_clouded 37 = .ok (.iand, 1) := by decide +kernel
theorem dX8_clouded_38 : decode cX8_clouded 38 = .ok (.putfield 157, 3) := by decide +kernel
theorem dX8_clouded_41 : decode cX8_clouded 41 = .ok (.iload_n 2, 1) := by decide +kernel
theorem dX8_clouded_42 : decode cX8_clouded 42 = .ok (.aload_n 0, 1) := by decide +kernel
theorem dX8_clouded_43 : decode cX8_clouded 43 = .ok (.getfield 25, 3) := by decide +kernel
theorem dX8_clouded_46 : decode cX8_clouded 46 = .ok (.aload_n 0, 1) := by decide +kernel
theorem dX8_clouded_47 : decode cX8_clouded 47 = .ok (.getfield 20, 3) := by decide +kernel
theorem dX8_clouded_50 : decode cX8_clouded 50 = .ok (.iload_n 1, 1) := by decide +kernel
theorem dX8_clouded_51 : decode cX8_clouded 51 = .ok (.invokevirtual 286, 3) := by decide +kernel
theorem dX8_clouded_54 : decode cX8_clouded 54 = .ok (.if_icmp .ge 16, 3) := by decide +kernel
theorem dX8_clouded_57 : decode cX8_clouded 57 = .ok (.aload_n 0, 1) := by decide +kernel
theorem dX8_clouded_58 : decode cX8_clouded 58 = .ok (.getfield 20, 3) := by decide +kernel
theorem dX8_clouded_61 : decode cX8_clouded 61 = .ok (.dup, 1) := by decide +kernel
theorem dX8_clouded_62 : decode cX8_clouded 62 = .ok (.getfield 157, 3) := by decide +kernel
theorem dX8_clouded_65 : decode cX8_clouded 65 = .ok (.iload_n 3, 1) := by decide +kernel
theorem dX8_clouded_66 : decode cX8_clouded 66 = .ok (.ior, 1) := by decide +kernel
theorem dX8_clouded_67 : decode cX8_clouded 67 = .ok (.putfield 157, 3) := by decide +kernel
theorem dX8_clouded_70 : decode cX8_clouded 70 = .ok (.iinc 1 1, 3) := by decide +kernel
theorem dX8_clouded_73 : decode cX8_clouded 73 = .ok (.goto (-65), 3) := by decide +kernel
theorem dX8_clouded_76 : decode cX8_clouded 76 = .ok (.aload_n 0, 1) := by decide +kernel
theorem dX8_clouded_77 : decode cX8_clouded 77 = .ok (.getfield 20, 3) := by decide +kernel
theorem dX8_clouded_80 : decode cX8_clouded 80 = .ok (.getfield 157, 3) := by decide +kernel
theorem dX8_clouded_83 : decode cX8_clouded 83 = .ok (.ireturn, 1) := by decide +kernel
theorem dX8_keep_0 : decode cX8_keep 0 = .ok (.aload_n 0, 1) := by decide +kernel
theorem dX8_keep_1 : decode cX8_keep 1 = .ok (.getfield 48, 3) := by decide +kernel
theorem dX8_keep_4 : decode cX8_keep 4 = .ok (.aload_n 0, 1) := by decide +kernel
theorem dX8_keep_5 : decode cX8_keep 5 = .ok (.getfield 20, 3) := by decide +kernel
theorem dX8_keep_8 : decode cX8_keep 8 = .ok (.invokevirtual 188, 3) := by decide +kernel
theorem dX8_keep_11 : decode cX8_keep 11 = .ok (.aload_n 0, 1) := by decide +kernel
theorem dX8_keep_12 : decode cX8_keep 12 = .ok (.iconst 1, 1) := by decide +kernel
theorem dX8_keep_13 : decode cX8_keep 13 = .ok (.putfield 51, 3) := by decide +kernel
theorem dX8_keep_16 : decode cX8_keep 16 = .ok (.aload_n 0, 1) := by decide +kernel
theorem dX8_keep_17 : decode cX8_keep 17 = .ok (.getfield 20, 3) := by decide +kernel
theorem dX8_keep_20 : decode cX8_keep 20 = .ok (.getfield 98, 3) := by decide +kernel
theorem dX8_keep_23 : decode cX8_keep 23 = .ok (.invokevirtual 191, 3) := by decide +kernel
theorem dX8_keep_26 : decode cX8_keep 26 = .ok (.ireturn, 1) := by decide +kernel
theorem dX8_undo_0 : decode cX8_undo 0 = .ok (.aload_n 0, 1) := by decide +kernel
theorem dX8_undo_1 : decode cX8_undo 1 = .ok (.getfield 51, 3) := by decide +kernel
theorem dX8_undo_4 : decode cX8_undo 4 = .ok (.ifCond .ne 5, 3) := by decide +kernel
theorem dX8_undo_7 : decode cX8_undo 7 = .ok (.iconst 0, 1) := by decide +kernel
theorem dX8_undo_8 : decode cX8_undo 8 = .ok (.ireturn, 1) := by decide +kernel
theorem dX8_undo_9 : decode cX8_undo 9 = .ok (.aload_n 0, 1) := by decide +kernel
theorem dX8_undo_10 : decode cX8_undo 10 = .ok (.getfield 20, 3) := by decide +kernel
theorem dX8_undo_13 : decode cX8_undo 13 = .ok (.aload_n 0, 1) := by decide +kernel
theorem dX8_undo_14 : decode cX8_undo 14 = .ok (.getfield 48, 3) := by decide +kernel
theorem dX8_undo_17 : decode cX8_undo 17 = .ok (.invokevirtual 188, 3) := by decide +kernel
theorem dX8_undo_20 : decode cX8_undo 20 = .ok (.iconst 1, 1) := by decide +kernel
theorem dX8_undo_21 : decode cX8_undo 21 = .ok (.ireturn, 1) := by decide +kernel
theorem dX8_check_0 : decode cX8_check 0 = .ok (.iload_n 1, 1) := by decide +kernel
theorem dX8_check_1 : decode cX8_check 1 = .ok (.iconst 0, 1) := by decide +kernel
theorem dX8_check_2 : decode cX8_check 2 = .ok (.bipush 6, 2) := by decide +kernel
theorem dX8_check_4 : decode cX8_check 4 = .ok (.invokestatic 59, 3) := by decide +kernel
theorem dX8_check_7 : decode cX8_check 7 = .ok (.ifCond .eq 16, 3) := by decide +kernel
theorem dX8_check_10 : decode cX8_check 10 = .ok (.aload_n 0, 1) := by decide +kernel
theorem dX8_check_11 : decode cX8_check 11 = .ok (.getfield 44, 3) := by decide +kernel
theorem dX8_check_14 : decode cX8_check 14 = .ok (.getfield 128, 3) := by decide +kernel
theorem dX8_check_17 : decode cX8_check 17 = .ok (.iconst 4, 1) := by decide +kernel
theorem dX8_check_18 : decode cX8_check 18 = .ok (.iload_n 1, 1) := by decide +kernel
theorem dX8_check_19 : decode cX8_check 19 = .ok (.imul, 1) := by decide +kernel
theorem dX8_check_20 : decode cX8_check 20 = .ok (.if_icmp .ge 6, 3) := by decide +kernel
theorem dX8_check_23 : decode cX8_check 23 = .ok (.bipush (-2), 2) := by decide +kernel
theorem dX8_check_25 : decode cX8_check 25 = .ok (.ireturn, 1) := by decide +kernel
theorem dX8_check_26 : decode cX8_check 26 = .ok (.aload_n 0, 1) := by decide +kernel
theorem dX8_check_27 : decode cX8_check 27 = .ok (.getfield 44, 3) := by decide +kernel
theorem dX8_check_30 : decode cX8_check 30 = .ok (.iconst 0, 1) := by decide +kernel
theorem dX8_check_31 : decode cX8_check 31 = .ok (.putfield 128, 3) := by decide +kernel
theorem dX8_check_34 : decode cX8_check 34 = .ok (.iconst 0, 1) := by decide +kernel
theorem dX8_check_35 : decode cX8_check 35 = .ok (.istore_n 2, 1) := by decide +kernel
theorem dX8_check_36 : decode cX8_check 36 = .ok (.iload_n 2, 1) := by decide +kernel
theorem dX8_check_37 : decode cX8_check 37 = .ok (.iload_n 1, 1) := by decide +kernel
theorem dX8_check_38 : decode cX8_check 38 = .ok (.if_icmp .ge 62, 3) := by decide +kernel
theorem dX8_check_41 : decode cX8_check 41 = .ok (.iload_n 2, 1) := by decide +kernel
theorem dX8_check_42 : decode cX8_check 42 = .ok (.bipush 6, 2) := by decide +kernel
theorem dX8_check_44 : decode cX8_check 44 = .ok (.if_icmp .ge 56, 3) := by decide +kernel
theorem dX8_check_47 : decode cX8_check 47 = .ok (.aload_n 0, 1) := by decide +kernel
theorem dX8_check_48 : decode cX8_check 48 = .ok (.getfield 20, 3) := by decide +kernel
theorem dX8_check_51 : decode cX8_check 51 = .ok (.getfield 98, 3) := by decide +kernel
theorem dX8_check_54 : decode cX8_check 54 = .ok (.iload_n 2, 1) := by decide +kernel
theorem dX8_check_55 : decode cX8_check 55 = .ok (.invokevirtual 122, 3) := by decide +kernel
theorem dX8_check_58 : decode cX8_check 58 = .ok (.ifCond .eq 18, 3) := by decide +kernel
theorem dX8_check_61 : decode cX8_check 61 = .ok (.aload_n 0, 1) := by decide +kernel
theorem dX8_check_62 : decode cX8_check 62 = .ok (.getfield 20, 3) := by decide +kernel
theorem dX8_check_65 : decode cX8_check 65 = .ok (.getfield 98, 3) := by decide +kernel
theorem dX8_check_68 : decode cX8_check 68 = .ok (.getfield 110, 3) := by decide +kernel
theorem dX8_check_71 : decode cX8_check 71 = .ok (.iload_n 2, 1) := by decide +kernel
theorem dX8_check_72 : decode cX8_check 72 = .ok (.iaload, 1) := by decide +kernel
theorem dX8_check_73 : decode cX8_check 73 = .ok (.goto 4, 3) := by decide +kernel
theorem dX8_check_76 : decode cX8_check 76 = .ok (.iconst 0, 1) := by decide +kernel
theorem dX8_check_77 : decode cX8_check 77 = .ok (.istore_n 3, 1) := by decide +kernel
theorem dX8_check_78 : decode cX8_check 78 = .ok (.aload_n 0, 1) := by decide +kernel
theorem dX8_check_79 : decode cX8_check 79 = .ok (.getfield 44, 3) := by decide +kernel
theorem dX8_check_82 : decode cX8_check 82 = .ok (.iconst 4, 1) := by decide +kernel
theorem dX8_check_83 : decode cX8_check 83 = .ok (.iload_n 2, 1) := by decide +kernel
theorem dX8_check_84 : decode cX8_check 84 = .ok (.imul, 1) := by decide +kernel
theorem dX8_check_85 : decode cX8_check 85 = .ok (.invokevirtual 289, 3) := by decide +kernel
theorem dX8_check_88 : decode cX8_check 88 = .ok (.iload_n 3, 1) := by decide +kernel
theorem dX8_check_89 : decode cX8_check 89 = .ok (.if_icmp .eq 5, 3) := by decide +kernel
theorem dX8_check_92 : decode cX8_check 92 = .ok (.iload_n 2, 1) := by decide +kernel
theorem dX8_check_93 : decode cX8_check 93 = .ok (.ireturn, 1) := by decide +kernel
theorem dX8_check_94 : decode cX8_check 94 = .ok (.iinc 2 1, 3) := by decide +kernel
theorem dX8_check_97 : decode cX8_check 97 = .ok (.goto (-61), 3) := by decide +kernel
theorem dX8_check_100 : decode cX8_check 100 = .ok (.iconst (-1), 1) := by decide +kernel
theorem dX8_check_101 : decode cX8_check 101 = .ok (.ireturn, 1) := by decide +kernel
theorem dX8_count_0 : decode cX8_count 0 = .ok (.iload_n 1, 1) := by decide +kernel
theorem dX8_count_1 : decode cX8_count 1 = .ok (.bipush 10, 2) := by decide +kernel
theorem dX8_count_3 : decode cX8_count 3 = .ok (.bipush 13, 2) := by decide +kernel
theorem dX8_count_5 : decode cX8_count 5 = .ok (.invokestatic 59, 3) := by decide +kernel
theorem dX8_count_8 : decode cX8_count 8 = .ok (.ifCond .eq 16, 3) := by decide +kernel
theorem dX8_count_11 : decode cX8_count 11 = .ok (.aload_n 0, 1) := by decide +kernel
theorem dX8_count_12 : decode cX8_count 12 = .ok (.getfield 20, 3) := by decide +kernel
theorem dX8_count_15 : decode cX8_count 15 = .ok (.getfield 125, 3) := by decide +kernel
theorem dX8_count_18 : decode cX8_count 18 = .ok (.iload_n 1, 1) := by decide +kernel
theorem dX8_count_19 : decode cX8_count 19 = .ok (.bipush 10, 2) := by decide +kernel
theorem dX8_count_21 : decode cX8_count 21 = .ok (.isub, 1) := by decide +kernel
theorem dX8_count_22 : decode cX8_count 22 = .ok (.iaload, 1) := by decide +kernel
theorem dX8_count_23 : decode cX8_count 23 = .ok (.ireturn, 1) := by decide +kernel
theorem dX8_count_24 : decode cX8_count 24 = .ok (.iload_n 1, 1) := by decide +kernel
theorem dX8_count_25 : decode cX8_count 25 = .ok (.bipush 100, 2) := by decide +kernel
theorem dX8_count_27 : decode cX8_count 27 = .ok (.sipush 295, 3) := by decide +kernel
theorem dX8_count_30 : decode cX8_count 30 = .ok (.invokestatic 59, 3) := by decide +kernel
theorem dX8_count_33 : decode cX8_count 33 = .ok (.ifCond .eq 16, 3) := by decide +kernel
theorem dX8_count_36 : decode cX8_count 36 = .ok (.aload_n 0, 1) := by decide +kernel
theorem dX8_count_37 : decode cX8_count 37 = .ok (.getfield 20, 3) := by decide +kernel
theorem dX8_count_40 : decode cX8_count 40 = .ok (.getfield 67, 3) := by decide +kernel
theorem dX8_count_43 : decode cX8_count 43 = .ok (.iload_n 1, 1) := by decide +kernel
theorem dX8_count_44 : decode cX8_count 44 = .ok (.bipush 100, 2) := by decide +kernel
theorem dX8_count_46 : decode cX8_count 46 = .ok (.isub, 1) := by decide +kernel
theorem dX8_count_47 : decode cX8_count 47 = .ok (.iaload, 1) := by decide +kernel
theorem dX8_count_48 : decode cX8_count 48 = .ok (.ireturn, 1) := by decide +kernel
theorem dX8_count_49 : decode cX8_count 49 = .ok (.iload_n 1, 1) := by decide +kernel
theorem dX8_count_50 : decode cX8_count 50 = .ok (.tableswitch 143 0 9 #[54, 62, 70, 78, 86, 94, 102, 113, 124, 132], 54) := by decide +kernel
theorem dX8_count_104 : decode cX8_count 104 = .ok (.aload_n 0, 1) := by decide +kernel
theorem dX8_count_105 : decode cX8_count 105 = .ok (.getfield 20, 3) := by decide +kernel
theorem dX8_count_108 : decode cX8_count 108 = .ok (.getfield 292, 3) := by decide +kernel
theorem dX8_count_111 : decode cX8_count 111 = .ok (.ireturn, 1) := by decide +kernel
theorem dX8_count_112 : decode cX8_count 112 = .ok (.aload_n 0, 1) := by decide +kernel
theorem dX8_count_113 : decode cX8_count 113 = .ok (.getfield 20, 3) := by decide +kernel
theorem dX8_count_116 : decode cX8_count 116 = .ok (.getfield 280, 3) := by decide +kernel
theorem dX8_count_119 : decode cX8_count 119 = .ok (.ireturn, 1) := by decide +kernel
theorem dX8_count_120 : decode cX8_count 120 = .ok (.aload_n 0, 1) := by decide +kernel
theorem dX8_count_121 : decode cX8_count 121 = .ok (.getfield 20, 3) := by decide +kernel
theorem dX8_count_124 : decode cX8_count 124 = .ok (.getfield 157, 3) := by decide +kernel
theorem dX8_count_127 : decode cX8_count 127 = .ok (.ireturn, 1) := by decide +kernel
theorem dX8_count_128 : decode cX8_count 128 = .ok (.aload_n 0, 1) := by decide +kernel
theorem dX8_count_129 : decode cX8_count 129 = .ok (.getfield 32, 3) := by decide +kernel
theorem dX8_count_132 : decode cX8_count 132 = .ok (.getfield 295, 3) := by decide +kernel
theorem dX8_count_135 : decode cX8_count 135 = .ok (.ireturn, 1) := by decide +kernel
theorem dX8_count_136 : decode cX8_count 136 = .ok (.aload_n 0, 1) := by decide +kernel
theorem dX8_count_137 : decode cX8_count 137 = .ok (.getfield 44, 3) := by decide +kernel
theorem dX8_count_140 : decode cX8_count 140 = .ok (.getfield 128, 3) := by decide +kernel
theorem dX8_count_143 : decode cX8_count 143 = .ok (.ireturn, 1) := by decide +kernel
theorem dX8_count_144 : decode cX8_count 144 = .ok (.aload_n 0, 1) := by decide +kernel
theorem dX8_count_145 : decode cX8_count 145 = .ok (.getfield 20, 3) := by decide +kernel
theorem dX8_count_148 : decode cX8_count 148 = .ok (.getfield 277, 3) := by decide +kernel
theorem dX8_count_151 : decode cX8_count 151 = .ok (.ireturn, 1) := by decide +kernel
theorem dX8_count_152 : decode cX8_count 152 = .ok (.aload_n 0, 1) := by decide +kernel
theorem dX8_count_153 : decode cX8_count 153 = .ok (.getfield 20, 3) := by decide +kernel
theorem dX8_count_156 : decode cX8_count 156 = .ok (.getfield 98, 3) := by decide +kernel
theorem dX8_count_159 : decode cX8_count 159 = .ok (.invokevirtual 298, 3) := by decide +kernel
theorem dX8_count_162 : decode cX8_count 162 = .ok (.ireturn, 1) := by decide +kernel
theorem dX8_count_163 : decode cX8_count 163 = .ok (.aload_n 0, 1) := by decide +kernel
theorem dX8_count_164 : decode cX8_count 164 = .ok (.getfield 20, 3) := by decide +kernel
theorem dX8_count_167 : decode cX8_count 167 = .ok (.getfield 98, 3) := by decide +kernel
theorem dX8_count_170 : decode cX8_count 170 = .ok (.invokevirtual 249, 3) := by decide +kernel
theorem dX8_count_173 : decode cX8_count 173 = .ok (.ireturn, 1) := by decide +kernel
theorem dX8_count_174 : decode cX8_count 174 = .ok (.aload_n 0, 1) := by decide +kernel
theorem dX8_count_175 : decode cX8_count 175 = .ok (.getfield 20, 3) := by decide +kernel
theorem dX8_count_178 : decode cX8_count 178 = .ok (.invokevirtual 301, 3) := by decide +kernel
theorem dX8_count_181 : decode cX8_count 181 = .ok (.ireturn, 1) := by decide +kernel
theorem dX8_count_182 : decode cX8_count 182 = .ok (.aload_n 0, 1) := by decide +kernel
theorem dX8_count_183 : decode cX8_count 183 = .ok (.getfield 20, 3) := by decide +kernel
theorem dX8_count_186 : decode cX8_count 186 = .ok (.getfield 98, 3) := by decide +kernel
theorem dX8_count_189 : decode cX8_count 189 = .ok (.invokevirtual 191, 3) := by decide +kernel
theorem dX8_count_192 : decode cX8_count 192 = .ok (.ireturn, 1) := by decide +kernel
theorem dX8_count_193 : decode cX8_count 193 = .ok (.iconst (-1), 1) := by decide +kernel
theorem dX8_count_194 : decode cX8_count 194 = .ok (.ireturn, 1) := by decide +kernel
theorem dX8_setLamp_0 : decode cX8_setLamp 0 = .ok (.iload_n 1, 1) := by decide +kernel
theorem dX8_setLamp_1 : decode cX8_setLamp 1 = .ok (.iconst 0, 1) := by decide +kernel
theorem dX8_setLamp_2 : decode cX8_setLamp 2 = .ok (.bipush 11, 2) := by decide +kernel
theorem dX8_setLamp_4 : decode cX8_setLamp 4 = .ok (.invokestatic 59, 3) := by decide +kernel
theorem dX8_setLamp_7 : decode cX8_setLamp 7 = .ok (.ifCond .eq 21, 3) := by decide +kernel
theorem dX8_setLamp_10 : decode cX8_setLamp 10 = .ok (.iload_n 2, 1) := by decide +kernel
theorem dX8_setLamp_11 : decode cX8_setLamp 11 = .ok (.iload_n 3, 1) := by decide +kernel
theorem dX8_setLamp_12 : decode cX8_setLamp 12 = .ok (.invokestatic 55, 3) := by decide +kernel
theorem dX8_setLamp_15 : decode cX8_setLamp 15 = .ok (.ifCond .eq 13, 3) := by decide +kernel
theorem dX8_setLamp_18 : decode cX8_setLamp 18 = .ok (.iload 4, 2) := by decide +kernel
theorem dX8_setLamp_20 : decode cX8_setLamp 20 = .ok (.iconst 0, 1) := by decide +kernel
theorem dX8_setLamp_21 : decode cX8_setLamp 21 = .ok (.iconst 4, 1) := by decide +kernel
theorem dX8_setLamp_22 : decode cX8_setLamp 22 = .ok (.invokestatic 59, 3) := by decide +kernel
theorem dX8_setLamp_25 : decode cX8_setLamp 25 = .ok (.ifCond .ne 5, 3) := by decide +kernel
theorem dX8_setLamp_28 : decode cX8_setLamp 28 = .ok (.iconst 0, 1) := by decide +kernel
theorem dX8_setLamp_29 : decode cX8_setLamp 29 = .ok (.ireturn, 1) := by decide +kernel
theorem dX8_setLamp_30 : decode cX8_setLamp 30 = .ok (.aload_n 0, 1) := by decide +kernel
theorem dX8_setLamp_31 : decode cX8_setLamp 31 = .ok (.getfield 20, 3) := by decide +kernel
theorem dX8_setLamp_34 : decode cX8_setLamp 34 = .ok (.bipush 14, 2) := by decide +kernel
theorem dX8_setLamp_36 : decode cX8_setLamp 36 = .ok (.iload_n 3, 1) := by decide +kernel
theorem dX8_setLamp_37 : decode cX8_setLamp 37 = .ok (.imul, 1) := by decide +kernel
theorem dX8_setLamp_38 : decode cX8_setLamp 38 = .ok (.iload_n 2, 1) := by decide +kernel
theorem dX8_setLamp_39 : decode cX8_setLamp 39 = .ok (.iadd, 1) := by decide +kernel
theorem dX8_setLamp_40 : decode cX8_setLamp 40 = .ok (.invokevirtual 94, 3) := by decide +kernel
theorem dX8_setLamp_43 : decode cX8_setLamp 43 = .ok (.iconst 3, 1) := by decide +kernel
theorem dX8_setLamp_44 : decode cX8_setLamp 44 = .ok (.if_icmp .ne 5, 3) := by decide +kernel
theorem dX8_setLamp_47 : decode cX8_setLamp 47 = .ok (.iconst 0, 1) := by decide +kernel
theorem dX8_setLamp_48 : decode cX8_setLamp 48 = .ok (.ireturn, 1) := by decide +kernel
theorem dX8_setLamp_49 : decode cX8_setLamp 49 = .ok (.aload_n 0, 1) := by decide +kernel
theorem dX8_setLamp_50 : decode cX8_setLamp 50 = .ok (.getfield 20, 3) := by decide +kernel
theorem dX8_setLamp_53 : decode cX8_setLamp 53 = .ok (.getfield 75, 3) := by decide +kernel
theorem dX8_setLamp_56 : decode cX8_setLamp 56 = .ok (.astore 6, 2) := by decide +kernel
theorem dX8_setLamp_58 : decode cX8_setLamp 58 = .ok (.aload 6, 2) := by decide +kernel
theorem dX8_setLamp_60 : decode cX8_setLamp 60 = .ok (.getfield 84, 3) := by decide +kernel
theorem dX8_setLamp_63 : decode cX8_setLamp 63 = .ok (.iload_n 1, 1) := by decide +kernel
theorem dX8_setLamp_64 : decode cX8_setLamp 64 = .ok (.iconst 1, 1) := by decide +kernel
theorem dX8_setLamp_65 : decode cX8_setLamp 65 = .ok (.bastore, 1) := by decide +kernel
theorem dX8_setLamp_66 : decode cX8_setLamp 66 = .ok (.aload 6, 2) := by decide +kernel
theorem dX8_setLamp_68 : decode cX8_setLamp 68 = .ok (.getfield 304, 3) := by decide +kernel
theorem dX8_setLamp_71 : decode cX8_setLamp 71 = .ok (.iload_n 1, 1) := by decide +kernel
theorem dX8_setLamp_72 : decode cX8_setLamp 72 = .ok (.bipush 14, 2) := by decide +kernel
theorem dX8_setLamp_74 : decode cX8_setLamp 74 = .ok (.iload_n 3, 1) := by decide +kernel
theorem dX8_setLamp_75 : decode cX8_setLamp 75 = .ok (.imul, 1) := by decide +kernel
theorem dX8_setLamp_76 : decode cX8_setLamp 76 = .ok (.iload_n 2, 1) := by decide +kernel
theorem dX8_setLamp_77 : decode cX8_setLamp 77 = .ok (.iadd, 1) := by decide +kernel
theorem dX8_setLamp_78 : decode cX8_setLamp 78 = .ok (.iastore, 1) := by decide +kernel
theorem dX8_setLamp_79 : decode cX8_setLamp 79 = .ok (.aload 6, 2) := by decide +kernel
theorem dX8_setLamp_81 : decode cX8_setLamp 81 = .ok (.getfield 305, 3) := by decide +kernel
theorem dX8_setLamp_84 : decode cX8_setLamp 84 = .ok (.iload_n 1, 1) := by decide +kernel
theorem dX8_setLamp_85 : decode cX8_setLamp 85 = .ok (.iload 4, 2) := by decide +kernel
theorem dX8_setLamp_87 : decode cX8_setLamp 87 = .ok (.iastore, 1) := by decide +kernel
theorem dX8_setLamp_88 : decode cX8_setLamp 88 = .ok (.aload 6, 2) := by decide +kernel
theorem dX8_setLamp_90 : decode cX8_setLamp 90 = .ok (.getfield 154, 3) := by decide +kernel
theorem dX8_setLamp_93 : decode cX8_setLamp 93 = .ok (.iload_n 1, 1) := by decide +kernel
theorem dX8_setLamp_94 : decode cX8_setLamp 94 = .ok (.iconst 0, 1) := by decide +kernel
theorem dX8_setLamp_95 : decode cX8_setLamp 95 = .ok (.iastore, 1) := by decide +kernel
theorem dX8_setLamp_96 : decode cX8_setLamp 96 = .ok (.aload 6, 2) := by decide +kernel
theorem dX8_setLamp_98 : decode cX8_setLamp 98 = .ok (.getfield 91, 3) := by decide +kernel
theorem dX8_setLamp_101 : decode cX8_setLamp 101 = .ok (.iload_n 1, 1) := by decide +kernel
theorem dX8_setLamp_102 : decode cX8_setLamp 102 = .ok (.iconst 0, 1) := by decide +kernel
theorem dX8_setLamp_103 : decode cX8_setLamp 103 = .ok (.iastore, 1) := by decide +kernel
theorem dX8_setLamp_104 : decode cX8_setLamp 104 = .ok (.aload 6, 2) := by decide +kernel
theorem dX8_setLamp_106 : decode cX8_setLamp 106 = .ok (.getfield 308, 3) := by decide +kernel
theorem dX8_setLamp_109 : decode cX8_setLamp 109 = .ok (.iload_n 1, 1) := by decide +kernel
theorem dX8_setLamp_110 : decode cX8_setLamp 110 = .ok (.iload 5, 2) := by decide +kernel
theorem dX8_setLamp_112 : decode cX8_setLamp 112 = .ok (.bastore, 1) := by decide +kernel
theorem dX8_setLamp_113 : decode cX8_setLamp 113 = .ok (.iconst 1, 1) := by decide +kernel
theorem dX8_setLamp_114 : decode cX8_setLamp 114 = .ok (.ireturn, 1) := by decide +kernel
theorem dX8_isInnThere_0 : decode cX8_isInnThere 0 = .ok (.iload_n 1, 1) := by decide +kernel
theorem dX8_isInnThere_1 : decode cX8_isInnThere 1 = .ok (.bipush 9, 2) := by decide +kernel
theorem dX8_isInnThere_3 : decode cX8_isInnThere 3 = .ok (.if_icmp .ge 21, 3) := by decide +kernel
theorem dX8_isInnThere_6 : decode cX8_isInnThere 6 = .ok (.aload_n 0, 1) := by decide +kernel
theorem dX8_isInnThere_7 : decode cX8_isInnThere 7 = .ok (.getfield 20, 3) := by decide +kernel
theorem dX8_isInnThere_10 : decode cX8_isInnThere 10 = .ok (.getfield 75, 3) := by decide +kernel
theorem dX8_isInnThere_13 : decode cX8_isInnThere 13 = .ok (.iload_n 1, 1) := by decide +kernel
theorem dX8_isInnThere_14 : decode cX8_isInnThere 14 = .ok (.invokevirtual 79, 3) := by decide +kernel
theorem dX8_isInnThere_17 : decode cX8_isInnThere 17 = .ok (.ifCond .eq 7, 3) := by decide +kernel
theorem dX8_isInnThere_20 : decode cX8_isInnThere 20 = .ok (.iconst 1, 1) := by decide +kernel
theorem dX8_isInnThere_21 : decode cX8_isInnThere 21 = .ok (.goto 4, 3) := by decide +kernel
theorem dX8_isInnThere_24 : decode cX8_isInnThere 24 = .ok (.iconst 0, 1) := by decide +kernel
theorem dX8_isInnThere_25 : decode cX8_isInnThere 25 = .ok (.ireturn, 1) := by decide +kernel
theorem dX8_isLeft_0 : decode cX8_isLeft 0 = .ok (.iload_n 1, 1) := by decide +kernel
theorem dX8_isLeft_1 : decode cX8_isLeft 1 = .ok (.iconst 1, 1) := by decide +kernel
theorem dX8_isLeft_2 : decode cX8_isLeft 2 = .ok (.bipush 8, 2) := by decide +kernel
theorem dX8_isLeft_4 : decode cX8_isLeft 4 = .ok (.invokestatic 59, 3) := by decide +kernel
theorem dX8_isLeft_7 : decode cX8_isLeft 7 = .ok (.ifCond .eq 21, 3) := by decide +kernel
theorem dX8_isLeft_10 : decode cX8_isLeft 10 = .ok (.aload_n 0, 1) := by decide +kernel
theorem dX8_isLeft_11 : decode cX8_isLeft 11 = .ok (.getfield 20, 3) := by decide +kernel
theorem dX8_isLeft_14 : decode cX8_isLeft 14 = .ok (.getfield 280, 3) := by decide +kernel
theorem dX8_isLeft_17 : decode cX8_isLeft 17 = .ok (.iload_n 1, 1) := by decide +kernel
theorem dX8_isLeft_18 : decode cX8_isLeft 18 = .ok (.iadd, 1) := by decide +kernel
theorem dX8_isLeft_19 : decode cX8_isLeft 19 = .ok (.bipush 8, 2) := by decide +kernel
theorem dX8_isLeft_21 : decode cX8_isLeft 21 = .ok (.if_icmp .gt 7, 3) := by decide +kernel
theorem dX8_isLeft_24 : decode cX8_isLeft 24 = .ok (.iconst 1, 1) := by decide +kernel
theorem dX8_isLeft_25 : decode cX8_isLeft 25 = .ok (.goto 4, 3) := by decide +kernel
theorem dX8_isLeft_28 : decode cX8_isLeft 28 = .ok (.iconst 0, 1) := by decide +kernel
theorem dX8_isLeft_29 : decode cX8_isLeft 29 = .ok (.ireturn, 1) := by decide +kernel
theorem dX8_isTriedAsked_0 : decode cX8_isTriedAsked 0 = .ok (.iload_n 1, 1) := by decide +kernel
theorem dX8_isTriedAsked_1 : decode cX8_isTriedAsked 1 = .ok (.iconst 0, 1) := by decide +kernel
theorem dX8_isTriedAsked_2 : decode cX8_isTriedAsked 2 = .ok (.iconst 2, 1) := by decide +kernel
theorem dX8_isTriedAsked_3 : decode cX8_isTriedAsked 3 = .ok (.invokestatic 59, 3) := by decide +kernel
theorem dX8_isTriedAsked_6 : decode cX8_isTriedAsked 6 = .ok (.ifCond .ne 32, 3) := by decide +kernel
theorem dX8_isTriedAsked_9 : decode cX8_isTriedAsked 9 = .ok (.iload_n 1, 1) := by decide +kernel
theorem dX8_isTriedAsked_10 : decode cX8_isTriedAsked 10 = .ok (.bipush 10, 2) := by decide +kernel
theorem dX8_isTriedAsked_12 : decode cX8_isTriedAsked 12 = .ok (.idiv, 1) := by decide +kernel
theorem dX8_isTriedAsked_13 : decode cX8_isTriedAsked 13 = .ok (.iconst 1, 1) := by decide +kernel
theorem dX8_isTriedAsked_14 : decode cX8_isTriedAsked 14 = .ok (.iconst 4, 1) := by decide +kernel
theorem dX8_isTriedAsked_15 : decode cX8_isTriedAsked 15 = .ok (.invokestatic 59, 3) := by decide +kernel
theorem dX8_isTriedAsked_18 : decode cX8_isTriedAsked 18 = .ok (.ifCond .eq 24, 3) := by decide +kernel
theorem dX8_isTriedAsked_21 : decode cX8_isTriedAsked 21 = .ok (.aload_n 0, 1) := by decide +kernel
theorem dX8_isTriedAsked_22 : decode cX8_isTriedAsked 22 = .ok (.getfield 20, 3) := by decide +kernel
theorem dX8_isTriedAsked_25 : decode cX8_isTriedAsked 25 = .ok (.getfield 98, 3) := by decide +kernel
theorem dX8_isTriedAsked_28 : decode cX8_isTriedAsked 28 = .ok (.iload_n 1, 1) := by decide +kernel
theorem dX8_isTriedAsked_29 : decode cX8_isTriedAsked 29 = .ok (.bipush 10, 2) := by decide +kernel
theorem dX8_isTriedAsked_31 : decode cX8_isTriedAsked 31 = .ok (.irem, 1) := by decide +kernel
theorem dX8_isTriedAsked_32 : decode cX8_isTriedAsked 32 = .ok (.invokevirtual 122, 3) := by decide +kernel
theorem dX8_isTriedAsked_35 : decode cX8_isTriedAsked 35 = .ok (.ifCond .eq 7, 3) := by decide +kernel
theorem dX8_isTriedAsked_38 : decode cX8_isTriedAsked 38 = .ok (.iconst 1, 1) := by decide +kernel
theorem dX8_isTriedAsked_39 : decode cX8_isTriedAsked 39 = .ok (.goto 4, 3) := by decide +kernel
theorem dX8_isTriedAsked_42 : decode cX8_isTriedAsked 42 = .ok (.iconst 0, 1) := by decide +kernel
theorem dX8_isTriedAsked_43 : decode cX8_isTriedAsked 43 = .ok (.ireturn, 1) := by decide +kernel
theorem dX8_isIn_0 : decode cX8_isIn 0 = .ok (.iload_n 0, 1) := by decide +kernel
theorem dX8_isIn_1 : decode cX8_isIn 1 = .ok (.iload_n 1, 1) := by decide +kernel
theorem dX8_isIn_2 : decode cX8_isIn 2 = .ok (.if_icmp .lt 12, 3) := by decide +kernel
theorem dX8_isIn_5 : decode cX8_isIn 5 = .ok (.iload_n 0, 1) := by decide +kernel
theorem dX8_isIn_6 : decode cX8_isIn 6 = .ok (.iload_n 2, 1) := by decide +kernel
theorem dX8_isIn_7 : decode cX8_isIn 7 = .ok (.if_icmp .gt 7, 3) := by decide +kernel
theorem dX8_isIn_10 : decode cX8_isIn 10 = .ok (.iconst 1, 1) := by decide +kernel
theorem dX8_isIn_11 : decode cX8_isIn 11 = .ok (.goto 4, 3) := by decide +kernel
theorem dX8_isIn_14 : decode cX8_isIn 14 = .ok (.iconst 0, 1) := by decide +kernel
theorem dX8_isIn_15 : decode cX8_isIn 15 = .ok (.ireturn, 1) := by decide +kernel
theorem dX8_isSquare_0 : decode cX8_isSquare 0 = .ok (.iload_n 0, 1) := by decide +kernel
theorem dX8_isSquare_1 : decode cX8_isSquare 1 = .ok (.ifCond .lt 23, 3) := by decide +kernel
theorem dX8_isSquare_4 : decode cX8_isSquare 4 = .ok (.iload_n 0, 1) := by decide +kernel
theorem dX8_isSquare_5 : decode cX8_isSquare 5 = .ok (.bipush 14, 2) := by decide +kernel
theorem dX8_isSquare_7 : decode cX8_isSquare 7 = .ok (.if_icmp .ge 17, 3) := by decide +kernel
theorem dX8_isSquare_10 : decode cX8_isSquare 10 = .ok (.iload_n 1, 1) := by decide +kernel
theorem dX8_isSquare_11 : decode cX8_isSquare 11 = .ok (.ifCond .lt 13, 3) := by decide +kernel
theorem dX8_isSquare_14 : decode cX8_isSquare 14 = .ok (.iload_n 1, 1) := by decide +kernel
theorem dX8_isSquare_15 : decode cX8_isSquare 15 = .ok (.bipush 14, 2) := by decide +kernel
theorem dX8_isSquare_17 : decode cX8_isSquare 17 = .ok (.if_icmp .ge 7, 3) := by decide +kernel
theorem dX8_isSquare_20 : decode cX8_isSquare 20 = .ok (.iconst 1, 1) := by decide +kernel
theorem dX8_isSquare_21 : decode cX8_isSquare 21 = .ok (.goto 4, 3) := by decide +kernel
theorem dX8_isSquare_24 : decode cX8_isSquare 24 = .ok (.iconst 0, 1) := by decide +kernel
theorem dX8_isSquare_25 : decode cX8_isSquare 25 = .ok (.ireturn, 1) := by decide +kernel
theorem dX8_commonDivisor_0 : decode cX8_commonDivisor 0 = .ok (.iload_n 0, 1) := by decide +kernel
theorem dX8_commonDivisor_1 : decode cX8_commonDivisor 1 = .ok (.istore_n 2, 1) := by decide +kernel
theorem dX8_commonDivisor_2 : decode cX8_commonDivisor 2 = .ok (.iload_n 1, 1) := by decide +kernel
theorem dX8_commonDivisor_3 : decode cX8_commonDivisor 3 = .ok (.istore_n 3, 1) := by decide +kernel
theorem dX8_commonDivisor_4 : decode cX8_commonDivisor 4 = .ok (.iconst 0, 1) := by decide +kernel
theorem dX8_commonDivisor_5 : decode cX8_commonDivisor 5 = .ok (.istore 4, 2) := by decide +kernel
theorem dX8_commonDivisor_7 : decode cX8_commonDivisor 7 = .ok (.iload 4, 2) := by decide +kernel
theorem dX8_commonDivisor_9 : decode cX8_commonDivisor 9 = .ok (.bipush 100, 2) := by decide +kernel
theorem dX8_commonDivisor_11 : decode cX8_commonDivisor 11 = .ok (.if_icmp .ge 23, 3) := by decide +kernel
theorem dX8_commonDivisor_14 : decode cX8_commonDivisor 14 = .ok (.iload_n 3, 1) := by decide +kernel
theorem dX8_commonDivisor_15 : decode cX8_commonDivisor 15 = .ok (.ifCond .eq 19, 3) := by decide +kernel
theorem dX8_commonDivisor_18 : decode cX8_commonDivisor 18 = .ok (.iload_n 2, 1) := by decide +kernel
theorem dX8_commonDivisor_19 : decode cX8_commonDivisor 19 = .ok (.iload_n 3, 1) := by decide +kernel
theorem dX8_commonDivisor_20 : decode cX8_commonDivisor 20 = .ok (.irem, 1) := by decide +kernel
theorem dX8_commonDivisor_21 : decode cX8_commonDivisor 21 = .ok (.istore 5, 2) := by decide +kernel
theorem dX8_commonDivisor_23 : decode cX8_commonDivisor 23 = .ok (.iload_n 3, 1) := by decide +kernel
theorem dX8_commonDivisor_24 : decode cX8_commonDivisor 24 = .ok (.istore_n 2, 1) := by decide +kernel
theorem dX8_commonDivisor_25 : decode cX8_commonDivisor 25 = .ok (.iload 5, 2) := by decide +kernel
theorem dX8_commonDivisor_27 : decode cX8_commonDivisor 27 = .ok (.istore_n 3, 1) := by decide +kernel
theorem dX8_commonDivisor_28 : decode cX8_commonDivisor 28 = .ok (.iinc 4 1, 3) := by decide +kernel
theorem dX8_commonDivisor_31 : decode cX8_commonDivisor 31 = .ok (.goto (-24), 3) := by decide +kernel
theorem dX8_commonDivisor_34 : decode cX8_commonDivisor 34 = .ok (.iload_n 2, 1) := by decide +kernel
theorem dX8_commonDivisor_35 : decode cX8_commonDivisor 35 = .ok (.ireturn, 1) := by decide +kernel
