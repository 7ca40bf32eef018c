theorem dX0_init_0 : decode cX0_init 0 = .ok (.aload_n 0, 1) := by decide +kernel
theorem dX0_init_1 : decode cX0_init 1 = .ok (.invokespecial 3, 3) := by decide +kernel
theorem dX0_init_4 : decode cX0_init 4 = .ok (.aload_n 0, 1) := by decide +kernel
theorem dX0_init_5 : decode cX0_init 5 = .ok (.sipush 168, 3) := by decide +kernel
theorem dX0_init_8 : decode cX0_init 8 = .ok (.newarray .int, 2) := by decide +kernel
theorem dX0_init_10 : decode cX0_init 10 = .ok (.putfield 9, 3) := by decide +kernel
theorem dX0_init_13 : decode cX0_init 13 = .ok (.aload_n 0, 1) := by decide +kernel
theorem dX0_init_14 : decode cX0_init 14 = .ok (.bipush 57, 2) := by decide +kernel
theorem dX0_init_16 : decode cX0_init 16 = .ok (.newarray .int, 2) := by decide +kernel
theorem dX0_init_18 : decode cX0_init 18 = .ok (.putfield 15, 3) := by decide +kernel
theorem dX0_init_21 : decode cX0_init 21 = .ok (.aload_n 0, 1) := by decide +kernel
theorem dX0_init_22 : decode cX0_init 22 = .ok (.iconst 3, 1) := by decide +kernel
theorem dX0_init_23 : decode cX0_init 23 = .ok (.newarray .int, 2) := by decide +kernel
theorem dX0_init_25 : decode cX0_init 25 = .ok (.putfield 18, 3) := by decide +kernel
theorem dX0_init_28 : decode cX0_init 28 = .ok (.aload_n 0, 1) := by decide +kernel
theorem dX0_init_29 : decode cX0_init 29 = .ok (.bipush 8, 2) := by decide +kernel
theorem dX0_init_31 : decode cX0_init 31 = .ok (.newarray .int, 2) := by decide +kernel
theorem dX0_init_33 : decode cX0_init 33 = .ok (.putfield 21, 3) := by decide +kernel
theorem dX0_init_36 : decode cX0_init 36 = .ok (.return_, 1) := by decide +kernel
theorem dX0_build_0 : decode cX0_build 0 = .ok (.aload_n 0, 1) := by decide +kernel
theorem dX0_build_1 : decode cX0_build 1 = .ok (.iload_n 2, 1) := by decide +kernel
theorem dX0_build_2 : decode cX0_build 2 = .ok (.iconst 3, 1) := by decide +kernel
theorem dX0_build_3 : decode cX0_build 3 = .ok (.invokestatic 24, 3) := by decide +kernel
theorem dX0_build_6 : decode cX0_build 6 = .ok (.putfield 30, 3) := by decide +kernel
theorem dX0_build_9 : decode cX0_build 9 = .ok (.aload_n 0, 1) := by decide +kernel
theorem dX0_build_10 : decode cX0_build 10 = .ok (.iconst 0, 1) := by decide +kernel
theorem dX0_build_11 : decode cX0_build 11 = .ok (.putfield 34, 3) := by decide +kernel
theorem dX0_build_14 : decode cX0_build 14 = .ok (.aload_n 1, 1) := by decide +kernel
theorem dX0_build_15 : decode cX0_build 15 = .ok (.getfield 37, 3) := by decide +kernel
theorem dX0_build_18 : decode cX0_build 18 = .ok (.iconst 0, 1) := by decide +kernel
theorem dX0_build_19 : decode cX0_build 19 = .ok (.aload_n 0, 1) := by decide +kernel
theorem dX0_build_20 : decode cX0_build 20 = .ok (.getfield 21, 3) := by decide +kernel
theorem dX0_build_23 : decode cX0_build 23 = .ok (.iconst 0, 1) := by decide +kernel
theorem dX0_build_24 : decode cX0_build 24 = .ok (.bipush 8, 2) := by decide +kernel
theorem dX0_build_26 : decode cX0_build 26 = .ok (.invokestatic 40, 3) := by decide +kernel
theorem dX0_build_29 : decode cX0_build 29 = .ok (.iconst 0, 1) := by decide +kernel
theorem dX0_build_30 : decode cX0_build 30 = .ok (.istore_n 3, 1) := by decide +kernel
theorem dX0_build_31 : decode cX0_build 31 = .ok (.iload_n 3, 1) := by decide +kernel
theorem dX0_build_32 : decode cX0_build 32 = .ok (.aload_n 0, 1) := by decide +kernel
theorem dX0_build_33 : decode cX0_build 33 = .ok (.getfield 30, 3) := by decide +kernel
theorem dX0_build_36 : decode cX0_build 36 = .ok (.if_icmp .ge 16, 3) := by decide +kernel
theorem dX0_build_39 : decode cX0_build 39 = .ok (.aload_n 0, 1) := by decide +kernel
theorem dX0_build_40 : decode cX0_build 40 = .ok (.getfield 18, 3) := by decide +kernel
theorem dX0_build_43 : decode cX0_build 43 = .ok (.iload_n 3, 1) := by decide +kernel
theorem dX0_build_44 : decode cX0_build 44 = .ok (.iload_n 3, 1) := by decide +kernel
theorem dX0_build_45 : decode cX0_build 45 = .ok (.iastore, 1) := by decide +kernel
theorem dX0_build_46 : decode cX0_build 46 = .ok (.iinc 3 1, 3) := by decide +kernel
theorem dX0_build_49 : decode cX0_build 49 = .ok (.goto (-18), 3) := by decide +kernel
theorem dX0_build_52 : decode cX0_build 52 = .ok (.aload_n 0, 1) := by decide +kernel
theorem dX0_build_53 : decode cX0_build 53 = .ok (.getfield 30, 3) := by decide +kernel
theorem dX0_build_56 : decode cX0_build 56 = .ok (.iconst 1, 1) := by decide +kernel
theorem dX0_build_57 : decode cX0_build 57 = .ok (.if_icmp .lt 18, 3) := by decide +kernel
theorem dX0_build_60 : decode cX0_build 60 = .ok (.aload_n 0, 1) := by decide +kernel
theorem dX0_build_61 : decode cX0_build 61 = .ok (.getfield 30, 3) := by decide +kernel
theorem dX0_build_64 : decode cX0_build 64 = .ok (.aload_n 1, 1) := by decide +kernel
theorem dX0_build_65 : decode cX0_build 65 = .ok (.getfield 46, 3) := by decide +kernel
theorem dX0_build_68 : decode cX0_build 68 = .ok (.if_icmp .gt 7, 3) := by decide +kernel
theorem dX0_build_71 : decode cX0_build 71 = .ok (.iconst 1, 1) := by decide +kernel
theorem dX0_build_72 : decode cX0_build 72 = .ok (.goto 4, 3) := by decide +kernel
theorem dX0_build_75 : decode cX0_build 75 = .ok (.iconst 0, 1) := by decide +kernel
theorem dX0_build_76 : decode cX0_build 76 = .ok (.istore_n 3, 1) := by decide +kernel
theorem dX0_build_77 : decode cX0_build 77 = .ok (.iload_n 3, 1) := by decide +kernel
theorem dX0_build_78 : decode cX0_build 78 = .ok (.ifCond .eq 116, 3) := by decide +kernel
theorem dX0_build_81 : decode cX0_build 81 = .ok (.aload_n 0, 1) := by decide +kernel
theorem dX0_build_82 : decode cX0_build 82 = .ok (.getfield 34, 3) := by decide +kernel
theorem dX0_build_85 : decode cX0_build 85 = .ok (.bipush 56, 2) := by decide +kernel
theorem dX0_build_87 : decode cX0_build 87 = .ok (.if_icmp .ge 107, 3) := by decide +kernel
theorem dX0_build_90 : decode cX0_build 90 = .ok (.iconst 1, 1) := by decide +kernel
theorem dX0_build_91 : decode cX0_build 91 = .ok (.istore 4, 2) := by decide +kernel
theorem dX0_build_93 : decode cX0_build 93 = .ok (.iconst 0, 1) := by decide +kernel
theorem dX0_build_94 : decode cX0_build 94 = .ok (.istore 5, 2) := by decide +kernel
theorem dX0_build_96 : decode cX0_build 96 = .ok (.iload 5, 2) := by decide +kernel
theorem dX0_build_98 : decode cX0_build 98 = .ok (.aload_n 0, 1) := by decide +kernel
theorem dX0_build_99 : decode cX0_build 99 = .ok (.getfield 30, 3) := by decide +kernel
theorem dX0_build_102 : decode cX0_build 102 = .ok (.if_icmp .ge 47, 3) := by decide +kernel
theorem dX0_build_105 : decode cX0_build 105 = .ok (.aload_n 0, 1) := by decide +kernel
theorem dX0_build_106 : decode cX0_build 106 = .ok (.getfield 9, 3) := by decide +kernel
theorem dX0_build_109 : decode cX0_build 109 = .ok (.aload_n 0, 1) := by decide +kernel
theorem dX0_build_110 : decode cX0_build 110 = .ok (.getfield 34, 3) := by decide +kernel
theorem dX0_build_113 : decode cX0_build 113 = .ok (.iconst 3, 1) := by decide +kernel
theorem dX0_build_114 : decode cX0_build 114 = .ok (.imul, 1) := by decide +kernel
theorem dX0_build_115 : decode cX0_build 115 = .ok (.iload 5, 2) := by decide +kernel
theorem dX0_build_117 : decode cX0_build 117 = .ok (.iadd, 1) := by decide +kernel
theorem dX0_build_118 : decode cX0_build 118 = .ok (.aload_n 0, 1) := by decide +kernel
theorem dX0_build_119 : decode cX0_build 119 = .ok (.getfield 18, 3) := by decide +kernel
theorem dX0_build_122 : decode cX0_build 122 = .ok (.iload 5, 2) := by decide +kernel
theorem dX0_build_124 : decode cX0_build 124 = .ok (.iaload, 1) := by decide +kernel
theorem dX0_build_125 : decode cX0_build 125 = .ok (.iastore, 1) := by decide +kernel
theorem dX0_build_126 : decode cX0_build 126 = .ok (.iload 4, 2) := by decide +kernel
theorem dX0_build_128 : decode cX0_build 128 = .ok (.aload_n 0, 1) := by decide +kernel
theorem dX0_build_129 : decode cX0_build 129 = .ok (.getfield 21, 3) := by decide +kernel
theorem dX0_build_132 : decode cX0_build 132 = .ok (.aload_n 0, 1) := by decide +kernel
theorem dX0_build_133 : decode cX0_build 133 = .ok (.getfield 18, 3) := by decide +kernel
theorem dX0_build_136 : decode cX0_build 136 = .ok (.iload 5, 2) := by decide +kernel
theorem dX0_build_138 : decode cX0_build 138 = .ok (.iaload, 1) := by decide +kernel
theorem dX0_build_139 : decode cX0_build 139 = .ok (.iaload, 1) := by decide +kernel
theorem dX0_build_140 : decode cX0_build 140 = .ok (.imul, 1) := by decide +kernel
theorem dX0_build_141 : decode cX0_build 141 = .ok (.istore 4, 2) := by decide +kernel
theorem dX0_build_143 : decode cX0_build 143 = .ok (.iinc 5 1, 3) := by decide +kernel
theorem dX0_build_146 : decode cX0_build 146 = .ok (.goto (-50), 3) := by decide +kernel
theorem dX0_build_149 : decode cX0_build 149 = .ok (.aload_n 0, 1) := by decide +kernel
theorem dX0_build_150 : decode cX0_build 150 = .ok (.getfield 15, 3) := by decide +kernel
theorem dX0_build_153 : decode cX0_build 153 = .ok (.aload_n 0, 1) := by decide +kernel
theorem dX0_build_154 : decode cX0_build 154 = .ok (.getfield 34, 3) := by decide +kernel
theorem dX0_build_157 : decode cX0_build 157 = .ok (.iconst 1, 1) := by decide +kernel
theorem dX0_build_158 : decode cX0_build 158 = .ok (.iadd, 1) := by decide +kernel
theorem dX0_build_159 : decode cX0_build 159 = .ok (.aload_n 0, 1) := by decide +kernel
theorem dX0_build_160 : decode cX0_build 160 = .ok (.getfield 15, 3) := by decide +kernel
theorem dX0_build_163 : decode cX0_build 163 = .ok (.aload_n 0, 1) := by decide +kernel
theorem dX0_build_164 : decode cX0_build 164 = .ok (.getfield 34, 3) := by decide +kernel
theorem dX0_build_167 : decode cX0_build 167 = .ok (.iaload, 1) := by decide +kernel
theorem dX0_build_168 : decode cX0_build 168 = .ok (.iload 4, 2) := by decide +kernel
theorem dX0_build_170 : decode cX0_build 170 = .ok (.iadd, 1) := by decide +kernel
theorem dX0_build_171 : decode cX0_build 171 = .ok (.iastore, 1) := by decide +kernel
theorem dX0_build_172 : decode cX0_build 172 = .ok (.aload_n 0, 1) := by decide +kernel
theorem dX0_build_173 : decode cX0_build 173 = .ok (.dup, 1) := by decide +kernel
theorem dX0_build_174 : decode cX0_build 174 = .ok (.getfield 34, 3) := by decide +kernel
theorem dX0_build_177 : decode cX0_build 177 = .ok (.iconst 1, 1) := by decide +kernel
theorem dX0_build_178 : decode cX0_build 178 = .ok (.iadd, 1) := by decide +kernel
theorem dX0_build_179 : decode cX0_build 179 = .ok (.putfield 34, 3) := by decide +kernel
theorem dX0_build_182 : decode cX0_build 182 = .ok (.aload_n 0, 1) := by decide +kernel
theorem dX0_build_183 : decode cX0_build 183 = .ok (.aload_n 1, 1) := by decide +kernel
theorem dX0_build_184 : decode cX0_build 184 = .ok (.getfield 46, 3) := by decide +kernel
theorem dX0_build_187 : decode cX0_build 187 = .ok (.invokevirtual 48, 3) := by decide +kernel
theorem dX0_build_190 : decode cX0_build 190 = .ok (.istore_n 3, 1) := by decide +kernel
theorem dX0_build_191 : decode cX0_build 191 = .ok (.goto (-114), 3) := by decide +kernel
theorem dX0_build_194 : decode cX0_build 194 = .ok (.return_, 1) := by decide +kernel
theorem dX0_nextPick_0 : decode cX0_nextPick 0 = .ok (.aload_n 0, 1) := by decide +kernel
theorem dX0_nextPick_1 : decode cX0_nextPick 1 = .ok (.getfield 30, 3) := by decide +kernel
theorem dX0_nextPick_4 : decode cX0_nextPick 4 = .ok (.iconst 1, 1) := by decide +kernel
theorem dX0_nextPick_5 : decode cX0_nextPick 5 = .ok (.isub, 1) := by decide +kernel
theorem dX0_nextPick_6 : decode cX0_nextPick 6 = .ok (.istore_n 2, 1) := by decide +kernel
theorem dX0_nextPick_7 : decode cX0_nextPick 7 = .ok (.iload_n 2, 1) := by decide +kernel
theorem dX0_nextPick_8 : decode cX0_nextPick 8 = .ok (.ifCond .lt 26, 3) := by decide +kernel
theorem dX0_nextPick_11 : decode cX0_nextPick 11 = .ok (.aload_n 0, 1) := by decide +kernel
theorem dX0_nextPick_12 : decode cX0_nextPick 12 = .ok (.getfield 18, 3) := by decide +kernel
theorem dX0_nextPick_15 : decode cX0_nextPick 15 = .ok (.iload_n 2, 1) := by decide +kernel
theorem dX0_nextPick_16 : decode cX0_nextPick 16 = .ok (.iaload, 1) := by decide +kernel
theorem dX0_nextPick_17 : decode cX0_nextPick 17 = .ok (.iload_n 1, 1) := by decide +kernel
theorem dX0_nextPick_18 : decode cX0_nextPick 18 = .ok (.aload_n 0, 1) := by decide +kernel
theorem dX0_nextPick_19 : decode cX0_nextPick 19 = .ok (.getfield 30, 3) := by decide +kernel
theorem dX0_nextPick_22 : decode cX0_nextPick 22 = .ok (.isub, 1) := by decide +kernel
theorem dX0_nextPick_23 : decode cX0_nextPick 23 = .ok (.iload_n 2, 1) := by decide +kernel
theorem dX0_nextPick_24 : decode cX0_nextPick 24 = .ok (.iadd, 1) := by decide +kernel
theorem dX0_nextPick_25 : decode cX0_nextPick 25 = .ok (.if_icmp .lt 9, 3) := by decide +kernel
theorem dX0_nextPick_28 : decode cX0_nextPick 28 = .ok (.iinc 2 (-1), 3) := by decide +kernel
theorem dX0_nextPick_31 : decode cX0_nextPick 31 = .ok (.goto (-24), 3) := by decide +kernel
theorem dX0_nextPick_34 : decode cX0_nextPick 34 = .ok (.iload_n 2, 1) := by decide +kernel
theorem dX0_nextPick_35 : decode cX0_nextPick 35 = .ok (.ifCond .ge 5, 3) := by decide +kernel
theorem dX0_nextPick_38 : decode cX0_nextPick 38 = .ok (.iconst 0, 1) := by decide +kernel
theorem dX0_nextPick_39 : decode cX0_nextPick 39 = .ok (.ireturn, 1) := by decide +kernel
theorem dX0_nextPick_40 : decode cX0_nextPick 40 = .ok (.aload_n 0, 1) := by decide +kernel
theorem dX0_nextPick_41 : decode cX0_nextPick 41 = .ok (.getfield 18, 3) := by decide +kernel
theorem dX0_nextPick_44 : decode cX0_nextPick 44 = .ok (.iload_n 2, 1) := by decide +kernel
theorem dX0_nextPick_45 : decode cX0_nextPick 45 = .ok (.dup2, 1) := by decide +kernel
theorem dX0_nextPick_46 : decode cX0_nextPick 46 = .ok (.iaload, 1) := by decide +kernel
theorem dX0_nextPick_47 : decode cX0_nextPick 47 = .ok (.iconst 1, 1) := by decide +kernel
theorem dX0_nextPick_48 : decode cX0_nextPick 48 = .ok (.iadd, 1) := by decide +kernel
theorem dX0_nextPick_49 : decode cX0_nextPick 49 = .ok (.iastore, 1) := by decide +kernel
theorem dX0_nextPick_50 : decode cX0_nextPick 50 = .ok (.iload_n 2, 1) := by decide +kernel
theorem dX0_nextPick_51 : decode cX0_nextPick 51 = .ok (.iconst 1, 1) := by decide +kernel
theorem dX0_nextPick_52 : decode cX0_nextPick 52 = .ok (.iadd, 1) := by decide +kernel
theorem dX0_nextPick_53 : decode cX0_nextPick 53 = .ok (.istore_n 3, 1) := by decide +kernel
theorem dX0_nextPick_54 : decode cX0_nextPick 54 = .ok (.iload_n 3, 1) := by decide +kernel
theorem dX0_nextPick_55 : decode cX0_nextPick 55 = .ok (.aload_n 0, 1) := by decide +kernel
theorem dX0_nextPick_56 : decode cX0_nextPick 56 = .ok (.getfield 30, 3) := by decide +kernel
theorem dX0_nextPick_59 : decode cX0_nextPick 59 = .ok (.if_icmp .ge 25, 3) := by decide +kernel
theorem dX0_nextPick_62 : decode cX0_nextPick 62 = .ok (.aload_n 0, 1) := by decide +kernel
theorem dX0_nextPick_63 : decode cX0_nextPick 63 = .ok (.getfield 18, 3) := by decide +kernel
theorem dX0_nextPick_66 : decode cX0_nextPick 66 = .ok (.iload_n 3, 1) := by decide +kernel
theorem dX0_nextPick_67 : decode cX0_nextPick 67 = .ok (.aload_n 0, 1) := by decide +kernel
theorem dX0_nextPick_68 : decode cX0_nextPick 68 = .ok (.getfield 18, 3) := by decide +kernel
theorem dX0_nextPick_71 : decode cX0_nextPick 71 = .ok (.iload_n 3, 1) := by decide +kernel
theorem dX0_nextPick_72 : decode cX0_nextPick 72 = .ok (.iconst 1, 1) := by decide +kernel
theorem dX0_nextPick_73 : decode cX0_nextPick 73 = .ok (.isub, 1) := by decide +kernel
theorem dX0_nextPick_74 : decode cX0_nextPick 74 = .ok (.iaload, 1) := by decide +kernel
theorem dX0_nextPick_75 : decode cX0_nextPick 75 = .ok (.iconst 1, 1) := by decide +kernel
theorem dX0_nextPick_76 : decode cX0_nextPick 76 = .ok (.iadd, 1) := by decide +kernel
theorem dX0_nextPick_77 : decode cX0_nextPick 77 = .ok (.iastore, 1) := by decide +kernel
theorem dX0_nextPick_78 : decode cX0_nextPick 78 = .ok (.iinc 3 1, 3) := by decide +kernel
theorem dX0_nextPick_81 : decode cX0_nextPick 81 = .ok (.goto (-27), 3) := by decide +kernel
theorem dX0_nextPick_84 : decode cX0_nextPick 84 = .ok (.iconst 1, 1) := by decide +kernel
theorem dX0_nextPick_85 : decode cX0_nextPick 85 = .ok (.ireturn, 1) := by decide +kernel
theorem dX0_columnAt_0 : decode cX0_columnAt 0 = .ok (.aload_n 0, 1) := by decide +kernel
theorem dX0_columnAt_1 : decode cX0_columnAt 1 = .ok (.getfield 9, 3) := by decide +kernel
theorem dX0_columnAt_4 : decode cX0_columnAt 4 = .ok (.iload_n 1, 1) := by decide +kernel
theorem dX0_columnAt_5 : decode cX0_columnAt 5 = .ok (.iconst 3, 1) := by decide +kernel
theorem dX0_columnAt_6 : decode cX0_columnAt 6 = .ok (.imul, 1) := by decide +kernel
theorem dX0_columnAt_7 : decode cX0_columnAt 7 = .ok (.iload_n 2, 1) := by decide +kernel
theorem dX0_columnAt_8 : decode cX0_columnAt 8 = .ok (.iadd, 1) := by decide +kernel
theorem dX0_columnAt_9 : decode cX0_columnAt 9 = .ok (.iaload, 1) := by decide +kernel
theorem dX0_columnAt_10 : decode cX0_columnAt 10 = .ok (.ireturn, 1) := by decide +kernel
theorem dX0_levelsAt_0 : decode cX0_levelsAt 0 = .ok (.aload_n 0, 1) := by decide +kernel
theorem dX0_levelsAt_1 : decode cX0_levelsAt 1 = .ok (.getfield 21, 3) := by decide +kernel
theorem dX0_levelsAt_4 : decode cX0_levelsAt 4 = .ok (.aload_n 0, 1) := by decide +kernel
theorem dX0_levelsAt_5 : decode cX0_levelsAt 5 = .ok (.iload_n 1, 1) := by decide +kernel
theorem dX0_levelsAt_6 : decode cX0_levelsAt 6 = .ok (.iload_n 2, 1) := by decide +kernel
theorem dX0_levelsAt_7 : decode cX0_levelsAt 7 = .ok (.invokevirtual 52, 3) := by decide +kernel
theorem dX0_levelsAt_10 : decode cX0_levelsAt 10 = .ok (.iaload, 1) := by decide +kernel
theorem dX0_levelsAt_11 : decode cX0_levelsAt 11 = .ok (.ireturn, 1) := by decide +kernel
theorem dX0_numberIn_0 : decode cX0_numberIn 0 = .ok (.iconst 0, 1) := by decide +kernel
theorem dX0_numberIn_1 : decode cX0_numberIn 1 = .ok (.istore_n 3, 1) := by decide +kernel
theorem dX0_numberIn_2 : decode cX0_numberIn 2 = .ok (.iconst 0, 1) := by decide +kernel
theorem dX0_numberIn_3 : decode cX0_numberIn 3 = .ok (.istore 4, 2) := by decide +kernel
theorem dX0_numberIn_5 : decode cX0_numberIn 5 = .ok (.iload 4, 2) := by decide +kernel
theorem dX0_numberIn_7 : decode cX0_numberIn 7 = .ok (.aload_n 0, 1) := by decide +kernel
theorem dX0_numberIn_8 : decode cX0_numberIn 8 = .ok (.getfield 30, 3) := by decide +kernel
theorem dX0_numberIn_11 : decode cX0_numberIn 11 = .ok (.if_icmp .ge 51, 3) := by decide +kernel
theorem dX0_numberIn_14 : decode cX0_numberIn 14 = .ok (.aload_n 0, 1) := by decide +kernel
theorem dX0_numberIn_15 : decode cX0_numberIn 15 = .ok (.getfield 9, 3) := by decide +kernel
theorem dX0_numberIn_18 : decode cX0_numberIn 18 = .ok (.iload_n 1, 1) := by decide +kernel
theorem dX0_numberIn_19 : decode cX0_numberIn 19 = .ok (.iconst 3, 1) := by decide +kernel
theorem dX0_numberIn_20 : decode cX0_numberIn 20 = .ok (.imul, 1) := by decide +kernel
theorem dX0_numberIn_21 : decode cX0_numberIn 21 = .ok (.iload 4, 2) := by decide +kernel
theorem dX0_numberIn_23 : decode cX0_numberIn 23 = .ok (.iadd, 1) := by decide +kernel
theorem dX0_numberIn_24 : decode cX0_numberIn 24 = .ok (.iaload, 1) := by decide +kernel
theorem dX0_numberIn_25 : decode cX0_numberIn 25 = .ok (.istore 5, 2) := by decide +kernel
theorem dX0_numberIn_27 : decode cX0_numberIn 27 = .ok (.iload_n 2, 1) := by decide +kernel
theorem dX0_numberIn_28 : decode cX0_numberIn 28 = .ok (.iload 5, 2) := by decide +kernel
theorem dX0_numberIn_30 : decode cX0_numberIn 30 = .ok (.invokestatic 55, 3) := by decide +kernel
theorem dX0_numberIn_33 : decode cX0_numberIn 33 = .ok (.istore 6, 2) := by decide +kernel
theorem dX0_numberIn_35 : decode cX0_numberIn 35 = .ok (.iload 6, 2) := by decide +kernel
theorem dX0_numberIn_37 : decode cX0_numberIn 37 = .ok (.iconst (-1), 1) := by decide +kernel
theorem dX0_numberIn_38 : decode cX0_numberIn 38 = .ok (.if_icmp .ne 5, 3) := by decide +kernel
theorem dX0_numberIn_41 : decode cX0_numberIn 41 = .ok (.iconst (-1), 1) := by decide +kernel
theorem dX0_numberIn_42 : decode cX0_numberIn 42 = .ok (.ireturn, 1) := by decide +kernel
theorem dX0_numberIn_43 : decode cX0_numberIn 43 = .ok (.iload_n 3, 1) := by decide +kernel
theorem dX0_numberIn_44 : decode cX0_numberIn 44 = .ok (.aload_n 0, 1) := by decide +kernel
theorem dX0_numberIn_45 : decode cX0_numberIn 45 = .ok (.getfield 21, 3) := by decide +kernel
theorem dX0_numberIn_48 : decode cX0_numberIn 48 = .ok (.iload 5, 2) := by decide +kernel
theorem dX0_numberIn_50 : decode cX0_numberIn 50 = .ok (.iaload, 1) := by decide +kernel
theorem dX0_numberIn_51 : decode cX0_numberIn 51 = .ok (.imul, 1) := by decide +kernel
theorem dX0_numberIn_52 : decode cX0_numberIn 52 = .ok (.iload 6, 2) := by decide +kernel
theorem dX0_numberIn_54 : decode cX0_numberIn 54 = .ok (.iadd, 1) := by decide +kernel
theorem dX0_numberIn_55 : decode cX0_numberIn 55 = .ok (.istore_n 3, 1) := by decide +kernel
theorem dX0_numberIn_56 : decode cX0_numberIn 56 = .ok (.iinc 4 1, 3) := by decide +kernel
theorem dX0_numberIn_59 : decode cX0_numberIn 59 = .ok (.goto (-54), 3) := by decide +kernel
theorem dX0_numberIn_62 : decode cX0_numberIn 62 = .ok (.aload_n 0, 1) := by decide +kernel
theorem dX0_numberIn_63 : decode cX0_numberIn 63 = .ok (.getfield 15, 3) := by decide +kernel
theorem dX0_numberIn_66 : decode cX0_numberIn 66 = .ok (.iload_n 1, 1) := by decide +kernel
theorem dX0_numberIn_67 : decode cX0_numberIn 67 = .ok (.iaload, 1) := by decide +kernel
theorem dX0_numberIn_68 : decode cX0_numberIn 68 = .ok (.iload_n 3, 1) := by decide +kernel
theorem dX0_numberIn_69 : decode cX0_numberIn 69 = .ok (.iadd, 1) := by decide +kernel
theorem dX0_numberIn_70 : decode cX0_numberIn 70 = .ok (.ireturn, 1) := by decide +kernel
theorem dX0_cellsIn_0 : decode cX0_cellsIn 0 = .ok (.iconst 0, 1) := by decide +kernel
theorem dX0_cellsIn_1 : decode cX0_cellsIn 1 = .ok (.istore_n 3, 1) := by decide +kernel
theorem dX0_cellsIn_2 : decode cX0_cellsIn 2 = .ok (.iconst 0, 1) := by decide +kernel
theorem dX0_cellsIn_3 : decode cX0_cellsIn 3 = .ok (.istore 4, 2) := by decide +kernel
theorem dX0_cellsIn_5 : decode cX0_cellsIn 5 = .ok (.iload 4, 2) := by decide +kernel
theorem dX0_cellsIn_7 : decode cX0_cellsIn 7 = .ok (.aload_n 0, 1) := by decide +kernel
theorem dX0_cellsIn_8 : decode cX0_cellsIn 8 = .ok (.getfield 30, 3) := by decide +kernel
theorem dX0_cellsIn_11 : decode cX0_cellsIn 11 = .ok (.if_icmp .ge 30, 3) := by decide +kernel
theorem dX0_cellsIn_14 : decode cX0_cellsIn 14 = .ok (.iload_n 3, 1) := by decide +kernel
theorem dX0_cellsIn_15 : decode cX0_cellsIn 15 = .ok (.iload_n 2, 1) := by decide +kernel
theorem dX0_cellsIn_16 : decode cX0_cellsIn 16 = .ok (.bipush 15, 2) := by decide +kernel
theorem dX0_cellsIn_18 : decode cX0_cellsIn 18 = .ok (.iconst 4, 1) := by decide +kernel
theorem dX0_cellsIn_19 : decode cX0_cellsIn 19 = .ok (.aload_n 0, 1) := by decide +kernel
theorem dX0_cellsIn_20 : decode cX0_cellsIn 20 = .ok (.getfield 9, 3) := by decide +kernel
theorem dX0_cellsIn_23 : decode cX0_cellsIn 23 = .ok (.iload_n 1, 1) := by decide +kernel
theorem dX0_cellsIn_24 : decode cX0_cellsIn 24 = .ok (.iconst 3, 1) := by decide +kernel
theorem dX0_cellsIn_25 : decode cX0_cellsIn 25 = .ok (.imul, 1) := by decide +kernel
theorem dX0_cellsIn_26 : decode cX0_cellsIn 26 = .ok (.iload 4, 2) := by decide +kernel
theorem dX0_cellsIn_28 : decode cX0_cellsIn 28 = .ok (.iadd, 1) := by decide +kernel
theorem dX0_cellsIn_29 : decode cX0_cellsIn 29 = .ok (.iaload, 1) := by decide +kernel
theorem dX0_cellsIn_30 : decode cX0_cellsIn 30 = .ok (.imul, 1) := by decide +kernel
theorem dX0_cellsIn_31 : decode cX0_cellsIn 31 = .ok (.ishl, 1) := by decide +kernel
theorem dX0_cellsIn_32 : decode cX0_cellsIn 32 = .ok (.iand, 1) := by decide +kernel
theorem dX0_cellsIn_33 : decode cX0_cellsIn 33 = .ok (.ior, 1) := by decide +kernel
theorem dX0_cellsIn_34 : decode cX0_cellsIn 34 = .ok (.istore_n 3, 1) := by decide +kernel
theorem dX0_cellsIn_35 : decode cX0_cellsIn 35 = .ok (.iinc 4 1, 3) := by decide +kernel
theorem dX0_cellsIn_38 : decode cX0_cellsIn 38 = .ok (.goto (-33), 3) := by decide +kernel
theorem dX0_cellsIn_41 : decode cX0_cellsIn 41 = .ok (.iload_n 3, 1) := by decide +kernel
theorem dX0_cellsIn_42 : decode cX0_cellsIn 42 = .ok (.ireturn, 1) := by decide +kernel
theorem dX1_sizeFor_0 : decode cX1_sizeFor 0 = .ok (.iconst 0, 1) := by decide +kernel
theorem dX1_sizeFor_1 : decode cX1_sizeFor 1 = .ok (.istore_n 1, 1) := by decide +kernel
theorem dX1_sizeFor_2 : decode cX1_sizeFor 2 = .ok (.iload_n 1, 1) := by decide +kernel
theorem dX1_sizeFor_3 : decode cX1_sizeFor 3 = .ok (.getstatic 7, 3) := by decide +kernel
theorem dX1_sizeFor_6 : decode cX1_sizeFor 6 = .ok (.arraylength, 1) := by decide +kernel
theorem dX1_sizeFor_7 : decode cX1_sizeFor 7 = .ok (.if_icmp .ge 24, 3) := by decide +kernel
theorem dX1_sizeFor_10 : decode cX1_sizeFor 10 = .ok (.getstatic 7, 3) := by decide +kernel
theorem dX1_sizeFor_13 : decode cX1_sizeFor 13 = .ok (.iload_n 1, 1) := by decide +kernel
theorem dX1_sizeFor_14 : decode cX1_sizeFor 14 = .ok (.iaload, 1) := by decide +kernel
theorem dX1_sizeFor_15 : decode cX1_sizeFor 15 = .ok (.iload_n 0, 1) := by decide +kernel
theorem dX1_sizeFor_16 : decode cX1_sizeFor 16 = .ok (.if_icmp .lt 9, 3) := by decide +kernel
theorem dX1_sizeFor_19 : decode cX1_sizeFor 19 = .ok (.getstatic 7, 3) := by decide +kernel
theorem dX1_sizeFor_22 : decode cX1_sizeFor 22 = .ok (.iload_n 1, 1) := by decide +kernel
theorem dX1_sizeFor_23 : decode cX1_sizeFor 23 = .ok (.iaload, 1) := by decide +kernel
theorem dX1_sizeFor_24 : decode cX1_sizeFor 24 = .ok (.ireturn, 1) := by decide +kernel
theorem dX1_sizeFor_25 : decode cX1_sizeFor 25 = .ok (.iinc 1 1, 3) := by decide +kernel
theorem dX1_sizeFor_28 : decode cX1_sizeFor 28 = .ok (.goto (-26), 3) := by decide +kernel
theorem dX1_sizeFor_31 : decode cX1_sizeFor 31 = .ok (.iconst 0, 1) := by decide +kernel
theorem dX1_sizeFor_32 : decode cX1_sizeFor 32 = .ok (.ireturn, 1) := by decide +kernel
theorem dX1_power_0 : decode cX1_power 0 = .ok (.iconst 1, 1) := by decide +kernel
theorem dX1_power_1 : decode cX1_power 1 = .ok (.istore_n 2, 1) := by decide +kernel
theorem dX1_power_2 : decode cX1_power 2 = .ok (.iconst 0, 1) := by decide +kernel
theorem dX1_power_3 : decode cX1_power 3 = .ok (.istore_n 3, 1) := by decide +kernel
theorem dX1_power_4 : decode cX1_power 4 = .ok (.iload_n 3, 1) := by decide +kernel
theorem dX1_power_5 : decode cX1_power 5 = .ok (.iload_n 1, 1) := by decide +kernel
theorem dX1_power_6 : decode cX1_power 6 = .ok (.if_icmp .ge 13, 3) := by decide +kernel
theorem dX1_power_9 : decode cX1_power 9 = .ok (.iload_n 2, 1) := by decide +kernel
theorem dX1_power_10 : decode cX1_power 10 = .ok (.iload_n 0, 1) := by decide +kernel
theorem dX1_power_11 : decode cX1_power 11 = .ok (.imul, 1) := by decide +kernel
theorem dX1_power_12 : decode cX1_power 12 = .ok (.istore_n 2, 1) := by decide +kernel
theorem dX1_power_13 : decode cX1_power 13 = .ok (.iinc 3 1, 3) := by decide +kernel
theorem dX1_power_16 : decode cX1_power 16 = .ok (.goto (-12), 3) := by decide +kernel
theorem dX1_power_19 : decode cX1_power 19 = .ok (.iload_n 2, 1) := by decide +kernel
theorem dX1_power_20 : decode cX1_power 20 = .ok (.ireturn, 1) := by decide +kernel
theorem dX1_valueAt_0 : decode cX1_valueAt 0 = .ok (.iload_n 1, 1) := by decide +kernel
theorem dX1_valueAt_1 : decode cX1_valueAt 1 = .ok (.istore 4, 2) := by decide +kernel
theorem dX1_valueAt_3 : decode cX1_valueAt 3 = .ok (.iconst 0, 1) := by decide +kernel
theorem dX1_valueAt_4 : decode cX1_valueAt 4 = .ok (.istore 5, 2) := by decide +kernel
theorem dX1_valueAt_6 : decode cX1_valueAt 6 = .ok (.iconst 0, 1) := by decide +kernel
theorem dX1_valueAt_7 : decode cX1_valueAt 7 = .ok (.istore 6, 2) := by decide +kernel
theorem dX1_valueAt_9 : decode cX1_valueAt 9 = .ok (.iload 6, 2) := by decide +kernel
theorem dX1_valueAt_11 : decode cX1_valueAt 11 = .ok (.iload_n 2, 1) := by decide +kernel
theorem dX1_valueAt_12 : decode cX1_valueAt 12 = .ok (.if_icmp .ge 36, 3) := by decide +kernel
theorem dX1_valueAt_15 : decode cX1_valueAt 15 = .ok (.iload_n 3, 1) := by decide +kernel
theorem dX1_valueAt_16 : decode cX1_valueAt 16 = .ok (.ifCond .le 32, 3) := by decide +kernel
theorem dX1_valueAt_19 : decode cX1_valueAt 19 = .ok (.iload 5, 2) := by decide +kernel
theorem dX1_valueAt_21 : decode cX1_valueAt 21 = .ok (.iload_n 0, 1) := by decide +kernel
theorem dX1_valueAt_22 : decode cX1_valueAt 22 = .ok (.iload_n 3, 1) := by decide +kernel
theorem dX1_valueAt_23 : decode cX1_valueAt 23 = .ok (.invokestatic 13, 3) := by decide +kernel
theorem dX1_valueAt_26 : decode cX1_valueAt 26 = .ok (.iload 4, 2) := by decide +kernel
theorem dX1_valueAt_28 : decode cX1_valueAt 28 = .ok (.iload_n 3, 1) := by decide +kernel
theorem dX1_valueAt_29 : decode cX1_valueAt 29 = .ok (.irem, 1) := by decide +kernel
theorem dX1_valueAt_30 : decode cX1_valueAt 30 = .ok (.iload_n 3, 1) := by decide +kernel
theorem dX1_valueAt_31 : decode cX1_valueAt 31 = .ok (.invokestatic 17, 3) := by decide +kernel
theorem dX1_valueAt_34 : decode cX1_valueAt 34 = .ok (.istore 5, 2) := by decide +kernel
theorem dX1_valueAt_36 : decode cX1_valueAt 36 = .ok (.iload 4, 2) := by decide +kernel
theorem dX1_valueAt_38 : decode cX1_valueAt 38 = .ok (.iload_n 3, 1) := by decide +kernel
theorem dX1_valueAt_39 : decode cX1_valueAt 39 = .ok (.idiv, 1) := by decide +kernel
theorem dX1_valueAt_40 : decode cX1_valueAt 40 = .ok (.istore 4, 2) := by decide +kernel
theorem dX1_valueAt_42 : decode cX1_valueAt 42 = .ok (.iinc 6 1, 3) := by decide +kernel
theorem dX1_valueAt_45 : decode cX1_valueAt 45 = .ok (.goto (-36), 3) := by decide +kernel
theorem dX1_valueAt_48 : decode cX1_valueAt 48 = .ok (.iload 5, 2) := by decide +kernel
theorem dX1_valueAt_50 : decode cX1_valueAt 50 = .ok (.ireturn, 1) := by decide +kernel
theorem dX1_lastOf_0 : decode cX1_lastOf 0 = .ok (.iload_n 1, 1) := by decide +kernel
theorem dX1_lastOf_1 : decode cX1_lastOf 1 = .ok (.ifCond .le 9, 3) := by decide +kernel
theorem dX1_lastOf_4 : decode cX1_lastOf 4 = .ok (.iload_n 0, 1) := by decide +kernel
theorem dX1_lastOf_5 : decode cX1_lastOf 5 = .ok (.iload_n 1, 1) := by decide +kernel
theorem dX1_lastOf_6 : decode cX1_lastOf 6 = .ok (.irem, 1) := by decide +kernel
theorem dX1_lastOf_7 : decode cX1_lastOf 7 = .ok (.goto 4, 3) := by decide +kernel
theorem dX1_lastOf_10 : decode cX1_lastOf 10 = .ok (.iconst 0, 1) := by decide +kernel
theorem dX1_lastOf_11 : decode cX1_lastOf 11 = .ok (.ireturn, 1) := by decide +kernel
theorem dX1_plus_0 : decode cX1_plus 0 = .ok (.iload_n 2, 1) := by decide +kernel
theorem dX1_plus_1 : decode cX1_plus 1 = .ok (.iconst 4, 1) := by decide +kernel
theorem dX1_plus_2 : decode cX1_plus 2 = .ok (.if_icmp .ne 9, 3) := by decide +kernel
theorem dX1_plus_5 : decode cX1_plus 5 = .ok (.iload_n 0, 1) := by decide +kernel
theorem dX1_plus_6 : decode cX1_plus 6 = .ok (.iload_n 1, 1) := by decide +kernel
theorem dX1_plus_7 : decode cX1_plus 7 = .ok (.ixor, 1) := by decide +kernel
theorem dX1_plus_8 : decode cX1_plus 8 = .ok (.goto 8, 3) := by decide +kernel
theorem dX1_plus_11 : decode cX1_plus 11 = .ok (.iload_n 0, 1) := by decide +kernel
theorem dX1_plus_12 : decode cX1_plus 12 = .ok (.iload_n 1, 1) := by decide +kernel
theorem dX1_plus_13 : decode cX1_plus 13 = .ok (.iadd, 1) := by decide +kernel
theorem dX1_plus_14 : decode cX1_plus 14 = .ok (.iload_n 2, 1) := by decide +kernel
theorem dX1_plus_15 : decode cX1_plus 15 = .ok (.irem, 1) := by decide +kernel
theorem dX1_plus_16 : decode cX1_plus 16 = .ok (.ireturn, 1) := by decide +kernel
theorem dX1_times_0 : decode cX1_times 0 = .ok (.iload_n 2, 1) := by decide +kernel
theorem dX1_times_1 : decode cX1_times 1 = .ok (.iconst 4, 1) := by decide +kernel
theorem dX1_times_2 : decode cX1_times 2 = .ok (.if_icmp .ne 19, 3) := by decide +kernel
theorem dX1_times_5 : decode cX1_times 5 = .ok (.getstatic 20, 3) := by decide +kernel
theorem dX1_times_8 : decode cX1_times 8 = .ok (.iload_n 0, 1) := by decide +kernel
theorem dX1_times_9 : decode cX1_times 9 = .ok (.iconst 3, 1) := by decide +kernel
theorem dX1_times_10 : decode cX1_times 10 = .ok (.iand, 1) := by decide +kernel
theorem dX1_times_11 : decode cX1_times 11 = .ok (.iconst 4, 1) := by decide +kernel
theorem dX1_times_12 : decode cX1_times 12 = .ok (.imul, 1) := by decide +kernel
theorem dX1_times_13 : decode cX1_times 13 = .ok (.iload_n 1, 1) := by decide +kernel
theorem dX1_times_14 : decode cX1_times 14 = .ok (.iconst 3, 1) := by decide +kernel
theorem dX1_times_15 : decode cX1_times 15 = .ok (.iand, 1) := by decide +kernel
theorem dX1_times_16 : decode cX1_times 16 = .ok (.iadd, 1) := by decide +kernel
theorem dX1_times_17 : decode cX1_times 17 = .ok (.iaload, 1) := by decide +kernel
theorem dX1_times_18 : decode cX1_times 18 = .ok (.goto 8, 3) := by decide +kernel
theorem dX1_times_21 : decode cX1_times 21 = .ok (.iload_n 0, 1) := by decide +kernel
theorem dX1_times_22 : decode cX1_times 22 = .ok (.iload_n 1, 1) := by decide +kernel
theorem dX1_times_23 : decode cX1_times 23 = .ok (.imul, 1) := by decide +kernel
theorem dX1_times_24 : decode cX1_times 24 = .ok (.iload_n 2, 1) := by decide +kernel
theorem dX1_times_25 : decode cX1_times 25 = .ok (.irem, 1) := by decide +kernel
theorem dX1_times_26 : decode cX1_times 26 = .ok (.ireturn, 1) := by decide +kernel
theorem dX2_init_0 : decode cX2_init 0 = .ok (.aload_n 0, 1) := by decide +kernel
theorem dX2_init_1 : decode cX2_init 1 = .ok (.invokespecial 3, 3) := by decide +kernel
theorem dX2_init_4 : decode cX2_init 4 = .ok (.aload_n 0, 1) := by decide +kernel
theorem dX2_init_5 : decode cX2_init 5 = .ok (.new 9, 3) := by decide +kernel
theorem dX2_init_8 : decode cX2_init 8 = .ok (.dup, 1) := by decide +kernel
theorem dX2_init_9 : decode cX2_init 9 = .ok (.invokespecial 11, 3) := by decide +kernel
theorem dX2_init_12 : decode cX2_init 12 = .ok (.putfield 12, 3) := by decide +kernel
theorem dX2_init_15 : decode cX2_init 15 = .ok (.aload_n 0, 1) := by decide +kernel
theorem dX2_init_16 : decode cX2_init 16 = .ok (.sipush 1200, 3) := by decide +kernel
theorem dX2_init_19 : decode cX2_init 19 = .ok (.newarray .int, 2) := by decide +kernel
theorem dX2_init_21 : decode cX2_init 21 = .ok (.putfield 18, 3) := by decide +kernel
theorem dX2_init_24 : decode cX2_init 24 = .ok (.aload_n 0, 1) := by decide +kernel
theorem dX2_init_25 : decode cX2_init 25 = .ok (.sipush 1200, 3) := by decide +kernel
theorem dX2_init_28 : decode cX2_init 28 = .ok (.newarray .int, 2) := by decide +kernel
theorem dX2_init_30 : decode cX2_init 30 = .ok (.putfield 22, 3) := by decide +kernel
theorem dX2_init_33 : decode cX2_init 33 = .ok (.aload_n 0, 1) := by decide +kernel
theorem dX2_init_34 : decode cX2_init 34 = .ok (.sipush 1200, 3) := by decide +kernel
theorem dX2_init_37 : decode cX2_init 37 = .ok (.newarray .int, 2) := by decide +kernel
theorem dX2_init_39 : decode cX2_init 39 = .ok (.putfield 25, 3) := by decide +kernel
theorem dX2_init_42 : decode cX2_init 42 = .ok (.return_, 1) := by decide +kernel
theorem dX2_size_0 : decode cX2_size 0 = .ok (.aload_n 0, 1) := by decide +kernel
theorem dX2_size_1 : decode cX2_size 1 = .ok (.getfield 12, 3) := by decide +kernel
theorem dX2_size_4 : decode cX2_size 4 = .ok (.getfield 28, 3) := by decide +kernel
theorem dX2_size_7 : decode cX2_size 7 = .ok (.aload_n 0, 1) := by decide +kernel
theorem dX2_size_8 : decode cX2_size 8 = .ok (.getfield 12, 3) := by decide +kernel
theorem dX2_size_11 : decode cX2_size 11 = .ok (.getfield 31, 3) := by decide +kernel
theorem dX2_size_14 : decode cX2_size 14 = .ok (.iaload, 1) := by decide +kernel
theorem dX2_size_15 : decode cX2_size 15 = .ok (.sipush 1200, 3) := by decide +kernel
theorem dX2_size_18 : decode cX2_size 18 = .ok (.invokestatic 35, 3) := by decide +kernel
theorem dX2_size_21 : decode cX2_size 21 = .ok (.ireturn, 1) := by decide +kernel
theorem dX2_build_0 : decode cX2_build 0 = .ok (.aload_n 0, 1) := by decide +kernel
theorem dX2_build_1 : decode cX2_build 1 = .ok (.getfield 12, 3) := by decide +kernel
theorem dX2_build_4 : decode cX2_build 4 = .ok (.aload_n 1, 1) := by decide +kernel
theorem dX2_build_5 : decode cX2_build 5 = .ok (.aload_n 1, 1) := by decide +kernel
theorem dX2_build_6 : decode cX2_build 6 = .ok (.getfield 41, 3) := by decide +kernel
theorem dX2_build_9 : decode cX2_build 9 = .ok (.invokevirtual 46, 3) := by decide +kernel
theorem dX2_build_12 : decode cX2_build 12 = .ok (.aload_n 1, 1) := by decide +kernel
theorem dX2_build_13 : decode cX2_build 13 = .ok (.aload_n 1, 1) := by decide +kernel
theorem dX2_build_14 : decode cX2_build 14 = .ok (.getfield 50, 3) := by decide +kernel
theorem dX2_build_17 : decode cX2_build 17 = .ok (.iconst 0, 1) := by decide +kernel
theorem dX2_build_18 : decode cX2_build 18 = .ok (.invokestatic 53, 3) := by decide +kernel
theorem dX2_build_21 : decode cX2_build 21 = .ok (.istore_n 2, 1) := by decide +kernel
theorem dX2_build_22 : decode cX2_build 22 = .ok (.aload_n 0, 1) := by decide +kernel
theorem dX2_build_23 : decode cX2_build 23 = .ok (.iconst 0, 1) := by decide +kernel
theorem dX2_build_24 : decode cX2_build 24 = .ok (.putfield 57, 3) := by decide +kernel
theorem dX2_build_27 : decode cX2_build 27 = .ok (.iconst 0, 1) := by decide +kernel
theorem dX2_build_28 : decode cX2_build 28 = .ok (.istore_n 3, 1) := by decide +kernel
theorem dX2_build_29 : decode cX2_build 29 = .ok (.iload_n 3, 1) := by decide +kernel
theorem dX2_build_30 : decode cX2_build 30 = .ok (.aload_n 0, 1) := by decide +kernel
theorem dX2_build_31 : decode cX2_build 31 = .ok (.getfield 12, 3) := by decide +kernel
theorem dX2_build_34 : decode cX2_build 34 = .ok (.getfield 31, 3) := by decide +kernel
theorem dX2_build_37 : decode cX2_build 37 = .ok (.if_icmp .ge 107, 3) := by decide +kernel
theorem dX2_build_40 : decode cX2_build 40 = .ok (.aload_n 0, 1) := by decide +kernel
theorem dX2_build_41 : decode cX2_build 41 = .ok (.getfield 12, 3) := by decide +kernel
theorem dX2_build_44 : decode cX2_build 44 = .ok (.getfield 28, 3) := by decide +kernel
theorem dX2_build_47 : decode cX2_build 47 = .ok (.iload_n 3, 1) := by decide +kernel
theorem dX2_build_48 : decode cX2_build 48 = .ok (.iaload, 1) := by decide +kernel
theorem dX2_build_49 : decode cX2_build 49 = .ok (.istore 4, 2) := by decide +kernel
theorem dX2_build_51 : decode cX2_build 51 = .ok (.iload 4, 2) := by decide +kernel
theorem dX2_build_53 : decode cX2_build 53 = .ok (.aload_n 0, 1) := by decide +kernel
theorem dX2_build_54 : decode cX2_build 54 = .ok (.getfield 12, 3) := by decide +kernel
theorem dX2_build_57 : decode cX2_build 57 = .ok (.getfield 28, 3) := by decide +kernel
theorem dX2_build_60 : decode cX2_build 60 = .ok (.iload_n 3, 1) := by decide +kernel
theorem dX2_build_61 : decode cX2_build 61 = .ok (.iconst 1, 1) := by decide +kernel
theorem dX2_build_62 : decode cX2_build 62 = .ok (.iadd, 1) := by decide +kernel
theorem dX2_build_63 : decode cX2_build 63 = .ok (.iaload, 1) := by decide +kernel
theorem dX2_build_64 : decode cX2_build 64 = .ok (.if_icmp .ge 74, 3) := by decide +kernel
theorem dX2_build_67 : decode cX2_build 67 = .ok (.iload 4, 2) := by decide +kernel
theorem dX2_build_69 : decode cX2_build 69 = .ok (.sipush 1200, 3) := by decide +kernel
theorem dX2_build_72 : decode cX2_build 72 = .ok (.if_icmp .ge 66, 3) := by decide +kernel
theorem dX2_build_75 : decode cX2_build 75 = .ok (.aload_n 0, 1) := by decide +kernel
theorem dX2_build_76 : decode cX2_build 76 = .ok (.getfield 18, 3) := by decide +kernel
theorem dX2_build_79 : decode cX2_build 79 = .ok (.iload 4, 2) := by decide +kernel
theorem dX2_build_81 : decode cX2_build 81 = .ok (.aload_n 0, 1) := by decide +kernel
theorem dX2_build_82 : decode cX2_build 82 = .ok (.iload_n 3, 1) := by decide +kernel
theorem dX2_build_83 : decode cX2_build 83 = .ok (.iload 4, 2) := by decide +kernel
theorem dX2_build_85 : decode cX2_build 85 = .ok (.invokevirtual 60, 3) := by decide +kernel
theorem dX2_build_88 : decode cX2_build 88 = .ok (.iastore, 1) := by decide +kernel
theorem dX2_build_89 : decode cX2_build 89 = .ok (.aload_n 0, 1) := by decide +kernel
theorem dX2_build_90 : decode cX2_build 90 = .ok (.getfield 22, 3) := by decide +kernel
theorem dX2_build_93 : decode cX2_build 93 = .ok (.iload 4, 2) := by decide +kernel
theorem dX2_build_95 : decode cX2_build 95 = .ok (.aload_n 1, 1) := by decide +kernel
theorem dX2_build_96 : decode cX2_build 96 = .ok (.iload_n 2, 1) := by decide +kernel
theorem dX2_build_97 : decode cX2_build 97 = .ok (.aload_n 0, 1) := by decide +kernel
theorem dX2_build_98 : decode cX2_build 98 = .ok (.getfield 18, 3) := by decide +kernel
theorem dX2_build_101 : decode cX2_build 101 = .ok (.iload 4, 2) := by decide +kernel
theorem dX2_build_103 : decode cX2_build 103 = .ok (.iaload, 1) := by decide +kernel
theorem dX2_build_104 : decode cX2_build 104 = .ok (.invokevirtual 63, 3) := by decide +kernel
theorem dX2_build_107 : decode cX2_build 107 = .ok (.iastore, 1) := by decide +kernel
theorem dX2_build_108 : decode cX2_build 108 = .ok (.aload_n 0, 1) := by decide +kernel
theorem dX2_build_109 : decode cX2_build 109 = .ok (.dup, 1) := by decide +kernel
theorem dX2_build_110 : decode cX2_build 110 = .ok (.getfield 57, 3) := by decide +kernel
theorem dX2_build_113 : decode cX2_build 113 = .ok (.aload_n 0, 1) := by decide +kernel
theorem dX2_build_114 : decode cX2_build 114 = .ok (.getfield 22, 3) := by decide +kernel
theorem dX2_build_117 : decode cX2_build 117 = .ok (.iload 4, 2) := by decide +kernel
theorem dX2_build_119 : decode cX2_build 119 = .ok (.iaload, 1) := by decide +kernel
theorem dX2_build_120 : decode cX2_build 120 = .ok (.ifCond .eq 7, 3) := by decide +kernel
theorem dX2_build_123 : decode cX2_build 123 = .ok (.iconst 1, 1) := by decide +kernel
theorem dX2_build_124 : decode cX2_build 124 = .ok (.goto 4, 3) := by decide +kernel
theorem dX2_build_127 : decode cX2_build 127 = .ok (.iconst 0, 1) := by decide +kernel
theorem dX2_build_128 : decode cX2_build 128 = .ok (.iadd, 1) := by decide +kernel
theorem dX2_build_129 : decode cX2_build 129 = .ok (.putfield 57, 3) := by decide +kernel
theorem dX2_build_132 : decode cX2_build 132 = .ok (.iinc 4 1, 3) := by decide +kernel
theorem dX2_build_135 : decode cX2_build 135 = .ok (.goto (-84), 3) := by decide +kernel
theorem dX2_build_138 : decode cX2_build 138 = .ok (.iinc 3 1, 3) := by decide +kernel
theorem dX2_build_141 : decode cX2_build 141 = .ok (.goto (-112), 3) := by decide +kernel
theorem dX2_build_144 : decode cX2_build 144 = .ok (.return_, 1) := by decide +kernel
theorem dX2_cellsOf_0 : decode cX2_cellsOf 0 = .ok (.iload_n 2, 1) := by decide +kernel
theorem dX2_cellsOf_1 : decode cX2_cellsOf 1 = .ok (.aload_n 0, 1) := by decide +kernel
theorem dX2_cellsOf_2 : decode cX2_cellsOf 2 = .ok (.getfield 12, 3) := by decide +kernel
theorem dX2_cellsOf_5 : decode cX2_cellsOf 5 = .ok (.getfield 28, 3) := by decide +kernel
theorem dX2_cellsOf_8 : decode cX2_cellsOf 8 = .ok (.iload_n 1, 1) := by decide +kernel
theorem dX2_cellsOf_9 : decode cX2_cellsOf 9 = .ok (.iaload, 1) := by decide +kernel
theorem dX2_cellsOf_10 : decode cX2_cellsOf 10 = .ok (.isub, 1) := by decide +kernel
theorem dX2_cellsOf_11 : decode cX2_cellsOf 11 = .ok (.istore_n 3, 1) := by decide +kernel
theorem dX2_cellsOf_12 : decode cX2_cellsOf 12 = .ok (.iconst 0, 1) := by decide +kernel
theorem dX2_cellsOf_13 : decode cX2_cellsOf 13 = .ok (.istore 4, 2) := by decide +kernel
theorem dX2_cellsOf_15 : decode cX2_cellsOf 15 = .ok (.aload_n 0, 1) := by decide +kernel
theorem dX2_cellsOf_16 : decode cX2_cellsOf 16 = .ok (.getfield 12, 3) := by decide +kernel
theorem dX2_cellsOf_19 : decode cX2_cellsOf 19 = .ok (.getfield 66, 3) := by decide +kernel
theorem dX2_cellsOf_22 : decode cX2_cellsOf 22 = .ok (.iconst 1, 1) := by decide +kernel
theorem dX2_cellsOf_23 : decode cX2_cellsOf 23 = .ok (.isub, 1) := by decide +kernel
theorem dX2_cellsOf_24 : decode cX2_cellsOf 24 = .ok (.istore 5, 2) := by decide +kernel
theorem dX2_cellsOf_26 : decode cX2_cellsOf 26 = .ok (.iload 5, 2) := by decide +kernel
theorem dX2_cellsOf_28 : decode cX2_cellsOf 28 = .ok (.ifCond .lt 54, 3) := by decide +kernel
theorem dX2_cellsOf_31 : decode cX2_cellsOf 31 = .ok (.iconst 1, 1) := by decide +kernel
theorem dX2_cellsOf_32 : decode cX2_cellsOf 32 = .ok (.aload_n 0, 1) := by decide +kernel
theorem dX2_cellsOf_33 : decode cX2_cellsOf 33 = .ok (.getfield 12, 3) := by decide +kernel
theorem dX2_cellsOf_36 : decode cX2_cellsOf 36 = .ok (.iload_n 1, 1) := by decide +kernel
theorem dX2_cellsOf_37 : decode cX2_cellsOf 37 = .ok (.iload 5, 2) := by decide +kernel
theorem dX2_cellsOf_39 : decode cX2_cellsOf 39 = .ok (.invokevirtual 69, 3) := by decide +kernel
theorem dX2_cellsOf_42 : decode cX2_cellsOf 42 = .ok (.invokestatic 72, 3) := by decide +kernel
theorem dX2_cellsOf_45 : decode cX2_cellsOf 45 = .ok (.istore 6, 2) := by decide +kernel
theorem dX2_cellsOf_47 : decode cX2_cellsOf 47 = .ok (.iload 4, 2) := by decide +kernel
theorem dX2_cellsOf_49 : decode cX2_cellsOf 49 = .ok (.iconst 1, 1) := by decide +kernel
theorem dX2_cellsOf_50 : decode cX2_cellsOf 50 = .ok (.iconst 4, 1) := by decide +kernel
theorem dX2_cellsOf_51 : decode cX2_cellsOf 51 = .ok (.aload_n 0, 1) := by decide +kernel
theorem dX2_cellsOf_52 : decode cX2_cellsOf 52 = .ok (.getfield 12, 3) := by decide +kernel
theorem dX2_cellsOf_55 : decode cX2_cellsOf 55 = .ok (.iload_n 1, 1) := by decide +kernel
theorem dX2_cellsOf_56 : decode cX2_cellsOf 56 = .ok (.iload 5, 2) := by decide +kernel
theorem dX2_cellsOf_58 : decode cX2_cellsOf 58 = .ok (.invokevirtual 75, 3) := by decide +kernel
theorem dX2_cellsOf_61 : decode cX2_cellsOf 61 = .ok (.imul, 1) := by decide +kernel
theorem dX2_cellsOf_62 : decode cX2_cellsOf 62 = .ok (.iload_n 3, 1) := by decide +kernel
theorem dX2_cellsOf_63 : decode cX2_cellsOf 63 = .ok (.iload 6, 2) := by decide +kernel
theorem dX2_cellsOf_65 : decode cX2_cellsOf 65 = .ok (.irem, 1) := by decide +kernel
theorem dX2_cellsOf_66 : decode cX2_cellsOf 66 = .ok (.iadd, 1) := by decide +kernel
theorem dX2_cellsOf_67 : decode cX2_cellsOf 67 = .ok (.ishl, 1) := by decide +kernel
theorem dX2_cellsOf_68 : decode cX2_cellsOf 68 = .ok (.ior, 1) := by decide +kernel
theorem dX2_cellsOf_69 : decode cX2_cellsOf 69 = .ok (.istore 4, 2) := by decide +kernel
theorem dX2_cellsOf_71 : decode cX2_cellsOf 71 = .ok (.iload_n 3, 1) := by decide +kernel
theorem dX2_cellsOf_72 : decode cX2_cellsOf 72 = .ok (.iload 6, 2) := by decide +kernel
theorem dX2_cellsOf_74 : decode cX2_cellsOf 74 = .ok (.idiv, 1) := by decide +kernel
theorem dX2_cellsOf_75 : decode cX2_cellsOf 75 = .ok (.istore_n 3, 1) := by decide +kernel
theorem dX2_cellsOf_76 : decode cX2_cellsOf 76 = .ok (.iinc 5 (-1), 3) := by decide +kernel
theorem dX2_cellsOf_79 : decode cX2_cellsOf 79 = .ok (.goto (-53), 3) := by decide +kernel
theorem dX2_cellsOf_82 : decode cX2_cellsOf 82 = .ok (.iload 4, 2) := by decide +kernel
theorem dX2_cellsOf_84 : decode cX2_cellsOf 84 = .ok (.ireturn, 1) := by decide +kernel
theorem dX2_setOf_0 : decode cX2_setOf 0 = .ok (.iconst 0, 1) := by decide +kernel
theorem dX2_setOf_1 : decode cX2_setOf 1 = .ok (.istore_n 2, 1) := by decide +kernel
theorem dX2_setOf_2 : decode cX2_setOf 2 = .ok (.iload_n 2, 1) := by decide +kernel
theorem dX2_setOf_3 : decode cX2_setOf 3 = .ok (.iconst 1, 1) := by decide +kernel
theorem dX2_setOf_4 : decode cX2_setOf 4 = .ok (.iadd, 1) := by decide +kernel
theorem dX2_setOf_5 : decode cX2_setOf 5 = .ok (.aload_n 0, 1) := by decide +kernel
theorem dX2_setOf_6 : decode cX2_setOf 6 = .ok (.getfield 12, 3) := by decide +kernel
theorem dX2_setOf_9 : decode cX2_setOf 9 = .ok (.getfield 31, 3) := by decide +kernel
theorem dX2_setOf_12 : decode cX2_setOf 12 = .ok (.if_icmp .ge 24, 3) := by decide +kernel
theorem dX2_setOf_15 : decode cX2_setOf 15 = .ok (.aload_n 0, 1) := by decide +kernel
theorem dX2_setOf_16 : decode cX2_setOf 16 = .ok (.getfield 12, 3) := by decide +kernel
theorem dX2_setOf_19 : decode cX2_setOf 19 = .ok (.getfield 28, 3) := by decide +kernel
theorem dX2_setOf_22 : decode cX2_setOf 22 = .ok (.iload_n 2, 1) := by decide +kernel
theorem dX2_setOf_23 : decode cX2_setOf 23 = .ok (.iconst 1, 1) := by decide +kernel
theorem dX2_setOf_24 : decode cX2_setOf 24 = .ok (.iadd, 1) := by decide +kernel
theorem dX2_setOf_25 : decode cX2_setOf 25 = .ok (.iaload, 1) := by decide +kernel
theorem dX2_setOf_26 : decode cX2_setOf 26 = .ok (.iload_n 1, 1) := by decide +kernel
theorem dX2_setOf_27 : decode cX2_setOf 27 = .ok (.if_icmp .gt 9, 3) := by decide +kernel
theorem dX2_setOf_30 : decode cX2_setOf 30 = .ok (.iinc 2 1, 3) := by decide +kernel
theorem dX2_setOf_33 : decode cX2_setOf 33 = .ok (.goto (-31), 3) := by decide +kernel
theorem dX2_setOf_36 : decode cX2_setOf 36 = .ok (.iload_n 2, 1) := by decide +kernel
theorem dX2_setOf_37 : decode cX2_setOf 37 = .ok (.ireturn, 1) := by decide +kernel
theorem dX2_columnOf_0 : decode cX2_columnOf 0 = .ok (.iload_n 2, 1) := by decide +kernel
theorem dX2_columnOf_1 : decode cX2_columnOf 1 = .ok (.aload_n 0, 1) := by decide +kernel
theorem dX2_columnOf_2 : decode cX2_columnOf 2 = .ok (.getfield 12, 3) := by decide +kernel
theorem dX2_columnOf_5 : decode cX2_columnOf 5 = .ok (.getfield 66, 3) := by decide +kernel
theorem dX2_columnOf_8 : decode cX2_columnOf 8 = .ok (.if_icmp .ge 19, 3) := by decide +kernel
theorem dX2_columnOf_11 : decode cX2_columnOf 11 = .ok (.aload_n 0, 1) := by decide +kernel
theorem dX2_columnOf_12 : decode cX2_columnOf 12 = .ok (.getfield 12, 3) := by decide +kernel
theorem dX2_columnOf_15 : decode cX2_columnOf 15 = .ok (.aload_n 0, 1) := by decide +kernel
theorem dX2_columnOf_16 : decode cX2_columnOf 16 = .ok (.iload_n 1, 1) := by decide +kernel
theorem dX2_columnOf_17 : decode cX2_columnOf 17 = .ok (.invokevirtual 78, 3) := by decide +kernel
theorem dX2_columnOf_20 : decode cX2_columnOf 20 = .ok (.iload_n 2, 1) := by decide +kernel
theorem dX2_columnOf_21 : decode cX2_columnOf 21 = .ok (.invokevirtual 75, 3) := by decide +kernel
theorem dX2_columnOf_24 : decode cX2_columnOf 24 = .ok (.goto 5, 3) := by decide +kernel
theorem dX2_columnOf_27 : decode cX2_columnOf 27 = .ok (.bipush (-2), 2) := by decide +kernel
theorem dX2_columnOf_29 : decode cX2_columnOf 29 = .ok (.ireturn, 1) := by decide +kernel
theorem dX2_levelOf_0 : decode cX2_levelOf 0 = .ok (.iload_n 2, 1) := by decide +kernel
theorem dX2_levelOf_1 : decode cX2_levelOf 1 = .ok (.aload_n 0, 1) := by decide +kernel
theorem dX2_levelOf_2 : decode cX2_levelOf 2 = .ok (.getfield 12, 3) := by decide +kernel
theorem dX2_levelOf_5 : decode cX2_levelOf 5 = .ok (.getfield 66, 3) := by decide +kernel
theorem dX2_levelOf_8 : decode cX2_levelOf 8 = .ok (.if_icmp .ge 21, 3) := by decide +kernel
theorem dX2_levelOf_11 : decode cX2_levelOf 11 = .ok (.aload_n 0, 1) := by decide +kernel
theorem dX2_levelOf_12 : decode cX2_levelOf 12 = .ok (.getfield 18, 3) := by decide +kernel
theorem dX2_levelOf_15 : decode cX2_levelOf 15 = .ok (.iload_n 1, 1) := by decide +kernel
theorem dX2_levelOf_16 : decode cX2_levelOf 16 = .ok (.iaload, 1) := by decide +kernel
theorem dX2_levelOf_17 : decode cX2_levelOf 17 = .ok (.aload_n 0, 1) := by decide +kernel
theorem dX2_levelOf_18 : decode cX2_levelOf 18 = .ok (.iload_n 1, 1) := by decide +kernel
theorem dX2_levelOf_19 : decode cX2_levelOf 19 = .ok (.iload_n 2, 1) := by decide +kernel
theorem dX2_levelOf_20 : decode cX2_levelOf 20 = .ok (.invokevirtual 82, 3) := by decide +kernel
theorem dX2_levelOf_23 : decode cX2_levelOf 23 = .ok (.invokestatic 85, 3) := by decide +kernel
theorem dX2_levelOf_26 : decode cX2_levelOf 26 = .ok (.goto 5, 3) := by decide +kernel
theorem dX2_levelOf_29 : decode cX2_levelOf 29 = .ok (.bipush (-2), 2) := by decide +kernel
theorem dX2_levelOf_31 : decode cX2_levelOf 31 = .ok (.ireturn, 1) := by decide +kernel
theorem dX2_recount_0 : decode cX2_recount 0 = .ok (.aload_n 0, 1) := by decide +kernel
theorem dX2_recount_1 : decode cX2_recount 1 = .ok (.invokevirtual 88, 3) := by decide +kernel
theorem dX2_recount_4 : decode cX2_recount 4 = .ok (.istore_n 2, 1) := by decide +kernel
theorem dX2_recount_5 : decode cX2_recount 5 = .ok (.iconst 0, 1) := by decide +kernel
theorem dX2_recount_6 : decode cX2_recount 6 = .ok (.istore_n 3, 1) := by decide +kernel
theorem dX2_recount_7 : decode cX2_recount 7 = .ok (.iload_n 3, 1) := by decide +kernel
theorem dX2_recount_8 : decode cX2_recount 8 = .ok (.iload_n 2, 1) := by decide +kernel
theorem dX2_recount_9 : decode cX2_recount 9 = .ok (.if_icmp .ge 16, 3) := by decide +kernel
theorem dX2_recount_12 : decode cX2_recount 12 = .ok (.aload_n 0, 1) := by decide +kernel
theorem dX2_recount_13 : decode cX2_recount 13 = .ok (.getfield 25, 3) := by decide +kernel
theorem dX2_recount_16 : decode cX2_recount 16 = .ok (.iload_n 3, 1) := by decide +kernel
theorem dX2_recount_17 : decode cX2_recount 17 = .ok (.iconst 0, 1) := by decide +kernel
theorem dX2_recount_18 : decode cX2_recount 18 = .ok (.iastore, 1) := by decide +kernel
theorem dX2_recount_19 : decode cX2_recount 19 = .ok (.iinc 3 1, 3) := by decide +kernel
theorem dX2_recount_22 : decode cX2_recount 22 = .ok (.goto (-15), 3) := by decide +kernel
theorem dX2_recount_25 : decode cX2_recount 25 = .ok (.iconst 0, 1) := by decide +kernel
theorem dX2_recount_26 : decode cX2_recount 26 = .ok (.istore_n 3, 1) := by decide +kernel
theorem dX2_recount_27 : decode cX2_recount 27 = .ok (.iload_n 3, 1) := by decide +kernel
theorem dX2_recount_28 : decode cX2_recount 28 = .ok (.aload_n 1, 1) := by decide +kernel
theorem dX2_recount_29 : decode cX2_recount 29 = .ok (.getfield 91, 3) := by decide +kernel
theorem dX2_recount_32 : decode cX2_recount 32 = .ok (.if_icmp .ge 20, 3) := by decide +kernel
theorem dX2_recount_35 : decode cX2_recount 35 = .ok (.aload_n 0, 1) := by decide +kernel
theorem dX2_recount_36 : decode cX2_recount 36 = .ok (.iconst 0, 1) := by decide +kernel
theorem dX2_recount_37 : decode cX2_recount 37 = .ok (.aload_n 1, 1) := by decide +kernel
theorem dX2_recount_38 : decode cX2_recount 38 = .ok (.getfield 94, 3) := by decide +kernel
theorem dX2_recount_41 : decode cX2_recount 41 = .ok (.iload_n 3, 1) := by decide +kernel
theorem dX2_recount_42 : decode cX2_recount 42 = .ok (.iaload, 1) := by decide +kernel
theorem dX2_recount_43 : decode cX2_recount 43 = .ok (.invokevirtual 97, 3) := by decide +kernel
theorem dX2_recount_46 : decode cX2_recount 46 = .ok (.iinc 3 1, 3) := by decide +kernel
theorem dX2_recount_49 : decode cX2_recount 49 = .ok (.goto (-22), 3) := by decide +kernel
theorem dX2_recount_52 : decode cX2_recount 52 = .ok (.return_, 1) := by decide +kernel
theorem dX2_change_0 : decode cX2_change 0 = .ok (.iconst 0, 1) := by decide +kernel
theorem dX2_change_1 : decode cX2_change 1 = .ok (.istore_n 3, 1) := by decide +kernel
theorem dX2_change_2 : decode cX2_change 2 = .ok (.iload_n 3, 1) := by decide +kernel
theorem dX2_change_3 : decode cX2_change 3 = .ok (.aload_n 0, 1) := by decide +kernel
theorem dX2_change_4 : decode cX2_change 4 = .ok (.getfield 12, 3) := by decide +kernel
theorem dX2_change_7 : decode cX2_change 7 = .ok (.getfield 31, 3) := by decide +kernel
theorem dX2_change_10 : decode cX2_change 10 = .ok (.if_icmp .ge 81, 3) := by decide +kernel
theorem dX2_change_13 : decode cX2_change 13 = .ok (.iload_n 1, 1) := by decide +kernel
theorem dX2_change_14 : decode cX2_change 14 = .ok (.ifCond .ne 7, 3) := by decide +kernel
theorem dX2_change_17 : decode cX2_change 17 = .ok (.iconst (-1), 1) := by decide +kernel
theorem dX2_change_18 : decode cX2_change 18 = .ok (.goto 12, 3) := by decide +kernel
theorem dX2_change_21 : decode cX2_change 21 = .ok (.aload_n 0, 1) := by decide +kernel
theorem dX2_change_22 : decode cX2_change 22 = .ok (.getfield 12, 3) := by decide +kernel
theorem dX2_change_25 : decode cX2_change 25 = .ok (.iload_n 3, 1) := by decide +kernel
theorem dX2_change_26 : decode cX2_change 26 = .ok (.iload_n 1, 1) := by decide +kernel
theorem dX2_change_27 : decode cX2_change 27 = .ok (.invokevirtual 101, 3) := by decide +kernel
theorem dX2_change_30 : decode cX2_change 30 = .ok (.istore 4, 2) := by decide +kernel
theorem dX2_change_32 : decode cX2_change 32 = .ok (.iload_n 2, 1) := by decide +kernel
theorem dX2_change_33 : decode cX2_change 33 = .ok (.ifCond .ne 7, 3) := by decide +kernel
theorem dX2_change_36 : decode cX2_change 36 = .ok (.iconst (-1), 1) := by decide +kernel
theorem dX2_change_37 : decode cX2_change 37 = .ok (.goto 12, 3) := by decide +kernel
theorem dX2_change_40 : decode cX2_change 40 = .ok (.aload_n 0, 1) := by decide +kernel
theorem dX2_change_41 : decode cX2_change 41 = .ok (.getfield 12, 3) := by decide +kernel
theorem dX2_change_44 : decode cX2_change 44 = .ok (.iload_n 3, 1) := by decide +kernel
theorem dX2_change_45 : decode cX2_change 45 = .ok (.iload_n 2, 1) := by decide +kernel
theorem dX2_change_46 : decode cX2_change 46 = .ok (.invokevirtual 101, 3) := by decide +kernel
theorem dX2_change_49 : decode cX2_change 49 = .ok (.istore 5, 2) := by decide +kernel
theorem dX2_change_51 : decode cX2_change 51 = .ok (.iload 4, 2) := by decide +kernel
theorem dX2_change_53 : decode cX2_change 53 = .ok (.iconst (-1), 1) := by decide +kernel
theorem dX2_change_54 : decode cX2_change 54 = .ok (.if_icmp .eq 14, 3) := by decide +kernel
theorem dX2_change_57 : decode cX2_change 57 = .ok (.aload_n 0, 1) := by decide +kernel
theorem dX2_change_58 : decode cX2_change 58 = .ok (.getfield 25, 3) := by decide +kernel
theorem dX2_change_61 : decode cX2_change 61 = .ok (.iload 4, 2) := by decide +kernel
theorem dX2_change_63 : decode cX2_change 63 = .ok (.dup2, 1) := by decide +kernel
theorem dX2_change_64 : decode cX2_change 64 = .ok (.iaload, 1) := by decide +kernel
theorem dX2_change_65 : decode cX2_change 65 = .ok (.iconst 1, 1) := by decide +kernel
theorem dX2_change_66 : decode cX2_change 66 = .ok (.isub, 1) := by decide +kernel
theorem dX2_change_67 : decode cX2_change 67 = .ok (.iastore, 1) := by decide +kernel
theorem dX2_change_68 : decode cX2_change 68 = .ok (.iload 5, 2) := by decide +kernel
theorem dX2_change_70 : decode cX2_change 70 = .ok (.iconst (-1), 1) := by decide +kernel
theorem dX2_change_71 : decode cX2_change 71 = .ok (.if_icmp .eq 14, 3) := by decide +kernel
theorem dX2_change_74 : decode cX2_change 74 = .ok (.aload_n 0, 1) := by decide +kernel
theorem dX2_change_75 : decode cX2_change 75 = .ok (.getfield 25, 3) := by decide +kernel
theorem dX2_change_78 : decode cX2_change 78 = .ok (.iload 5, 2) := by decide +kernel
theorem dX2_change_80 : decode cX2_change 80 = .ok (.dup2, 1) := by decide +kernel
theorem dX2_change_81 : decode cX2_change 81 = .ok (.iaload, 1) := by decide +kernel
theorem dX2_change_82 : decode cX2_change 82 = .ok (.iconst 1, 1) := by decide +kernel
theorem dX2_change_83 : decode cX2_change 83 = .ok (.iadd, 1) := by decide +kernel
theorem dX2_change_84 : decode cX2_change 84 = .ok (.iastore, 1) := by decide +kernel
theorem dX2_change_85 : decode cX2_change 85 = .ok (.iinc 3 1, 3) := by decide +kernel
theorem dX2_change_88 : decode cX2_change 88 = .ok (.goto (-86), 3) := by decide +kernel
theorem dX2_change_91 : decode cX2_change 91 = .ok (.return_, 1) := by decide +kernel
theorem dX2_isOpen_0 : decode cX2_isOpen 0 = .ok (.aload_n 0, 1) := by decide +kernel
theorem dX2_isOpen_1 : decode cX2_isOpen 1 = .ok (.getfield 25, 3) := by decide +kernel
theorem dX2_isOpen_4 : decode cX2_isOpen 4 = .ok (.iload_n 1, 1) := by decide +kernel
theorem dX2_isOpen_5 : decode cX2_isOpen 5 = .ok (.iaload, 1) := by decide +kernel
theorem dX2_isOpen_6 : decode cX2_isOpen 6 = .ok (.ifCond .ne 16, 3) := by decide +kernel
theorem dX2_isOpen_9 : decode cX2_isOpen 9 = .ok (.aload_n 0, 1) := by decide +kernel
theorem dX2_isOpen_10 : decode cX2_isOpen 10 = .ok (.getfield 22, 3) := by decide +kernel
theorem dX2_isOpen_13 : decode cX2_isOpen 13 = .ok (.iload_n 1, 1) := by decide +kernel
theorem dX2_isOpen_14 : decode cX2_isOpen 14 = .ok (.iaload, 1) := by decide +kernel
theorem dX2_isOpen_15 : decode cX2_isOpen 15 = .ok (.ifCond .eq 7, 3) := by decide +kernel
theorem dX2_isOpen_18 : decode cX2_isOpen 18 = .ok (.iconst 1, 1) := by decide +kernel
theorem dX2_isOpen_19 : decode cX2_isOpen 19 = .ok (.goto 4, 3) := by decide +kernel
theorem dX2_isOpen_22 : decode cX2_isOpen 22 = .ok (.iconst 0, 1) := by decide +kernel
theorem dX2_isOpen_23 : decode cX2_isOpen 23 = .ok (.ireturn, 1) := by decide +kernel
theorem dX2_openCount_0 : decode cX2_openCount 0 = .ok (.aload_n 0, 1) := by decide +kernel
theorem dX2_openCount_1 : decode cX2_openCount 1 = .ok (.invokevirtual 88, 3) := by decide +kernel
theorem dX2_openCount_4 : decode cX2_openCount 4 = .ok (.istore_n 1, 1) := by decide +kernel
theorem dX2_openCount_5 : decode cX2_openCount 5 = .ok (.iconst 0, 1) := by decide +kernel
theorem dX2_openCount_6 : decode cX2_openCount 6 = .ok (.istore_n 2, 1) := by decide +kernel
theorem dX2_openCount_7 : decode cX2_openCount 7 = .ok (.iconst 0, 1) := by decide +kernel
theorem dX2_openCount_8 : decode cX2_openCount 8 = .ok (.istore_n 3, 1) := by decide +kernel
theorem dX2_openCount_9 : decode cX2_openCount 9 = .ok (.iload_n 3, 1) := by decide +kernel
theorem dX2_openCount_10 : decode cX2_openCount 10 = .ok (.iload_n 1, 1) := by decide +kernel
theorem dX2_openCount_11 : decode cX2_openCount 11 = .ok (.if_icmp .ge 20, 3) := by decide +kernel
theorem dX2_openCount_14 : decode cX2_openCount 14 = .ok (.aload_n 0, 1) := by decide +kernel
theorem dX2_openCount_15 : decode cX2_openCount 15 = .ok (.iload_n 3, 1) := by decide +kernel
theorem dX2_openCount_16 : decode cX2_openCount 16 = .ok (.invokevirtual 104, 3) := by decide +kernel
theorem dX2_openCount_19 : decode cX2_openCount 19 = .ok (.ifCond .eq 6, 3) := by decide +kernel
theorem dX2_openCount_22 : decode cX2_openCount 22 = .ok (.iinc 2 1, 3) := by decide +kernel
theorem dX2_openCount_25 : decode cX2_openCount 25 = .ok (.iinc 3 1, 3) := by decide +kernel
theorem dX2_openCount_28 : decode cX2_openCount 28 = .ok (.goto (-19), 3) := by decide +kernel
theorem dX2_openCount_31 : decode cX2_openCount 31 = .ok (.iload_n 2, 1) := by decide +kernel
theorem dX2_openCount_32 : decode cX2_openCount 32 = .ok (.ireturn, 1) := by decide +kernel
theorem dX2_openAt_0 : decode cX2_openAt 0 = .ok (.aload_n 0, 1) := by decide +kernel
theorem dX2_openAt_1 : decode cX2_openAt 1 = .ok (.invokevirtual 88, 3) := by decide +kernel
theorem dX2_openAt_4 : decode cX2_openAt 4 = .ok (.istore_n 2, 1) := by decide +kernel
theorem dX2_openAt_5 : decode cX2_openAt 5 = .ok (.iconst 0, 1) := by decide +kernel
theorem dX2_openAt_6 : decode cX2_openAt 6 = .ok (.istore_n 3, 1) := by decide +kernel
theorem dX2_openAt_7 : decode cX2_openAt 7 = .ok (.iconst 0, 1) := by decide +kernel
theorem dX2_openAt_8 : decode cX2_openAt 8 = .ok (.istore 4, 2) := by decide +kernel
theorem dX2_openAt_10 : decode cX2_openAt 10 = .ok (.iload 4, 2) := by decide +kernel
theorem dX2_openAt_12 : decode cX2_openAt 12 = .ok (.iload_n 2, 1) := by decide +kernel
theorem dX2_openAt_13 : decode cX2_openAt 13 = .ok (.if_icmp .ge 29, 3) := by decide +kernel
theorem dX2_openAt_16 : decode cX2_openAt 16 = .ok (.aload_n 0, 1) := by decide +kernel
theorem dX2_openAt_17 : decode cX2_openAt 17 = .ok (.iload 4, 2) := by decide +kernel
theorem dX2_openAt_19 : decode cX2_openAt 19 = .ok (.invokevirtual 104, 3) := by decide +kernel
theorem dX2_openAt_22 : decode cX2_openAt 22 = .ok (.ifCond .eq 14, 3) := by decide +kernel
theorem dX2_openAt_25 : decode cX2_openAt 25 = .ok (.iload_n 3, 1) := by decide +kernel
theorem dX2_openAt_26 : decode cX2_openAt 26 = .ok (.iload_n 1, 1) := by decide +kernel
theorem dX2_openAt_27 : decode cX2_openAt 27 = .ok (.if_icmp .ne 6, 3) := by decide +kernel
theorem dX2_openAt_30 : decode cX2_openAt 30 = .ok (.iload 4, 2) := by decide +kernel
theorem dX2_openAt_32 : decode cX2_openAt 32 = .ok (.ireturn, 1) := by decide +kernel
theorem dX2_openAt_33 : decode cX2_openAt 33 = .ok (.iinc 3 1, 3) := by decide +kernel
theorem dX2_openAt_36 : decode cX2_openAt 36 = .ok (.iinc 4 1, 3) := by decide +kernel
theorem dX2_openAt_39 : decode cX2_openAt 39 = .ok (.goto (-29), 3) := by decide +kernel
theorem dX2_openAt_42 : decode cX2_openAt 42 = .ok (.bipush (-2), 2) := by decide +kernel
theorem dX2_openAt_44 : decode cX2_openAt 44 = .ok (.ireturn, 1) := by decide +kernel
theorem dX2_openIn_0 : decode cX2_openIn 0 = .ok (.iconst 0, 1) := by decide +kernel
theorem dX2_openIn_1 : decode cX2_openIn 1 = .ok (.istore_n 2, 1) := by decide +kernel
theorem dX2_openIn_2 : decode cX2_openIn 2 = .ok (.iconst 0, 1) := by decide +kernel
theorem dX2_openIn_3 : decode cX2_openIn 3 = .ok (.istore_n 3, 1) := by decide +kernel
theorem dX2_openIn_4 : decode cX2_openIn 4 = .ok (.iload_n 3, 1) := by decide +kernel
theorem dX2_openIn_5 : decode cX2_openIn 5 = .ok (.aload_n 0, 1) := by decide +kernel
theorem dX2_openIn_6 : decode cX2_openIn 6 = .ok (.getfield 12, 3) := by decide +kernel
theorem dX2_openIn_9 : decode cX2_openIn 9 = .ok (.getfield 31, 3) := by decide +kernel
theorem dX2_openIn_12 : decode cX2_openIn 12 = .ok (.if_icmp .ge 38, 3) := by decide +kernel
theorem dX2_openIn_15 : decode cX2_openIn 15 = .ok (.aload_n 0, 1) := by decide +kernel
theorem dX2_openIn_16 : decode cX2_openIn 16 = .ok (.getfield 12, 3) := by decide +kernel
theorem dX2_openIn_19 : decode cX2_openIn 19 = .ok (.iload_n 3, 1) := by decide +kernel
theorem dX2_openIn_20 : decode cX2_openIn 20 = .ok (.iload_n 1, 1) := by decide +kernel
theorem dX2_openIn_21 : decode cX2_openIn 21 = .ok (.invokevirtual 101, 3) := by decide +kernel
theorem dX2_openIn_24 : decode cX2_openIn 24 = .ok (.istore 4, 2) := by decide +kernel
theorem dX2_openIn_26 : decode cX2_openIn 26 = .ok (.iload 4, 2) := by decide +kernel
theorem dX2_openIn_28 : decode cX2_openIn 28 = .ok (.iconst (-1), 1) := by decide +kernel
theorem dX2_openIn_29 : decode cX2_openIn 29 = .ok (.if_icmp .eq 15, 3) := by decide +kernel
theorem dX2_openIn_32 : decode cX2_openIn 32 = .ok (.aload_n 0, 1) := by decide +kernel
theorem dX2_openIn_33 : decode cX2_openIn 33 = .ok (.iload 4, 2) := by decide +kernel
theorem dX2_openIn_35 : decode cX2_openIn 35 = .ok (.invokevirtual 104, 3) := by decide +kernel
theorem dX2_openIn_38 : decode cX2_openIn 38 = .ok (.ifCond .eq 6, 3) := by decide +kernel
theorem dX2_openIn_41 : decode cX2_openIn 41 = .ok (.iinc 2 1, 3) := by decide +kernel
theorem dX2_openIn_44 : decode cX2_openIn 44 = .ok (.iinc 3 1, 3) := by decide +kernel
theorem dX2_openIn_47 : decode cX2_openIn 47 = .ok (.goto (-43), 3) := by decide +kernel
theorem dX2_openIn_50 : decode cX2_openIn 50 = .ok (.iload_n 2, 1) := by decide +kernel
theorem dX2_openIn_51 : decode cX2_openIn 51 = .ok (.ireturn, 1) := by decide +kernel
theorem dX2_hadBesides_0 : decode cX2_hadBesides 0 = .ok (.iconst 0, 1) := by decide +kernel
theorem dX2_hadBesides_1 : decode cX2_hadBesides 1 = .ok (.istore_n 2, 1) := by decide +kernel
theorem dX2_hadBesides_2 : decode cX2_hadBesides 2 = .ok (.iload_n 2, 1) := by decide +kernel
theorem dX2_hadBesides_3 : decode cX2_hadBesides 3 = .ok (.aload_n 0, 1) := by decide +kernel
theorem dX2_hadBesides_4 : decode cX2_hadBesides 4 = .ok (.getfield 12, 3) := by decide +kernel
theorem dX2_hadBesides_7 : decode cX2_hadBesides 7 = .ok (.getfield 31, 3) := by decide +kernel
theorem dX2_hadBesides_10 : decode cX2_hadBesides 10 = .ok (.if_icmp .ge 36, 3) := by decide +kernel
theorem dX2_hadBesides_13 : decode cX2_hadBesides 13 = .ok (.aload_n 0, 1) := by decide +kernel
theorem dX2_hadBesides_14 : decode cX2_hadBesides 14 = .ok (.getfield 12, 3) := by decide +kernel
theorem dX2_hadBesides_17 : decode cX2_hadBesides 17 = .ok (.iload_n 2, 1) := by decide +kernel
theorem dX2_hadBesides_18 : decode cX2_hadBesides 18 = .ok (.iload_n 1, 1) := by decide +kernel
theorem dX2_hadBesides_19 : decode cX2_hadBesides 19 = .ok (.invokevirtual 101, 3) := by decide +kernel
theorem dX2_hadBesides_22 : decode cX2_hadBesides 22 = .ok (.istore_n 3, 1) := by decide +kernel
theorem dX2_hadBesides_23 : decode cX2_hadBesides 23 = .ok (.iload_n 3, 1) := by decide +kernel
theorem dX2_hadBesides_24 : decode cX2_hadBesides 24 = .ok (.iconst (-1), 1) := by decide +kernel
theorem dX2_hadBesides_25 : decode cX2_hadBesides 25 = .ok (.if_icmp .eq 15, 3) := by decide +kernel
theorem dX2_hadBesides_28 : decode cX2_hadBesides 28 = .ok (.aload_n 0, 1) := by decide +kernel
theorem dX2_hadBesides_29 : decode cX2_hadBesides 29 = .ok (.getfield 25, 3) := by decide +kernel
theorem dX2_hadBesides_32 : decode cX2_hadBesides 32 = .ok (.iload_n 3, 1) := by decide +kernel
theorem dX2_hadBesides_33 : decode cX2_hadBesides 33 = .ok (.iaload, 1) := by decide +kernel
theorem dX2_hadBesides_34 : decode cX2_hadBesides 34 = .ok (.iconst 2, 1) := by decide +kernel
theorem dX2_hadBesides_35 : decode cX2_hadBesides 35 = .ok (.if_icmp .ge 5, 3) := by decide +kernel
theorem dX2_hadBesides_38 : decode cX2_hadBesides 38 = .ok (.iconst 0, 1) := by decide +kernel
theorem dX2_hadBesides_39 : decode cX2_hadBesides 39 = .ok (.ireturn, 1) := by decide +kernel
theorem dX2_hadBesides_40 : decode cX2_hadBesides 40 = .ok (.iinc 2 1, 3) := by decide +kernel
theorem dX2_hadBesides_43 : decode cX2_hadBesides 43 = .ok (.goto (-41), 3) := by decide +kernel
theorem dX2_hadBesides_46 : decode cX2_hadBesides 46 = .ok (.iconst 1, 1) := by decide +kernel
theorem dX2_hadBesides_47 : decode cX2_hadBesides 47 = .ok (.ireturn, 1) := by decide +kernel
theorem dX2_gainOf_0 : decode cX2_gainOf 0 = .ok (.iconst 0, 1) := by decide +kernel
theorem dX2_gainOf_1 : decode cX2_gainOf 1 = .ok (.istore_n 3, 1) := by decide +kernel
theorem dX2_gainOf_2 : decode cX2_gainOf 2 = .ok (.iconst 0, 1) := by decide +kernel
theorem dX2_gainOf_3 : decode cX2_gainOf 3 = .ok (.istore 4, 2) := by decide +kernel
theorem dX2_gainOf_5 : decode cX2_gainOf 5 = .ok (.iload 4, 2) := by decide +kernel
theorem dX2_gainOf_7 : decode cX2_gainOf 7 = .ok (.aload_n 0, 1) := by decide +kernel
theorem dX2_gainOf_8 : decode cX2_gainOf 8 = .ok (.getfield 12, 3) := by decide +kernel
theorem dX2_gainOf_11 : decode cX2_gainOf 11 = .ok (.getfield 31, 3) := by decide +kernel
theorem dX2_gainOf_14 : decode cX2_gainOf 14 = .ok (.if_icmp .ge 61, 3) := by decide +kernel
theorem dX2_gainOf_17 : decode cX2_gainOf 17 = .ok (.aload_n 0, 1) := by decide +kernel
theorem dX2_gainOf_18 : decode cX2_gainOf 18 = .ok (.getfield 12, 3) := by decide +kernel
theorem dX2_gainOf_21 : decode cX2_gainOf 21 = .ok (.iload 4, 2) := by decide +kernel
theorem dX2_gainOf_23 : decode cX2_gainOf 23 = .ok (.aload_n 1, 1) := by decide +kernel
theorem dX2_gainOf_24 : decode cX2_gainOf 24 = .ok (.getfield 94, 3) := by decide +kernel
theorem dX2_gainOf_27 : decode cX2_gainOf 27 = .ok (.iload_n 2, 1) := by decide +kernel
theorem dX2_gainOf_28 : decode cX2_gainOf 28 = .ok (.iaload, 1) := by decide +kernel
theorem dX2_gainOf_29 : decode cX2_gainOf 29 = .ok (.invokevirtual 101, 3) := by decide +kernel
theorem dX2_gainOf_32 : decode cX2_gainOf 32 = .ok (.istore 5, 2) := by decide +kernel
theorem dX2_gainOf_34 : decode cX2_gainOf 34 = .ok (.iload 5, 2) := by decide +kernel
theorem dX2_gainOf_36 : decode cX2_gainOf 36 = .ok (.iconst (-1), 1) := by decide +kernel
theorem dX2_gainOf_37 : decode cX2_gainOf 37 = .ok (.if_icmp .eq 32, 3) := by decide +kernel
theorem dX2_gainOf_40 : decode cX2_gainOf 40 = .ok (.aload_n 0, 1) := by decide +kernel
theorem dX2_gainOf_41 : decode cX2_gainOf 41 = .ok (.getfield 25, 3) := by decide +kernel
theorem dX2_gainOf_44 : decode cX2_gainOf 44 = .ok (.iload 5, 2) := by decide +kernel
theorem dX2_gainOf_46 : decode cX2_gainOf 46 = .ok (.iaload, 1) := by decide +kernel
theorem dX2_gainOf_47 : decode cX2_gainOf 47 = .ok (.iconst 1, 1) := by decide +kernel
theorem dX2_gainOf_48 : decode cX2_gainOf 48 = .ok (.if_icmp .eq 18, 3) := by decide +kernel
theorem dX2_gainOf_51 : decode cX2_gainOf 51 = .ok (.aload_n 1, 1) := by decide +kernel
theorem dX2_gainOf_52 : decode cX2_gainOf 52 = .ok (.aload_n 0, 1) := by decide +kernel
theorem dX2_gainOf_53 : decode cX2_gainOf 53 = .ok (.getfield 18, 3) := by decide +kernel
theorem dX2_gainOf_56 : decode cX2_gainOf 56 = .ok (.iload 5, 2) := by decide +kernel
theorem dX2_gainOf_58 : decode cX2_gainOf 58 = .ok (.iaload, 1) := by decide +kernel
theorem dX2_gainOf_59 : decode cX2_gainOf 59 = .ok (.invokevirtual 108, 3) := by decide +kernel
theorem dX2_gainOf_62 : decode cX2_gainOf 62 = .ok (.iload_n 2, 1) := by decide +kernel
theorem dX2_gainOf_63 : decode cX2_gainOf 63 = .ok (.if_icmp .ne 6, 3) := by decide +kernel
theorem dX2_gainOf_66 : decode cX2_gainOf 66 = .ok (.iinc 3 1, 3) := by decide +kernel
theorem dX2_gainOf_69 : decode cX2_gainOf 69 = .ok (.iinc 4 1, 3) := by decide +kernel
theorem dX2_gainOf_72 : decode cX2_gainOf 72 = .ok (.goto (-67), 3) := by decide +kernel
theorem dX2_gainOf_75 : decode cX2_gainOf 75 = .ok (.iload_n 3, 1) := by decide +kernel
theorem dX2_gainOf_76 : decode cX2_gainOf 76 = .ok (.ireturn, 1) := by decide +kernel
theorem dX2_mostOfOneSet_0 : decode cX2_mostOfOneSet 0 = .ok (.iconst 0, 1) := by decide +kernel
theorem dX2_mostOfOneSet_1 : decode cX2_mostOfOneSet 1 = .ok (.istore_n 1, 1) := by decide +kernel
theorem dX2_mostOfOneSet_2 : decode cX2_mostOfOneSet 2 = .ok (.iconst 0, 1) := by decide +kernel
theorem dX2_mostOfOneSet_3 : decode cX2_mostOfOneSet 3 = .ok (.istore_n 2, 1) := by decide +kernel
theorem dX2_mostOfOneSet_4 : decode cX2_mostOfOneSet 4 = .ok (.iload_n 2, 1) := by decide +kernel
theorem dX2_mostOfOneSet_5 : decode cX2_mostOfOneSet 5 = .ok (.aload_n 0, 1) := by decide +kernel
theorem dX2_mostOfOneSet_6 : decode cX2_mostOfOneSet 6 = .ok (.getfield 12, 3) := by decide +kernel
theorem dX2_mostOfOneSet_9 : decode cX2_mostOfOneSet 9 = .ok (.getfield 31, 3) := by decide +kernel
theorem dX2_mostOfOneSet_12 : decode cX2_mostOfOneSet 12 = .ok (.if_icmp .ge 76, 3) := by decide +kernel
theorem dX2_mostOfOneSet_15 : decode cX2_mostOfOneSet 15 = .ok (.iconst 0, 1) := by decide +kernel
theorem dX2_mostOfOneSet_16 : decode cX2_mostOfOneSet 16 = .ok (.istore_n 3, 1) := by decide +kernel
theorem dX2_mostOfOneSet_17 : decode cX2_mostOfOneSet 17 = .ok (.aload_n 0, 1) := by decide +kernel
theorem dX2_mostOfOneSet_18 : decode cX2_mostOfOneSet 18 = .ok (.getfield 12, 3) := by decide +kernel
theorem dX2_mostOfOneSet_21 : decode cX2_mostOfOneSet 21 = .ok (.getfield 28, 3) := by decide +kernel
theorem dX2_mostOfOneSet_24 : decode cX2_mostOfOneSet 24 = .ok (.iload_n 2, 1) := by decide +kernel
theorem dX2_mostOfOneSet_25 : decode cX2_mostOfOneSet 25 = .ok (.iaload, 1) := by decide +kernel
theorem dX2_mostOfOneSet_26 : decode cX2_mostOfOneSet 26 = .ok (.istore 4, 2) := by decide +kernel
theorem dX2_mostOfOneSet_28 : decode cX2_mostOfOneSet 28 = .ok (.iload 4, 2) := by decide +kernel
theorem dX2_mostOfOneSet_30 : decode cX2_mostOfOneSet 30 = .ok (.aload_n 0, 1) := by decide +kernel
theorem dX2_mostOfOneSet_31 : decode cX2_mostOfOneSet 31 = .ok (.getfield 12, 3) := by decide +kernel
theorem dX2_mostOfOneSet_34 : decode cX2_mostOfOneSet 34 = .ok (.getfield 28, 3) := by decide +kernel
theorem dX2_mostOfOneSet_37 : decode cX2_mostOfOneSet 37 = .ok (.iload_n 2, 1) := by decide +kernel
theorem dX2_mostOfOneSet_38 : decode cX2_mostOfOneSet 38 = .ok (.iconst 1, 1) := by decide +kernel
theorem dX2_mostOfOneSet_39 : decode cX2_mostOfOneSet 39 = .ok (.iadd, 1) := by decide +kernel
theorem dX2_mostOfOneSet_40 : decode cX2_mostOfOneSet 40 = .ok (.iaload, 1) := by decide +kernel
theorem dX2_mostOfOneSet_41 : decode cX2_mostOfOneSet 41 = .ok (.if_icmp .ge 35, 3) := by decide +kernel
theorem dX2_mostOfOneSet_44 : decode cX2_mostOfOneSet 44 = .ok (.iload 4, 2) := by decide +kernel
theorem dX2_mostOfOneSet_46 : decode cX2_mostOfOneSet 46 = .ok (.sipush 1200, 3) := by decide +kernel
theorem dX2_mostOfOneSet_49 : decode cX2_mostOfOneSet 49 = .ok (.if_icmp .ge 27, 3) := by decide +kernel
theorem dX2_mostOfOneSet_52 : decode cX2_mostOfOneSet 52 = .ok (.iload_n 3, 1) := by decide +kernel
theorem dX2_mostOfOneSet_53 : decode cX2_mostOfOneSet 53 = .ok (.aload_n 0, 1) := by decide +kernel
theorem dX2_mostOfOneSet_54 : decode cX2_mostOfOneSet 54 = .ok (.getfield 22, 3) := by decide +kernel
theorem dX2_mostOfOneSet_57 : decode cX2_mostOfOneSet 57 = .ok (.iload 4, 2) := by decide +kernel
theorem dX2_mostOfOneSet_59 : decode cX2_mostOfOneSet 59 = .ok (.iaload, 1) := by decide +kernel
theorem dX2_mostOfOneSet_60 : decode cX2_mostOfOneSet 60 = .ok (.ifCond .eq 7, 3) := by decide +kernel
theorem dX2_mostOfOneSet_63 : decode cX2_mostOfOneSet 63 = .ok (.iconst 1, 1) := by decide +kernel
theorem dX2_mostOfOneSet_64 : decode cX2_mostOfOneSet 64 = .ok (.goto 4, 3) := by decide +kernel
theorem dX2_mostOfOneSet_67 : decode cX2_mostOfOneSet 67 = .ok (.iconst 0, 1) := by decide +kernel
theorem dX2_mostOfOneSet_68 : decode cX2_mostOfOneSet 68 = .ok (.iadd, 1) := by decide +kernel
theorem dX2_mostOfOneSet_69 : decode cX2_mostOfOneSet 69 = .ok (.istore_n 3, 1) := by decide +kernel
theorem dX2_mostOfOneSet_70 : decode cX2_mostOfOneSet 70 = .ok (.iinc 4 1, 3) := by decide +kernel
theorem dX2_mostOfOneSet_73 : decode cX2_mostOfOneSet 73 = .ok (.goto (-45), 3) := by decide +kernel
theorem dX2_mostOfOneSet_76 : decode cX2_mostOfOneSet 76 = .ok (.iload_n 1, 1) := by decide +kernel
theorem dX2_mostOfOneSet_77 : decode cX2_mostOfOneSet 77 = .ok (.iload_n 3, 1) := by decide +kernel
theorem dX2_mostOfOneSet_78 : decode cX2_mostOfOneSet 78 = .ok (.invokestatic 72, 3) := by decide +kernel
theorem dX2_mostOfOneSet_81 : decode cX2_mostOfOneSet 81 = .ok (.istore_n 1, 1) := by decide +kernel
theorem dX2_mostOfOneSet_82 : decode cX2_mostOfOneSet 82 = .ok (.iinc 2 1, 3) := by decide +kernel
theorem dX2_mostOfOneSet_85 : decode cX2_mostOfOneSet 85 = .ok (.goto (-81), 3) := by decide +kernel
theorem dX2_mostOfOneSet_88 : decode cX2_mostOfOneSet 88 = .ok (.iload_n 1, 1) := by decide +kernel
theorem dX2_mostOfOneSet_89 : decode cX2_mostOfOneSet 89 = .ok (.ireturn, 1) := by decide +kernel
theorem dX3_init_0 : decode cX3_init 0 = .ok (.aload_n 0, 1) := by decide +kernel
theorem dX3_init_1 : decode cX3_init 1 = .ok (.invokespecial 3, 3) := by decide +kernel
theorem dX3_init_4 : decode cX3_init 4 = .ok (.aload_n 0, 1) := by decide +kernel
theorem dX3_init_5 : decode cX3_init 5 = .ok (.new 9, 3) := by decide +kernel
theorem dX3_init_8 : decode cX3_init 8 = .ok (.dup, 1) := by decide +kernel
theorem dX3_init_9 : decode cX3_init 9 = .ok (.invokespecial 11, 3) := by decide +kernel
theorem dX3_init_12 : decode cX3_init 12 = .ok (.putfield 12, 3) := by decide +kernel
theorem dX3_init_15 : decode cX3_init 15 = .ok (.aload_n 0, 1) := by decide +kernel
theorem dX3_init_16 : decode cX3_init 16 = .ok (.bipush 64, 2) := by decide +kernel
theorem dX3_init_18 : decode cX3_init 18 = .ok (.newarray .int, 2) := by decide +kernel
theorem dX3_init_20 : decode cX3_init 20 = .ok (.putfield 18, 3) := by decide +kernel
theorem dX3_init_23 : decode cX3_init 23 = .ok (.aload_n 0, 1) := by decide +kernel
theorem dX3_init_24 : decode cX3_init 24 = .ok (.sipush 1200, 3) := by decide +kernel
theorem dX3_init_27 : decode cX3_init 27 = .ok (.newarray .boolean, 2) := by decide +kernel
theorem dX3_init_29 : decode cX3_init 29 = .ok (.putfield 22, 3) := by decide +kernel
theorem dX3_init_32 : decode cX3_init 32 = .ok (.return_, 1) := by decide +kernel
theorem dX3_place_0 : decode cX3_place 0 = .ok (.aload_n 0, 1) := by decide +kernel
theorem dX3_place_1 : decode cX3_place 1 = .ok (.aload_n 1, 1) := by decide +kernel
theorem dX3_place_2 : decode cX3_place 2 = .ok (.aload_n 2, 1) := by decide +kernel
theorem dX3_place_3 : decode cX3_place 3 = .ok (.invokevirtual 26, 3) := by decide +kernel
theorem dX3_place_6 : decode cX3_place 6 = .ok (.iconst 0, 1) := by decide +kernel
theorem dX3_place_7 : decode cX3_place 7 = .ok (.istore_n 3, 1) := by decide +kernel
theorem dX3_place_8 : decode cX3_place 8 = .ok (.iconst 0, 1) := by decide +kernel
theorem dX3_place_9 : decode cX3_place 9 = .ok (.istore 4, 2) := by decide +kernel
theorem dX3_place_11 : decode cX3_place 11 = .ok (.iload 4, 2) := by decide +kernel
theorem dX3_place_13 : decode cX3_place 13 = .ok (.aload_n 1, 1) := by decide +kernel
theorem dX3_place_14 : decode cX3_place 14 = .ok (.getfield 30, 3) := by decide +kernel
theorem dX3_place_17 : decode cX3_place 17 = .ok (.if_icmp .ge 86, 3) := by decide +kernel
theorem dX3_place_20 : decode cX3_place 20 = .ok (.aload_n 0, 1) := by decide +kernel
theorem dX3_place_21 : decode cX3_place 21 = .ok (.aload_n 1, 1) := by decide +kernel
theorem dX3_place_22 : decode cX3_place 22 = .ok (.invokevirtual 34, 3) := by decide +kernel
theorem dX3_place_25 : decode cX3_place 25 = .ok (.istore 5, 2) := by decide +kernel
theorem dX3_place_27 : decode cX3_place 27 = .ok (.iload_n 3, 1) := by decide +kernel
theorem dX3_place_28 : decode cX3_place 28 = .ok (.aload_n 0, 1) := by decide +kernel
theorem dX3_place_29 : decode cX3_place 29 = .ok (.getfield 18, 3) := by decide +kernel
theorem dX3_place_32 : decode cX3_place 32 = .ok (.iload 5, 2) := by decide +kernel
theorem dX3_place_34 : decode cX3_place 34 = .ok (.iaload, 1) := by decide +kernel
theorem dX3_place_35 : decode cX3_place 35 = .ok (.ifCond .le 7, 3) := by decide +kernel
theorem dX3_place_38 : decode cX3_place 38 = .ok (.iconst 1, 1) := by decide +kernel
theorem dX3_place_39 : decode cX3_place 39 = .ok (.goto 4, 3) := by decide +kernel
theorem dX3_place_42 : decode cX3_place 42 = .ok (.iconst 0, 1) := by decide +kernel
theorem dX3_place_43 : decode cX3_place 43 = .ok (.iadd, 1) := by decide +kernel
theorem dX3_place_44 : decode cX3_place 44 = .ok (.istore_n 3, 1) := by decide +kernel
theorem dX3_place_45 : decode cX3_place 45 = .ok (.aload_n 0, 1) := by decide +kernel
theorem dX3_place_46 : decode cX3_place 46 = .ok (.getfield 12, 3) := by decide +kernel
theorem dX3_place_49 : decode cX3_place 49 = .ok (.aload_n 1, 1) := by decide +kernel
theorem dX3_place_50 : decode cX3_place 50 = .ok (.getfield 38, 3) := by decide +kernel
theorem dX3_place_53 : decode cX3_place 53 = .ok (.iload 5, 2) := by decide +kernel
theorem dX3_place_55 : decode cX3_place 55 = .ok (.iaload, 1) := by decide +kernel
theorem dX3_place_56 : decode cX3_place 56 = .ok (.invokevirtual 41, 3) := by decide +kernel
theorem dX3_place_59 : decode cX3_place 59 = .ok (.aload_n 0, 1) := by decide +kernel
theorem dX3_place_60 : decode cX3_place 60 = .ok (.getfield 12, 3) := by decide +kernel
theorem dX3_place_63 : decode cX3_place 63 = .ok (.getfield 45, 3) := by decide +kernel
theorem dX3_place_66 : decode cX3_place 66 = .ok (.iload 4, 2) := by decide +kernel
theorem dX3_place_68 : decode cX3_place 68 = .ok (.aload_n 1, 1) := by decide +kernel
theorem dX3_place_69 : decode cX3_place 69 = .ok (.getfield 45, 3) := by decide +kernel
theorem dX3_place_72 : decode cX3_place 72 = .ok (.iload 5, 2) := by decide +kernel
theorem dX3_place_74 : decode cX3_place 74 = .ok (.iaload, 1) := by decide +kernel
theorem dX3_place_75 : decode cX3_place 75 = .ok (.iastore, 1) := by decide +kernel
theorem dX3_place_76 : decode cX3_place 76 = .ok (.aload_n 0, 1) := by decide +kernel
theorem dX3_place_77 : decode cX3_place 77 = .ok (.aload_n 1, 1) := by decide +kernel
theorem dX3_place_78 : decode cX3_place 78 = .ok (.aload_n 2, 1) := by decide +kernel
theorem dX3_place_79 : decode cX3_place 79 = .ok (.aload_n 1, 1) := by decide +kernel
theorem dX3_place_80 : decode cX3_place 80 = .ok (.getfield 38, 3) := by decide +kernel
theorem dX3_place_83 : decode cX3_place 83 = .ok (.iload 5, 2) := by decide +kernel
theorem dX3_place_85 : decode cX3_place 85 = .ok (.iaload, 1) := by decide +kernel
theorem dX3_place_86 : decode cX3_place 86 = .ok (.invokevirtual 48, 3) := by decide +kernel
theorem dX3_place_89 : decode cX3_place 89 = .ok (.aload_n 0, 1) := by decide +kernel
theorem dX3_place_90 : decode cX3_place 90 = .ok (.getfield 18, 3) := by decide +kernel
theorem dX3_place_93 : decode cX3_place 93 = .ok (.iload 5, 2) := by decide +kernel
theorem dX3_place_95 : decode cX3_place 95 = .ok (.iconst (-1), 1) := by decide +kernel
theorem dX3_place_96 : decode cX3_place 96 = .ok (.iastore, 1) := by decide +kernel
theorem dX3_place_97 : decode cX3_place 97 = .ok (.iinc 4 1, 3) := by decide +kernel
theorem dX3_place_100 : decode cX3_place 100 = .ok (.goto (-89), 3) := by decide +kernel
theorem dX3_place_103 : decode cX3_place 103 = .ok (.aload_n 1, 1) := by decide +kernel
theorem dX3_place_104 : decode cX3_place 104 = .ok (.aload_n 0, 1) := by decide +kernel
theorem dX3_place_105 : decode cX3_place 105 = .ok (.getfield 12, 3) := by decide +kernel
theorem dX3_place_108 : decode cX3_place 108 = .ok (.invokevirtual 52, 3) := by decide +kernel
theorem dX3_place_111 : decode cX3_place 111 = .ok (.iload_n 3, 1) := by decide +kernel
theorem dX3_place_112 : decode cX3_place 112 = .ok (.ireturn, 1) := by decide +kernel
theorem dX3_start_0 : decode cX3_start 0 = .ok (.aload_n 0, 1) := by decide +kernel
theorem dX3_start_1 : decode cX3_start 1 = .ok (.getfield 12, 3) := by decide +kernel
theorem dX3_start_4 : decode cX3_start 4 = .ok (.iconst 0, 1) := by decide +kernel
theorem dX3_start_5 : decode cX3_start 5 = .ok (.putfield 30, 3) := by decide +kernel
theorem dX3_start_8 : decode cX3_start 8 = .ok (.aload_n 2, 1) := by decide +kernel
theorem dX3_start_9 : decode cX3_start 9 = .ok (.invokevirtual 56, 3) := by decide +kernel
theorem dX3_start_12 : decode cX3_start 12 = .ok (.istore_n 3, 1) := by decide +kernel
theorem dX3_start_13 : decode cX3_start 13 = .ok (.iconst 0, 1) := by decide +kernel
theorem dX3_start_14 : decode cX3_start 14 = .ok (.istore 4, 2) := by decide +kernel
theorem dX3_start_16 : decode cX3_start 16 = .ok (.iload 4, 2) := by decide +kernel
theorem dX3_start_18 : decode cX3_start 18 = .ok (.iload_n 3, 1) := by decide +kernel
theorem dX3_start_19 : decode cX3_start 19 = .ok (.if_icmp .ge 17, 3) := by decide +kernel
theorem dX3_start_22 : decode cX3_start 22 = .ok (.aload_n 0, 1) := by decide +kernel
theorem dX3_start_23 : decode cX3_start 23 = .ok (.getfield 22, 3) := by decide +kernel
theorem dX3_start_26 : decode cX3_start 26 = .ok (.iload 4, 2) := by decide +kernel
theorem dX3_start_28 : decode cX3_start 28 = .ok (.iconst 0, 1) := by decide +kernel
theorem dX3_start_29 : decode cX3_start 29 = .ok (.bastore, 1) := by decide +kernel
theorem dX3_start_30 : decode cX3_start 30 = .ok (.iinc 4 1, 3) := by decide +kernel
theorem dX3_start_33 : decode cX3_start 33 = .ok (.goto (-17), 3) := by decide +kernel
theorem dX3_start_36 : decode cX3_start 36 = .ok (.iconst 0, 1) := by decide +kernel
theorem dX3_start_37 : decode cX3_start 37 = .ok (.istore 4, 2) := by decide +kernel
theorem dX3_start_39 : decode cX3_start 39 = .ok (.iload 4, 2) := by decide +kernel
theorem dX3_start_41 : decode cX3_start 41 = .ok (.aload_n 1, 1) := by decide +kernel
theorem dX3_start_42 : decode cX3_start 42 = .ok (.getfield 30, 3) := by decide +kernel
theorem dX3_start_45 : decode cX3_start 45 = .ok (.if_icmp .ge 73, 3) := by decide +kernel
theorem dX3_start_48 : decode cX3_start 48 = .ok (.aload_n 0, 1) := by decide +kernel
theorem dX3_start_49 : decode cX3_start 49 = .ok (.getfield 18, 3) := by decide +kernel
theorem dX3_start_52 : decode cX3_start 52 = .ok (.iload 4, 2) := by decide +kernel
theorem dX3_start_54 : decode cX3_start 54 = .ok (.iconst 0, 1) := by decide +kernel
theorem dX3_start_55 : decode cX3_start 55 = .ok (.iastore, 1) := by decide +kernel
theorem dX3_start_56 : decode cX3_start 56 = .ok (.iconst 0, 1) := by decide +kernel
theorem dX3_start_57 : decode cX3_start 57 = .ok (.istore 5, 2) := by decide +kernel
theorem dX3_start_59 : decode cX3_start 59 = .ok (.iload 5, 2) := by decide +kernel
theorem dX3_start_61 : decode cX3_start 61 = .ok (.aload_n 2, 1) := by decide +kernel
theorem dX3_start_62 : decode cX3_start 62 = .ok (.getfield 61, 3) := by decide +kernel
theorem dX3_start_65 : decode cX3_start 65 = .ok (.getfield 65, 3) := by decide +kernel
theorem dX3_start_68 : decode cX3_start 68 = .ok (.if_icmp .ge 44, 3) := by decide +kernel
theorem dX3_start_71 : decode cX3_start 71 = .ok (.aload_n 0, 1) := by decide +kernel
theorem dX3_start_72 : decode cX3_start 72 = .ok (.getfield 18, 3) := by decide +kernel
theorem dX3_start_75 : decode cX3_start 75 = .ok (.iload 4, 2) := by decide +kernel
theorem dX3_start_77 : decode cX3_start 77 = .ok (.dup2, 1) := by decide +kernel
theorem dX3_start_78 : decode cX3_start 78 = .ok (.iaload, 1) := by decide +kernel
theorem dX3_start_79 : decode cX3_start 79 = .ok (.aload_n 2, 1) := by decide +kernel
theorem dX3_start_80 : decode cX3_start 80 = .ok (.getfield 61, 3) := by decide +kernel
theorem dX3_start_83 : decode cX3_start 83 = .ok (.iload 5, 2) := by decide +kernel
theorem dX3_start_85 : decode cX3_start 85 = .ok (.aload_n 1, 1) := by decide +kernel
theorem dX3_start_86 : decode cX3_start 86 = .ok (.getfield 38, 3) := by decide +kernel
theorem dX3_start_89 : decode cX3_start 89 = .ok (.iload 4, 2) := by decide +kernel
theorem dX3_start_91 : decode cX3_start 91 = .ok (.iaload, 1) := by decide +kernel
theorem dX3_start_92 : decode cX3_start 92 = .ok (.invokevirtual 68, 3) := by decide +kernel
theorem dX3_start_95 : decode cX3_start 95 = .ok (.iconst (-1), 1) := by decide +kernel
theorem dX3_start_96 : decode cX3_start 96 = .ok (.if_icmp .eq 7, 3) := by decide +kernel
theorem dX3_start_99 : decode cX3_start 99 = .ok (.iconst 1, 1) := by decide +kernel
theorem dX3_start_100 : decode cX3_start 100 = .ok (.goto 4, 3) := by decide +kernel
theorem dX3_start_103 : decode cX3_start 103 = .ok (.iconst 0, 1) := by decide +kernel
theorem dX3_start_104 : decode cX3_start 104 = .ok (.iadd, 1) := by decide +kernel
theorem dX3_start_105 : decode cX3_start 105 = .ok (.iastore, 1) := by decide +kernel
theorem dX3_start_106 : decode cX3_start 106 = .ok (.iinc 5 1, 3) := by decide +kernel
theorem dX3_start_109 : decode cX3_start 109 = .ok (.goto (-50), 3) := by decide +kernel
theorem dX3_start_112 : decode cX3_start 112 = .ok (.iinc 4 1, 3) := by decide +kernel
theorem dX3_start_115 : decode cX3_start 115 = .ok (.goto (-76), 3) := by decide +kernel
theorem dX3_start_118 : decode cX3_start 118 = .ok (.return_, 1) := by decide +kernel
theorem dX3_bestOf_0 : decode cX3_bestOf 0 = .ok (.iconst 0, 1) := by decide +kernel
theorem dX3_bestOf_1 : decode cX3_bestOf 1 = .ok (.istore_n 2, 1) := by decide +kernel
theorem dX3_bestOf_2 : decode cX3_bestOf 2 = .ok (.iconst 1, 1) := by decide +kernel
theorem dX3_bestOf_3 : decode cX3_bestOf 3 = .ok (.istore_n 3, 1) := by decide +kernel
theorem dX3_bestOf_4 : decode cX3_bestOf 4 = .ok (.iload_n 3, 1) := by decide +kernel
theorem dX3_bestOf_5 : decode cX3_bestOf 5 = .ok (.aload_n 1, 1) := by decide +kernel
theorem dX3_bestOf_6 : decode cX3_bestOf 6 = .ok (.getfield 30, 3) := by decide +kernel
theorem dX3_bestOf_9 : decode cX3_bestOf 9 = .ok (.if_icmp .ge 26, 3) := by decide +kernel
theorem dX3_bestOf_12 : decode cX3_bestOf 12 = .ok (.aload_n 0, 1) := by decide +kernel
theorem dX3_bestOf_13 : decode cX3_bestOf 13 = .ok (.getfield 18, 3) := by decide +kernel
theorem dX3_bestOf_16 : decode cX3_bestOf 16 = .ok (.iload_n 3, 1) := by decide +kernel
theorem dX3_bestOf_17 : decode cX3_bestOf 17 = .ok (.iaload, 1) := by decide +kernel
theorem dX3_bestOf_18 : decode cX3_bestOf 18 = .ok (.aload_n 0, 1) := by decide +kernel
theorem dX3_bestOf_19 : decode cX3_bestOf 19 = .ok (.getfield 18, 3) := by decide +kernel
theorem dX3_bestOf_22 : decode cX3_bestOf 22 = .ok (.iload_n 2, 1) := by decide +kernel
theorem dX3_bestOf_23 : decode cX3_bestOf 23 = .ok (.iaload, 1) := by decide +kernel
theorem dX3_bestOf_24 : decode cX3_bestOf 24 = .ok (.if_icmp .le 5, 3) := by decide +kernel
theorem dX3_bestOf_27 : decode cX3_bestOf 27 = .ok (.iload_n 3, 1) := by decide +kernel
theorem dX3_bestOf_28 : decode cX3_bestOf 28 = .ok (.istore_n 2, 1) := by decide +kernel
theorem dX3_bestOf_29 : decode cX3_bestOf 29 = .ok (.iinc 3 1, 3) := by decide +kernel
theorem dX3_bestOf_32 : decode cX3_bestOf 32 = .ok (.goto (-28), 3) := by decide +kernel
theorem dX3_bestOf_35 : decode cX3_bestOf 35 = .ok (.iload_n 2, 1) := by decide +kernel
theorem dX3_bestOf_36 : decode cX3_bestOf 36 = .ok (.ireturn, 1) := by decide +kernel
theorem dX3_markSeen_0 : decode cX3_markSeen 0 = .ok (.iconst 0, 1) := by decide +kernel
theorem dX3_markSeen_1 : decode cX3_markSeen 1 = .ok (.istore 4, 2) := by decide +kernel
theorem dX3_markSeen_3 : decode cX3_markSeen 3 = .ok (.iload 4, 2) := by decide +kernel
theorem dX3_markSeen_5 : decode cX3_markSeen 5 = .ok (.aload_n 2, 1) := by decide +kernel
theorem dX3_markSeen_6 : decode cX3_markSeen 6 = .ok (.getfield 61, 3) := by decide +kernel
theorem dX3_markSeen_9 : decode cX3_markSeen 9 = .ok (.getfield 65, 3) := by decide +kernel
theorem dX3_markSeen_12 : decode cX3_markSeen 12 = .ok (.if_icmp .ge 104, 3) := by decide +kernel
theorem dX3_markSeen_15 : decode cX3_markSeen 15 = .ok (.aload_n 2, 1) := by decide +kernel
theorem dX3_markSeen_16 : decode cX3_markSeen 16 = .ok (.getfield 61, 3) := by decide +kernel
theorem dX3_markSeen_19 : decode cX3_markSeen 19 = .ok (.iload 4, 2) := by decide +kernel
theorem dX3_markSeen_21 : decode cX3_markSeen 21 = .ok (.iload_n 3, 1) := by decide +kernel
theorem dX3_markSeen_22 : decode cX3_markSeen 22 = .ok (.invokevirtual 68, 3) := by decide +kernel
theorem dX3_markSeen_25 : decode cX3_markSeen 25 = .ok (.istore 5, 2) := by decide +kernel
theorem dX3_markSeen_27 : decode cX3_markSeen 27 = .ok (.iload 5, 2) := by decide +kernel
theorem dX3_markSeen_29 : decode cX3_markSeen 29 = .ok (.iconst (-1), 1) := by decide +kernel
theorem dX3_markSeen_30 : decode cX3_markSeen 30 = .ok (.if_icmp .eq 80, 3) := by decide +kernel
theorem dX3_markSeen_33 : decode cX3_markSeen 33 = .ok (.aload_n 0, 1) := by decide +kernel
theorem dX3_markSeen_34 : decode cX3_markSeen 34 = .ok (.getfield 22, 3) := by decide +kernel
theorem dX3_markSeen_37 : decode cX3_markSeen 37 = .ok (.iload 5, 2) := by decide +kernel
theorem dX3_markSeen_39 : decode cX3_markSeen 39 = .ok (.baload, 1) := by decide +kernel
theorem dX3_markSeen_40 : decode cX3_markSeen 40 = .ok (.ifCond .ne 70, 3) := by decide +kernel
theorem dX3_markSeen_43 : decode cX3_markSeen 43 = .ok (.aload_n 0, 1) := by decide +kernel
theorem dX3_markSeen_44 : decode cX3_markSeen 44 = .ok (.getfield 22, 3) := by decide +kernel
theorem dX3_markSeen_47 : decode cX3_markSeen 47 = .ok (.iload 5, 2) := by decide +kernel
theorem dX3_markSeen_49 : decode cX3_markSeen 49 = .ok (.iconst 1, 1) := by decide +kernel
theorem dX3_markSeen_50 : decode cX3_markSeen 50 = .ok (.bastore, 1) := by decide +kernel
theorem dX3_markSeen_51 : decode cX3_markSeen 51 = .ok (.iconst 0, 1) := by decide +kernel
theorem dX3_markSeen_52 : decode cX3_markSeen 52 = .ok (.istore 6, 2) := by decide +kernel
theorem dX3_markSeen_54 : decode cX3_markSeen 54 = .ok (.iload 6, 2) := by decide +kernel
theorem dX3_markSeen_56 : decode cX3_markSeen 56 = .ok (.aload_n 1, 1) := by decide +kernel
theorem dX3_markSeen_57 : decode cX3_markSeen 57 = .ok (.getfield 30, 3) := by decide +kernel
theorem dX3_markSeen_60 : decode cX3_markSeen 60 = .ok (.if_icmp .ge 50, 3) := by decide +kernel
theorem dX3_markSeen_63 : decode cX3_markSeen 63 = .ok (.aload_n 0, 1) := by decide +kernel
theorem dX3_markSeen_64 : decode cX3_markSeen 64 = .ok (.getfield 18, 3) := by decide +kernel
theorem dX3_markSeen_67 : decode cX3_markSeen 67 = .ok (.iload 6, 2) := by decide +kernel
theorem dX3_markSeen_69 : decode cX3_markSeen 69 = .ok (.iaload, 1) := by decide +kernel
theorem dX3_markSeen_70 : decode cX3_markSeen 70 = .ok (.ifCond .le 34, 3) := by decide +kernel
theorem dX3_markSeen_73 : decode cX3_markSeen 73 = .ok (.aload_n 2, 1) := by decide +kernel
theorem dX3_markSeen_74 : decode cX3_markSeen 74 = .ok (.getfield 72, 3) := by decide +kernel
theorem dX3_markSeen_77 : decode cX3_markSeen 77 = .ok (.iload 5, 2) := by decide +kernel
theorem dX3_markSeen_79 : decode cX3_markSeen 79 = .ok (.iaload, 1) := by decide +kernel
theorem dX3_markSeen_80 : decode cX3_markSeen 80 = .ok (.aload_n 1, 1) := by decide +kernel
theorem dX3_markSeen_81 : decode cX3_markSeen 81 = .ok (.getfield 38, 3) := by decide +kernel
theorem dX3_markSeen_84 : decode cX3_markSeen 84 = .ok (.iload 6, 2) := by decide +kernel
theorem dX3_markSeen_86 : decode cX3_markSeen 86 = .ok (.iaload, 1) := by decide +kernel
theorem dX3_markSeen_87 : decode cX3_markSeen 87 = .ok (.iconst (-1), 1) := by decide +kernel
theorem dX3_markSeen_88 : decode cX3_markSeen 88 = .ok (.ixor, 1) := by decide +kernel
theorem dX3_markSeen_89 : decode cX3_markSeen 89 = .ok (.iand, 1) := by decide +kernel
theorem dX3_markSeen_90 : decode cX3_markSeen 90 = .ok (.ifCond .ne 14, 3) := by decide +kernel
theorem dX3_markSeen_93 : decode cX3_markSeen 93 = .ok (.aload_n 0, 1) := by decide +kernel
theorem dX3_markSeen_94 : decode cX3_markSeen 94 = .ok (.getfield 18, 3) := by decide +kernel
theorem dX3_markSeen_97 : decode cX3_markSeen 97 = .ok (.iload 6, 2) := by decide +kernel
theorem dX3_markSeen_99 : decode cX3_markSeen 99 = .ok (.dup2, 1) := by decide +kernel
theorem dX3_markSeen_100 : decode cX3_markSeen 100 = .ok (.iaload, 1) := by decide +kernel
theorem dX3_markSeen_101 : decode cX3_markSeen 101 = .ok (.iconst 1, 1) := by decide +kernel
theorem dX3_markSeen_102 : decode cX3_markSeen 102 = .ok (.isub, 1) := by decide +kernel
theorem dX3_markSeen_103 : decode cX3_markSeen 103 = .ok (.iastore, 1) := by decide +kernel
theorem dX3_markSeen_104 : decode cX3_markSeen 104 = .ok (.iinc 6 1, 3) := by decide +kernel
theorem dX3_markSeen_107 : decode cX3_markSeen 107 = .ok (.goto (-53), 3) := by decide +kernel
theorem dX3_markSeen_110 : decode cX3_markSeen 110 = .ok (.iinc 4 1, 3) := by decide +kernel
theorem dX3_markSeen_113 : decode cX3_markSeen 113 = .ok (.goto (-110), 3) := by decide +kernel
theorem dX3_markSeen_116 : decode cX3_markSeen 116 = .ok (.return_, 1) := by decide +kernel
theorem dX4_init_0 : decode cX4_init 0 = .ok (.aload_n 0, 1) := by decide +kernel
theorem dX4_init_1 : decode cX4_init 1 = .ok (.invokespecial 3, 3) := by decide +kernel
theorem dX4_init_4 : decode cX4_init 4 = .ok (.aload_n 0, 1) := by decide +kernel
theorem dX4_init_5 : decode cX4_init 5 = .ok (.bipush 8, 2) := by decide +kernel
theorem dX4_init_7 : decode cX4_init 7 = .ok (.newarray .int, 2) := by decide +kernel
theorem dX4_init_9 : decode cX4_init 9 = .ok (.putfield 9, 3) := by decide +kernel
theorem dX4_init_12 : decode cX4_init 12 = .ok (.aload_n 0, 1) := by decide +kernel
theorem dX4_init_13 : decode cX4_init 13 = .ok (.bipush 12, 2) := by decide +kernel
theorem dX4_init_15 : decode cX4_init 15 = .ok (.newarray .int, 2) := by decide +kernel
theorem dX4_init_17 : decode cX4_init 17 = .ok (.putfield 15, 3) := by decide +kernel
theorem dX4_init_20 : decode cX4_init 20 = .ok (.aload_n 0, 1) := by decide +kernel
theorem dX4_init_21 : decode cX4_init 21 = .ok (.bipush 12, 2) := by decide +kernel
theorem dX4_init_23 : decode cX4_init 23 = .ok (.newarray .int, 2) := by decide +kernel
theorem dX4_init_25 : decode cX4_init 25 = .ok (.putfield 18, 3) := by decide +kernel
theorem dX4_init_28 : decode cX4_init 28 = .ok (.return_, 1) := by decide +kernel
theorem dX4_clear_0 : decode cX4_clear 0 = .ok (.aload_n 0, 1) := by decide +kernel
theorem dX4_clear_1 : decode cX4_clear 1 = .ok (.iconst 0, 1) := by decide +kernel
theorem dX4_clear_2 : decode cX4_clear 2 = .ok (.putfield 21, 3) := by decide +kernel
theorem dX4_clear_5 : decode cX4_clear 5 = .ok (.aload_n 0, 1) := by decide +kernel
theorem dX4_clear_6 : decode cX4_clear 6 = .ok (.iconst 2, 1) := by decide +kernel
theorem dX4_clear_7 : decode cX4_clear 7 = .ok (.putfield 25, 3) := by decide +kernel
theorem dX4_clear_10 : decode cX4_clear 10 = .ok (.aload_n 0, 1) := by decide +kernel
theorem dX4_clear_11 : decode cX4_clear 11 = .ok (.iconst 0, 1) := by decide +kernel
theorem dX4_clear_12 : decode cX4_clear 12 = .ok (.putfield 28, 3) := by decide +kernel
theorem dX4_clear_15 : decode cX4_clear 15 = .ok (.aload_n 0, 1) := by decide +kernel
theorem dX4_clear_16 : decode cX4_clear 16 = .ok (.iconst 0, 1) := by decide +kernel
theorem dX4_clear_17 : decode cX4_clear 17 = .ok (.putfield 31, 3) := by decide +kernel
theorem dX4_clear_20 : decode cX4_clear 20 = .ok (.return_, 1) := by decide +kernel
theorem dX4_addColumn_0 : decode cX4_addColumn 0 = .ok (.aload_n 0, 1) := by decide +kernel
theorem dX4_addColumn_1 : decode cX4_addColumn 1 = .ok (.getfield 21, 3) := by decide +kernel
theorem dX4_addColumn_4 : decode cX4_addColumn 4 = .ok (.bipush 8, 2) := by decide +kernel
theorem dX4_addColumn_6 : decode cX4_addColumn 6 = .ok (.if_icmp .ge 44, 3) := by decide +kernel
theorem dX4_addColumn_9 : decode cX4_addColumn 9 = .ok (.aload_n 0, 1) := by decide +kernel
theorem dX4_addColumn_10 : decode cX4_addColumn 10 = .ok (.getfield 9, 3) := by decide +kernel
theorem dX4_addColumn_13 : decode cX4_addColumn 13 = .ok (.aload_n 0, 1) := by decide +kernel
theorem dX4_addColumn_14 : decode cX4_addColumn 14 = .ok (.getfield 21, 3) := by decide +kernel
theorem dX4_addColumn_17 : decode cX4_addColumn 17 = .ok (.iload_n 1, 1) := by decide +kernel
theorem dX4_addColumn_18 : decode cX4_addColumn 18 = .ok (.iastore, 1) := by decide +kernel
theorem dX4_addColumn_19 : decode cX4_addColumn 19 = .ok (.aload_n 0, 1) := by decide +kernel
theorem dX4_addColumn_20 : decode cX4_addColumn 20 = .ok (.dup, 1) := by decide +kernel
theorem dX4_addColumn_21 : decode cX4_addColumn 21 = .ok (.getfield 31, 3) := by decide +kernel
theorem dX4_addColumn_24 : decode cX4_addColumn 24 = .ok (.iconst 1, 1) := by decide +kernel
theorem dX4_addColumn_25 : decode cX4_addColumn 25 = .ok (.iload_n 1, 1) := by decide +kernel
theorem dX4_addColumn_26 : decode cX4_addColumn 26 = .ok (.ishl, 1) := by decide +kernel
theorem dX4_addColumn_27 : decode cX4_addColumn 27 = .ok (.iconst 1, 1) := by decide +kernel
theorem dX4_addColumn_28 : decode cX4_addColumn 28 = .ok (.isub, 1) := by decide +kernel
theorem dX4_addColumn_29 : decode cX4_addColumn 29 = .ok (.iconst 4, 1) := by decide +kernel
theorem dX4_addColumn_30 : decode cX4_addColumn 30 = .ok (.aload_n 0, 1) := by decide +kernel
theorem dX4_addColumn_31 : decode cX4_addColumn 31 = .ok (.getfield 21, 3) := by decide +kernel
theorem dX4_addColumn_34 : decode cX4_addColumn 34 = .ok (.imul, 1) := by decide +kernel
theorem dX4_addColumn_35 : decode cX4_addColumn 35 = .ok (.ishl, 1) := by decide +kernel
theorem dX4_addColumn_36 : decode cX4_addColumn 36 = .ok (.ior, 1) := by decide +kernel
theorem dX4_addColumn_37 : decode cX4_addColumn 37 = .ok (.putfield 31, 3) := by decide +kernel
theorem dX4_addColumn_40 : decode cX4_addColumn 40 = .ok (.aload_n 0, 1) := by decide +kernel
theorem dX4_addColumn_41 : decode cX4_addColumn 41 = .ok (.dup, 1) := by decide +kernel
theorem dX4_addColumn_42 : decode cX4_addColumn 42 = .ok (.getfield 21, 3) := by decide +kernel
theorem dX4_addColumn_45 : decode cX4_addColumn 45 = .ok (.iconst 1, 1) := by decide +kernel
theorem dX4_addColumn_46 : decode cX4_addColumn 46 = .ok (.iadd, 1) := by decide +kernel
theorem dX4_addColumn_47 : decode cX4_addColumn 47 = .ok (.putfield 21, 3) := by decide +kernel
theorem dX4_addColumn_50 : decode cX4_addColumn 50 = .ok (.return_, 1) := by decide +kernel
theorem dX4_addNever_0 : decode cX4_addNever 0 = .ok (.aload_n 0, 1) := by decide +kernel
theorem dX4_addNever_1 : decode cX4_addNever 1 = .ok (.getfield 28, 3) := by decide +kernel
theorem dX4_addNever_4 : decode cX4_addNever 4 = .ok (.bipush 12, 2) := by decide +kernel
theorem dX4_addNever_6 : decode cX4_addNever 6 = .ok (.if_icmp .ge 36, 3) := by decide +kernel
theorem dX4_addNever_9 : decode cX4_addNever 9 = .ok (.aload_n 0, 1) := by decide +kernel
theorem dX4_addNever_10 : decode cX4_addNever 10 = .ok (.getfield 15, 3) := by decide +kernel
theorem dX4_addNever_13 : decode cX4_addNever 13 = .ok (.aload_n 0, 1) := by decide +kernel
theorem dX4_addNever_14 : decode cX4_addNever 14 = .ok (.getfield 28, 3) := by decide +kernel
theorem dX4_addNever_17 : decode cX4_addNever 17 = .ok (.iload_n 1, 1) := by decide +kernel
theorem dX4_addNever_18 : decode cX4_addNever 18 = .ok (.iastore, 1) := by decide +kernel
theorem dX4_addNever_19 : decode cX4_addNever 19 = .ok (.aload_n 0, 1) := by decide +kernel
theorem dX4_addNever_20 : decode cX4_addNever 20 = .ok (.getfield 18, 3) := by decide +kernel
theorem dX4_addNever_23 : decode cX4_addNever 23 = .ok (.aload_n 0, 1) := by decide +kernel
theorem dX4_addNever_24 : decode cX4_addNever 24 = .ok (.getfield 28, 3) := by decide +kernel
theorem dX4_addNever_27 : decode cX4_addNever 27 = .ok (.iload_n 1, 1) := by decide +kernel
theorem dX4_addNever_28 : decode cX4_addNever 28 = .ok (.invokestatic 34, 3) := by decide +kernel
theorem dX4_addNever_31 : decode cX4_addNever 31 = .ok (.iastore, 1) := by decide +kernel
theorem dX4_addNever_32 : decode cX4_addNever 32 = .ok (.aload_n 0, 1) := by decide +kernel
theorem dX4_addNever_33 : decode cX4_addNever 33 = .ok (.dup, 1) := by decide +kernel
theorem dX4_addNever_34 : decode cX4_addNever 34 = .ok (.getfield 28, 3) := by decide +kernel
theorem dX4_addNever_37 : decode cX4_addNever 37 = .ok (.iconst 1, 1) := by decide +kernel
theorem dX4_addNever_38 : decode cX4_addNever 38 = .ok (.iadd, 1) := by decide +kernel
theorem dX4_addNever_39 : decode cX4_addNever 39 = .ok (.putfield 28, 3) := by decide +kernel
theorem dX4_addNever_42 : decode cX4_addNever 42 = .ok (.return_, 1) := by decide +kernel
theorem dX4_copyFrom_0 : decode cX4_copyFrom 0 = .ok (.aload_n 0, 1) := by decide +kernel
theorem dX4_copyFrom_1 : decode cX4_copyFrom 1 = .ok (.aload_n 1, 1) := by decide +kernel
theorem dX4_copyFrom_2 : decode cX4_copyFrom 2 = .ok (.getfield 21, 3) := by decide +kernel
theorem dX4_copyFrom_5 : decode cX4_copyFrom 5 = .ok (.putfield 21, 3) := by decide +kernel
theorem dX4_copyFrom_8 : decode cX4_copyFrom 8 = .ok (.aload_n 0, 1) := by decide +kernel
theorem dX4_copyFrom_9 : decode cX4_copyFrom 9 = .ok (.aload_n 1, 1) := by decide +kernel
theorem dX4_copyFrom_10 : decode cX4_copyFrom 10 = .ok (.getfield 25, 3) := by decide +kernel
theorem dX4_copyFrom_13 : decode cX4_copyFrom 13 = .ok (.putfield 25, 3) := by decide +kernel
theorem dX4_copyFrom_16 : decode cX4_copyFrom 16 = .ok (.aload_n 0, 1) := by decide +kernel
theorem dX4_copyFrom_17 : decode cX4_copyFrom 17 = .ok (.aload_n 1, 1) := by decide +kernel
theorem dX4_copyFrom_18 : decode cX4_copyFrom 18 = .ok (.getfield 28, 3) := by decide +kernel
theorem dX4_copyFrom_21 : decode cX4_copyFrom 21 = .ok (.putfield 28, 3) := by decide +kernel
theorem dX4_copyFrom_24 : decode cX4_copyFrom 24 = .ok (.aload_n 0, 1) := by decide +kernel
theorem dX4_copyFrom_25 : decode cX4_copyFrom 25 = .ok (.aload_n 1, 1) := by decide +kernel
theorem dX4_copyFrom_26 : decode cX4_copyFrom 26 = .ok (.getfield 31, 3) := by decide +kernel
theorem dX4_copyFrom_29 : decode cX4_copyFrom 29 = .ok (.putfield 31, 3) := by decide +kernel
theorem dX4_copyFrom_32 : decode cX4_copyFrom 32 = .ok (.aload_n 1, 1) := by decide +kernel
theorem dX4_copyFrom_33 : decode cX4_copyFrom 33 = .ok (.getfield 9, 3) := by decide +kernel
theorem dX4_copyFrom_36 : decode cX4_copyFrom 36 = .ok (.iconst 0, 1) := by decide +kernel
theorem dX4_copyFrom_37 : decode cX4_copyFrom 37 = .ok (.aload_n 0, 1) := by decide +kernel
theorem dX4_copyFrom_38 : decode cX4_copyFrom 38 = .ok (.getfield 9, 3) := by decide +kernel
theorem dX4_copyFrom_41 : decode cX4_copyFrom 41 = .ok (.iconst 0, 1) := by decide +kernel
theorem dX4_copyFrom_42 : decode cX4_copyFrom 42 = .ok (.bipush 8, 2) := by decide +kernel
theorem dX4_copyFrom_44 : decode cX4_copyFrom 44 = .ok (.invokestatic 38, 3) := by decide +kernel
theorem dX4_copyFrom_47 : decode cX4_copyFrom 47 = .ok (.aload_n 1, 1) := by decide +kernel
theorem dX4_copyFrom_48 : decode cX4_copyFrom 48 = .ok (.getfield 15, 3) := by decide +kernel
theorem dX4_copyFrom_51 : decode cX4_copyFrom 51 = .ok (.iconst 0, 1) := by decide +kernel
theorem dX4_copyFrom_52 : decode cX4_copyFrom 52 = .ok (.aload_n 0, 1) := by decide +kernel
theorem dX4_copyFrom_53 : decode cX4_copyFrom 53 = .ok (.getfield 15, 3) := by decide +kernel
theorem dX4_copyFrom_56 : decode cX4_copyFrom 56 = .ok (.iconst 0, 1) := by decide +kernel
theorem dX4_copyFrom_57 : decode cX4_copyFrom 57 = .ok (.bipush 12, 2) := by decide +kernel
theorem dX4_copyFrom_59 : decode cX4_copyFrom 59 = .ok (.invokestatic 38, 3) := by decide +kernel
theorem dX4_copyFrom_62 : decode cX4_copyFrom 62 = .ok (.aload_n 1, 1) := by decide +kernel
theorem dX4_copyFrom_63 : decode cX4_copyFrom 63 = .ok (.getfield 18, 3) := by decide +kernel
theorem dX4_copyFrom_66 : decode cX4_copyFrom 66 = .ok (.iconst 0, 1) := by decide +kernel
theorem dX4_copyFrom_67 : decode cX4_copyFrom 67 = .ok (.aload_n 0, 1) := by decide +kernel
theorem dX4_copyFrom_68 : decode cX4_copyFrom 68 = .ok (.getfield 18, 3) := by decide +kernel
theorem dX4_copyFrom_71 : decode cX4_copyFrom 71 = .ok (.iconst 0, 1) := by decide +kernel
theorem dX4_copyFrom_72 : decode cX4_copyFrom 72 = .ok (.bipush 12, 2) := by decide +kernel
theorem dX4_copyFrom_74 : decode cX4_copyFrom 74 = .ok (.invokestatic 38, 3) := by decide +kernel
theorem dX4_copyFrom_77 : decode cX4_copyFrom 77 = .ok (.return_, 1) := by decide +kernel
theorem dX4_sameAs_0 : decode cX4_sameAs 0 = .ok (.aload_n 0, 1) := by decide +kernel
theorem dX4_sameAs_1 : decode cX4_sameAs 1 = .ok (.getfield 21, 3) := by decide +kernel
theorem dX4_sameAs_4 : decode cX4_sameAs 4 = .ok (.aload_n 1, 1) := by decide +kernel
theorem dX4_sameAs_5 : decode cX4_sameAs 5 = .ok (.getfield 21, 3) := by decide +kernel
theorem dX4_sameAs_8 : decode cX4_sameAs 8 = .ok (.if_icmp .ne 40, 3) := by decide +kernel
theorem dX4_sameAs_11 : decode cX4_sameAs 11 = .ok (.aload_n 0, 1) := by decide +kernel
theorem dX4_sameAs_12 : decode cX4_sameAs 12 = .ok (.getfield 25, 3) := by decide +kernel
theorem dX4_sameAs_15 : decode cX4_sameAs 15 = .ok (.aload_n 1, 1) := by decide +kernel
theorem dX4_sameAs_16 : decode cX4_sameAs 16 = .ok (.getfield 25, 3) := by decide +kernel
theorem dX4_sameAs_19 : decode cX4_sameAs 19 = .ok (.if_icmp .ne 29, 3) := by decide +kernel
theorem dX4_sameAs_22 : decode cX4_sameAs 22 = .ok (.aload_n 0, 1) := by decide +kernel
theorem dX4_sameAs_23 : decode cX4_sameAs 23 = .ok (.getfield 28, 3) := by decide +kernel
theorem dX4_sameAs_26 : decode cX4_sameAs 26 = .ok (.aload_n 1, 1) := by decide +kernel
theorem dX4_sameAs_27 : decode cX4_sameAs 27 = .ok (.getfield 28, 3) := by decide +kernel
theorem dX4_sameAs_30 : decode cX4_sameAs 30 = .ok (.if_icmp .ne 18, 3) := by decide +kernel
theorem dX4_sameAs_33 : decode cX4_sameAs 33 = .ok (.aload_n 0, 1) := by decide +kernel
theorem dX4_sameAs_34 : decode cX4_sameAs 34 = .ok (.getfield 31, 3) := by decide +kernel
theorem dX4_sameAs_37 : decode cX4_sameAs 37 = .ok (.aload_n 1, 1) := by decide +kernel
theorem dX4_sameAs_38 : decode cX4_sameAs 38 = .ok (.getfield 31, 3) := by decide +kernel
theorem dX4_sameAs_41 : decode cX4_sameAs 41 = .ok (.if_icmp .ne 7, 3) := by decide +kernel
theorem dX4_sameAs_44 : decode cX4_sameAs 44 = .ok (.iconst 1, 1) := by decide +kernel
theorem dX4_sameAs_45 : decode cX4_sameAs 45 = .ok (.goto 4, 3) := by decide +kernel
theorem dX4_sameAs_48 : decode cX4_sameAs 48 = .ok (.iconst 0, 1) := by decide +kernel
theorem dX4_sameAs_49 : decode cX4_sameAs 49 = .ok (.istore_n 2, 1) := by decide +kernel
theorem dX4_sameAs_50 : decode cX4_sameAs 50 = .ok (.iconst 0, 1) := by decide +kernel
theorem dX4_sameAs_51 : decode cX4_sameAs 51 = .ok (.istore_n 3, 1) := by decide +kernel
theorem dX4_sameAs_52 : decode cX4_sameAs 52 = .ok (.iload_n 2, 1) := by decide +kernel
theorem dX4_sameAs_53 : decode cX4_sameAs 53 = .ok (.ifCond .eq 38, 3) := by decide +kernel
theorem dX4_sameAs_56 : decode cX4_sameAs 56 = .ok (.iload_n 3, 1) := by decide +kernel
theorem dX4_sameAs_57 : decode cX4_sameAs 57 = .ok (.aload_n 0, 1) := by decide +kernel
theorem dX4_sameAs_58 : decode cX4_sameAs 58 = .ok (.getfield 28, 3) := by decide +kernel
theorem dX4_sameAs_61 : decode cX4_sameAs 61 = .ok (.if_icmp .ge 30, 3) := by decide +kernel
theorem dX4_sameAs_64 : decode cX4_sameAs 64 = .ok (.aload_n 0, 1) := by decide +kernel
theorem dX4_sameAs_65 : decode cX4_sameAs 65 = .ok (.getfield 15, 3) := by decide +kernel
theorem dX4_sameAs_68 : decode cX4_sameAs 68 = .ok (.iload_n 3, 1) := by decide +kernel
theorem dX4_sameAs_69 : decode cX4_sameAs 69 = .ok (.iaload, 1) := by decide +kernel
theorem dX4_sameAs_70 : decode cX4_sameAs 70 = .ok (.aload_n 1, 1) := by decide +kernel
theorem dX4_sameAs_71 : decode cX4_sameAs 71 = .ok (.getfield 15, 3) := by decide +kernel
theorem dX4_sameAs_74 : decode cX4_sameAs 74 = .ok (.iload_n 3, 1) := by decide +kernel
theorem dX4_sameAs_75 : decode cX4_sameAs 75 = .ok (.iaload, 1) := by decide +kernel
theorem dX4_sameAs_76 : decode cX4_sameAs 76 = .ok (.if_icmp .ne 7, 3) := by decide +kernel
theorem dX4_sameAs_79 : decode cX4_sameAs 79 = .ok (.iconst 1, 1) := by decide +kernel
theorem dX4_sameAs_80 : decode cX4_sameAs 80 = .ok (.goto 4, 3) := by decide +kernel
theorem dX4_sameAs_83 : decode cX4_sameAs 83 = .ok (.iconst 0, 1) := by decide +kernel
theorem dX4_sameAs_84 : decode cX4_sameAs 84 = .ok (.istore_n 2, 1) := by decide +kernel
theorem dX4_sameAs_85 : decode cX4_sameAs 85 = .ok (.iinc 3 1, 3) := by decide +kernel
theorem dX4_sameAs_88 : decode cX4_sameAs 88 = .ok (.goto (-36), 3) := by decide +kernel
theorem dX4_sameAs_91 : decode cX4_sameAs 91 = .ok (.iload_n 2, 1) := by decide +kernel
theorem dX4_sameAs_92 : decode cX4_sameAs 92 = .ok (.ireturn, 1) := by decide +kernel
theorem dX4_rowOfDigits_0 : decode cX4_rowOfDigits 0 = .ok (.iload_n 1, 1) := by decide +kernel
theorem dX4_rowOfDigits_1 : decode cX4_rowOfDigits 1 = .ok (.ifCond .ge 5, 3) := by decide +kernel
theorem dX4_rowOfDigits_4 : decode cX4_rowOfDigits 4 = .ok (.iconst (-1), 1) := by decide +kernel
theorem dX4_rowOfDigits_5 : decode cX4_rowOfDigits 5 = .ok (.ireturn, 1) := by decide +kernel
theorem dX4_rowOfDigits_6 : decode cX4_rowOfDigits 6 = .ok (.iload_n 1, 1) := by decide +kernel
theorem dX4_rowOfDigits_7 : decode cX4_rowOfDigits 7 = .ok (.istore_n 2, 1) := by decide +kernel
theorem dX4_rowOfDigits_8 : decode cX4_rowOfDigits 8 = .ok (.iconst 0, 1) := by decide +kernel
theorem dX4_rowOfDigits_9 : decode cX4_rowOfDigits 9 = .ok (.istore_n 3, 1) := by decide +kernel
theorem dX4_rowOfDigits_10 : decode cX4_rowOfDigits 10 = .ok (.aload_n 0, 1) := by decide +kernel
theorem dX4_rowOfDigits_11 : decode cX4_rowOfDigits 11 = .ok (.getfield 21, 3) := by decide +kernel
theorem dX4_rowOfDigits_14 : decode cX4_rowOfDigits 14 = .ok (.iconst 1, 1) := by decide +kernel
theorem dX4_rowOfDigits_15 : decode cX4_rowOfDigits 15 = .ok (.isub, 1) := by decide +kernel
theorem dX4_rowOfDigits_16 : decode cX4_rowOfDigits 16 = .ok (.istore 4, 2) := by decide +kernel
theorem dX4_rowOfDigits_18 : decode cX4_rowOfDigits 18 = .ok (.iload 4, 2) := by decide +kernel
theorem dX4_rowOfDigits_20 : decode cX4_rowOfDigits 20 = .ok (.ifCond .lt 56, 3) := by decide +kernel
theorem dX4_rowOfDigits_23 : decode cX4_rowOfDigits 23 = .ok (.iload_n 2, 1) := by decide +kernel
theorem dX4_rowOfDigits_24 : decode cX4_rowOfDigits 24 = .ok (.bipush 10, 2) := by decide +kernel
theorem dX4_rowOfDigits_26 : decode cX4_rowOfDigits 26 = .ok (.irem, 1) := by decide +kernel
theorem dX4_rowOfDigits_27 : decode cX4_rowOfDigits 27 = .ok (.istore 5, 2) := by decide +kernel
theorem dX4_rowOfDigits_29 : decode cX4_rowOfDigits 29 = .ok (.iload_n 2, 1) := by decide +kernel
theorem dX4_rowOfDigits_30 : decode cX4_rowOfDigits 30 = .ok (.bipush 10, 2) := by decide +kernel
theorem dX4_rowOfDigits_32 : decode cX4_rowOfDigits 32 = .ok (.idiv, 1) := by decide +kernel
theorem dX4_rowOfDigits_33 : decode cX4_rowOfDigits 33 = .ok (.istore_n 2, 1) := by decide +kernel
theorem dX4_rowOfDigits_34 : decode cX4_rowOfDigits 34 = .ok (.iload 5, 2) := by decide +kernel
theorem dX4_rowOfDigits_36 : decode cX4_rowOfDigits 36 = .ok (.aload_n 0, 1) := by decide +kernel
theorem dX4_rowOfDigits_37 : decode cX4_rowOfDigits 37 = .ok (.getfield 9, 3) := by decide +kernel
theorem dX4_rowOfDigits_40 : decode cX4_rowOfDigits 40 = .ok (.iload 4, 2) := by decide +kernel
theorem dX4_rowOfDigits_42 : decode cX4_rowOfDigits 42 = .ok (.iaload, 1) := by decide +kernel
theorem dX4_rowOfDigits_43 : decode cX4_rowOfDigits 43 = .ok (.if_icmp .ge 18, 3) := by decide +kernel
theorem dX4_rowOfDigits_46 : decode cX4_rowOfDigits 46 = .ok (.iload_n 3, 1) := by decide +kernel
theorem dX4_rowOfDigits_47 : decode cX4_rowOfDigits 47 = .ok (.iconst 1, 1) := by decide +kernel
theorem dX4_rowOfDigits_48 : decode cX4_rowOfDigits 48 = .ok (.iconst 4, 1) := by decide +kernel
theorem dX4_rowOfDigits_49 : decode cX4_rowOfDigits 49 = .ok (.iload 4, 2) := by decide +kernel
theorem dX4_rowOfDigits_51 : decode cX4_rowOfDigits 51 = .ok (.imul, 1) := by decide +kernel
theorem dX4_rowOfDigits_52 : decode cX4_rowOfDigits 52 = .ok (.iload 5, 2) := by decide +kernel
theorem dX4_rowOfDigits_54 : decode cX4_rowOfDigits 54 = .ok (.iadd, 1) := by decide +kernel
theorem dX4_rowOfDigits_55 : decode cX4_rowOfDigits 55 = .ok (.ishl, 1) := by decide +kernel
theorem dX4_rowOfDigits_56 : decode cX4_rowOfDigits 56 = .ok (.ior, 1) := by decide +kernel
theorem dX4_rowOfDigits_57 : decode cX4_rowOfDigits 57 = .ok (.istore_n 3, 1) := by decide +kernel
theorem dX4_rowOfDigits_58 : decode cX4_rowOfDigits 58 = .ok (.goto 12, 3) := by decide +kernel
theorem dX4_rowOfDigits_61 : decode cX4_rowOfDigits 61 = .ok (.iload 5, 2) := by decide +kernel
theorem dX4_rowOfDigits_63 : decode cX4_rowOfDigits 63 = .ok (.bipush 9, 2) := by decide +kernel
theorem dX4_rowOfDigits_65 : decode cX4_rowOfDigits 65 = .ok (.if_icmp .eq 5, 3) := by decide +kernel
theorem dX4_rowOfDigits_68 : decode cX4_rowOfDigits 68 = .ok (.iconst (-1), 1) := by decide +kernel
theorem dX4_rowOfDigits_69 : decode cX4_rowOfDigits 69 = .ok (.ireturn, 1) := by decide +kernel
theorem dX4_rowOfDigits_70 : decode cX4_rowOfDigits 70 = .ok (.iinc 4 (-1), 3) := by decide +kernel
theorem dX4_rowOfDigits_73 : decode cX4_rowOfDigits 73 = .ok (.goto (-55), 3) := by decide +kernel
theorem dX4_rowOfDigits_76 : decode cX4_rowOfDigits 76 = .ok (.iload_n 2, 1) := by decide +kernel
theorem dX4_rowOfDigits_77 : decode cX4_rowOfDigits 77 = .ok (.ifCond .ne 7, 3) := by decide +kernel
theorem dX4_rowOfDigits_80 : decode cX4_rowOfDigits 80 = .ok (.iload_n 3, 1) := by decide +kernel
theorem dX4_rowOfDigits_81 : decode cX4_rowOfDigits 81 = .ok (.goto 4, 3) := by decide +kernel
theorem dX4_rowOfDigits_84 : decode cX4_rowOfDigits 84 = .ok (.iconst (-1), 1) := by decide +kernel
theorem dX4_rowOfDigits_85 : decode cX4_rowOfDigits 85 = .ok (.ireturn, 1) := by decide +kernel
theorem dX4_digitsOf_0 : decode cX4_digitsOf 0 = .ok (.iconst 0, 1) := by decide +kernel
theorem dX4_digitsOf_1 : decode cX4_digitsOf 1 = .ok (.istore_n 2, 1) := by decide +kernel
theorem dX4_digitsOf_2 : decode cX4_digitsOf 2 = .ok (.iconst 0, 1) := by decide +kernel
theorem dX4_digitsOf_3 : decode cX4_digitsOf 3 = .ok (.istore_n 3, 1) := by decide +kernel
theorem dX4_digitsOf_4 : decode cX4_digitsOf 4 = .ok (.iload_n 3, 1) := by decide +kernel
theorem dX4_digitsOf_5 : decode cX4_digitsOf 5 = .ok (.aload_n 0, 1) := by decide +kernel
theorem dX4_digitsOf_6 : decode cX4_digitsOf 6 = .ok (.getfield 21, 3) := by decide +kernel
theorem dX4_digitsOf_9 : decode cX4_digitsOf 9 = .ok (.if_icmp .ge 20, 3) := by decide +kernel
theorem dX4_digitsOf_12 : decode cX4_digitsOf 12 = .ok (.iload_n 2, 1) := by decide +kernel
theorem dX4_digitsOf_13 : decode cX4_digitsOf 13 = .ok (.bipush 10, 2) := by decide +kernel
theorem dX4_digitsOf_15 : decode cX4_digitsOf 15 = .ok (.imul, 1) := by decide +kernel
theorem dX4_digitsOf_16 : decode cX4_digitsOf 16 = .ok (.iload_n 1, 1) := by decide +kernel
theorem dX4_digitsOf_17 : decode cX4_digitsOf 17 = .ok (.iload_n 3, 1) := by decide +kernel
theorem dX4_digitsOf_18 : decode cX4_digitsOf 18 = .ok (.invokestatic 44, 3) := by decide +kernel
theorem dX4_digitsOf_21 : decode cX4_digitsOf 21 = .ok (.iadd, 1) := by decide +kernel
theorem dX4_digitsOf_22 : decode cX4_digitsOf 22 = .ok (.istore_n 2, 1) := by decide +kernel
theorem dX4_digitsOf_23 : decode cX4_digitsOf 23 = .ok (.iinc 3 1, 3) := by decide +kernel
theorem dX4_digitsOf_26 : decode cX4_digitsOf 26 = .ok (.goto (-22), 3) := by decide +kernel
theorem dX4_digitsOf_29 : decode cX4_digitsOf 29 = .ok (.iload_n 2, 1) := by decide +kernel
theorem dX4_digitsOf_30 : decode cX4_digitsOf 30 = .ok (.ireturn, 1) := by decide +kernel
theorem dX4_fieldSize_0 : decode cX4_fieldSize 0 = .ok (.aload_n 0, 1) := by decide +kernel
theorem dX4_fieldSize_1 : decode cX4_fieldSize 1 = .ok (.getfield 21, 3) := by decide +kernel
theorem dX4_fieldSize_4 : decode cX4_fieldSize 4 = .ok (.iconst 1, 1) := by decide +kernel
theorem dX4_fieldSize_5 : decode cX4_fieldSize 5 = .ok (.isub, 1) := by decide +kernel
theorem dX4_fieldSize_6 : decode cX4_fieldSize 6 = .ok (.istore_n 1, 1) := by decide +kernel
theorem dX4_fieldSize_7 : decode cX4_fieldSize 7 = .ok (.iconst 0, 1) := by decide +kernel
theorem dX4_fieldSize_8 : decode cX4_fieldSize 8 = .ok (.istore_n 2, 1) := by decide +kernel
theorem dX4_fieldSize_9 : decode cX4_fieldSize 9 = .ok (.iload_n 2, 1) := by decide +kernel
theorem dX4_fieldSize_10 : decode cX4_fieldSize 10 = .ok (.aload_n 0, 1) := by decide +kernel
theorem dX4_fieldSize_11 : decode cX4_fieldSize 11 = .ok (.getfield 21, 3) := by decide +kernel
theorem dX4_fieldSize_14 : decode cX4_fieldSize 14 = .ok (.if_icmp .ge 20, 3) := by decide +kernel
theorem dX4_fieldSize_17 : decode cX4_fieldSize 17 = .ok (.iload_n 1, 1) := by decide +kernel
theorem dX4_fieldSize_18 : decode cX4_fieldSize 18 = .ok (.aload_n 0, 1) := by decide +kernel
theorem dX4_fieldSize_19 : decode cX4_fieldSize 19 = .ok (.getfield 9, 3) := by decide +kernel
theorem dX4_fieldSize_22 : decode cX4_fieldSize 22 = .ok (.iload_n 2, 1) := by decide +kernel
theorem dX4_fieldSize_23 : decode cX4_fieldSize 23 = .ok (.iaload, 1) := by decide +kernel
theorem dX4_fieldSize_24 : decode cX4_fieldSize 24 = .ok (.invokestatic 48, 3) := by decide +kernel
theorem dX4_fieldSize_27 : decode cX4_fieldSize 27 = .ok (.istore_n 1, 1) := by decide +kernel
theorem dX4_fieldSize_28 : decode cX4_fieldSize 28 = .ok (.iinc 2 1, 3) := by decide +kernel
theorem dX4_fieldSize_31 : decode cX4_fieldSize 31 = .ok (.goto (-22), 3) := by decide +kernel
theorem dX4_fieldSize_34 : decode cX4_fieldSize 34 = .ok (.iload_n 1, 1) := by decide +kernel
theorem dX4_fieldSize_35 : decode cX4_fieldSize 35 = .ok (.invokestatic 53, 3) := by decide +kernel
theorem dX4_fieldSize_38 : decode cX4_fieldSize 38 = .ok (.ireturn, 1) := by decide +kernel
theorem dX4_rowOfPolynomial_0 : decode cX4_rowOfPolynomial 0 = .ok (.iconst 0, 1) := by decide +kernel
theorem dX4_rowOfPolynomial_1 : decode cX4_rowOfPolynomial 1 = .ok (.istore_n 3, 1) := by decide +kernel
theorem dX4_rowOfPolynomial_2 : decode cX4_rowOfPolynomial 2 = .ok (.iconst 0, 1) := by decide +kernel
theorem dX4_rowOfPolynomial_3 : decode cX4_rowOfPolynomial 3 = .ok (.istore 4, 2) := by decide +kernel
theorem dX4_rowOfPolynomial_5 : decode cX4_rowOfPolynomial 5 = .ok (.iload 4, 2) := by decide +kernel
theorem dX4_rowOfPolynomial_7 : decode cX4_rowOfPolynomial 7 = .ok (.aload_n 0, 1) := by decide +kernel
theorem dX4_rowOfPolynomial_8 : decode cX4_rowOfPolynomial 8 = .ok (.getfield 21, 3) := by decide +kernel
theorem dX4_rowOfPolynomial_11 : decode cX4_rowOfPolynomial 11 = .ok (.if_icmp .ge 60, 3) := by decide +kernel
theorem dX4_rowOfPolynomial_14 : decode cX4_rowOfPolynomial 14 = .ok (.iload 4, 2) := by decide +kernel
theorem dX4_rowOfPolynomial_16 : decode cX4_rowOfPolynomial 16 = .ok (.iload_n 2, 1) := by decide +kernel
theorem dX4_rowOfPolynomial_17 : decode cX4_rowOfPolynomial 17 = .ok (.if_icmp .ge 17, 3) := by decide +kernel
theorem dX4_rowOfPolynomial_20 : decode cX4_rowOfPolynomial 20 = .ok (.iload 4, 2) := by decide +kernel
theorem dX4_rowOfPolynomial_22 : decode cX4_rowOfPolynomial 22 = .ok (.iload_n 1, 1) := by decide +kernel
theorem dX4_rowOfPolynomial_23 : decode cX4_rowOfPolynomial 23 = .ok (.aload_n 0, 1) := by decide +kernel
theorem dX4_rowOfPolynomial_24 : decode cX4_rowOfPolynomial 24 = .ok (.getfield 25, 3) := by decide +kernel
theorem dX4_rowOfPolynomial_27 : decode cX4_rowOfPolynomial 27 = .ok (.iload_n 2, 1) := by decide +kernel
theorem dX4_rowOfPolynomial_28 : decode cX4_rowOfPolynomial 28 = .ok (.invokestatic 58, 3) := by decide +kernel
theorem dX4_rowOfPolynomial_31 : decode cX4_rowOfPolynomial 31 = .ok (.goto 8, 3) := by decide +kernel
theorem dX4_rowOfPolynomial_34 : decode cX4_rowOfPolynomial 34 = .ok (.iload_n 1, 1) := by decide +kernel
theorem dX4_rowOfPolynomial_35 : decode cX4_rowOfPolynomial 35 = .ok (.iload_n 2, 1) := by decide +kernel
theorem dX4_rowOfPolynomial_36 : decode cX4_rowOfPolynomial 36 = .ok (.invokestatic 62, 3) := by decide +kernel
theorem dX4_rowOfPolynomial_39 : decode cX4_rowOfPolynomial 39 = .ok (.istore 5, 2) := by decide +kernel
theorem dX4_rowOfPolynomial_41 : decode cX4_rowOfPolynomial 41 = .ok (.iload 5, 2) := by decide +kernel
theorem dX4_rowOfPolynomial_43 : decode cX4_rowOfPolynomial 43 = .ok (.aload_n 0, 1) := by decide +kernel
theorem dX4_rowOfPolynomial_44 : decode cX4_rowOfPolynomial 44 = .ok (.getfield 9, 3) := by decide +kernel
theorem dX4_rowOfPolynomial_47 : decode cX4_rowOfPolynomial 47 = .ok (.iload 4, 2) := by decide +kernel
theorem dX4_rowOfPolynomial_49 : decode cX4_rowOfPolynomial 49 = .ok (.iaload, 1) := by decide +kernel
theorem dX4_rowOfPolynomial_50 : decode cX4_rowOfPolynomial 50 = .ok (.if_icmp .ge 15, 3) := by decide +kernel
theorem dX4_rowOfPolynomial_53 : decode cX4_rowOfPolynomial 53 = .ok (.iload_n 3, 1) := by decide +kernel
theorem dX4_rowOfPolynomial_54 : decode cX4_rowOfPolynomial 54 = .ok (.iconst 1, 1) := by decide +kernel
theorem dX4_rowOfPolynomial_55 : decode cX4_rowOfPolynomial 55 = .ok (.iconst 4, 1) := by decide +kernel
theorem dX4_rowOfPolynomial_56 : decode cX4_rowOfPolynomial 56 = .ok (.iload 4, 2) := by decide +kernel
theorem dX4_rowOfPolynomial_58 : decode cX4_rowOfPolynomial 58 = .ok (.imul, 1) := by decide +kernel
theorem dX4_rowOfPolynomial_59 : decode cX4_rowOfPolynomial 59 = .ok (.iload 5, 2) := by decide +kernel
theorem dX4_rowOfPolynomial_61 : decode cX4_rowOfPolynomial 61 = .ok (.iadd, 1) := by decide +kernel
theorem dX4_rowOfPolynomial_62 : decode cX4_rowOfPolynomial 62 = .ok (.ishl, 1) := by decide +kernel
theorem dX4_rowOfPolynomial_63 : decode cX4_rowOfPolynomial 63 = .ok (.ior, 1) := by decide +kernel
theorem dX4_rowOfPolynomial_64 : decode cX4_rowOfPolynomial 64 = .ok (.istore_n 3, 1) := by decide +kernel
theorem dX4_rowOfPolynomial_65 : decode cX4_rowOfPolynomial 65 = .ok (.iinc 4 1, 3) := by decide +kernel
theorem dX4_rowOfPolynomial_68 : decode cX4_rowOfPolynomial 68 = .ok (.goto (-63), 3) := by decide +kernel
theorem dX4_rowOfPolynomial_71 : decode cX4_rowOfPolynomial 71 = .ok (.iload_n 3, 1) := by decide +kernel
theorem dX4_rowOfPolynomial_72 : decode cX4_rowOfPolynomial 72 = .ok (.ireturn, 1) := by decide +kernel
theorem dX4_leftTo_0 : decode cX4_leftTo 0 = .ok (.aload_n 0, 1) := by decide +kernel
theorem dX4_leftTo_1 : decode cX4_leftTo 1 = .ok (.getfield 31, 3) := by decide +kernel
theorem dX4_leftTo_4 : decode cX4_leftTo 4 = .ok (.iload_n 1, 1) := by decide +kernel
theorem dX4_leftTo_5 : decode cX4_leftTo 5 = .ok (.invokestatic 34, 3) := by decide +kernel
theorem dX4_leftTo_8 : decode cX4_leftTo 8 = .ok (.iconst (-1), 1) := by decide +kernel
theorem dX4_leftTo_9 : decode cX4_leftTo 9 = .ok (.ixor, 1) := by decide +kernel
theorem dX4_leftTo_10 : decode cX4_leftTo 10 = .ok (.iand, 1) := by decide +kernel
theorem dX4_leftTo_11 : decode cX4_leftTo 11 = .ok (.iload_n 1, 1) := by decide +kernel
theorem dX4_leftTo_12 : decode cX4_leftTo 12 = .ok (.ior, 1) := by decide +kernel
theorem dX4_leftTo_13 : decode cX4_leftTo 13 = .ok (.ireturn, 1) := by decide +kernel
theorem dX4_allows_0 : decode cX4_allows 0 = .ok (.aload_n 0, 1) := by decide +kernel
theorem dX4_allows_1 : decode cX4_allows 1 = .ok (.aload_n 0, 1) := by decide +kernel
theorem dX4_allows_2 : decode cX4_allows 2 = .ok (.iload_n 1, 1) := by decide +kernel
theorem dX4_allows_3 : decode cX4_allows 3 = .ok (.invokevirtual 65, 3) := by decide +kernel
theorem dX4_allows_6 : decode cX4_allows 6 = .ok (.iconst 0, 1) := by decide +kernel
theorem dX4_allows_7 : decode cX4_allows 7 = .ok (.invokestatic 68, 3) := by decide +kernel
theorem dX4_allows_10 : decode cX4_allows 10 = .ok (.ifCond .eq 7, 3) := by decide +kernel
theorem dX4_allows_13 : decode cX4_allows 13 = .ok (.iconst 1, 1) := by decide +kernel
theorem dX4_allows_14 : decode cX4_allows 14 = .ok (.goto 4, 3) := by decide +kernel
theorem dX4_allows_17 : decode cX4_allows 17 = .ok (.iconst 0, 1) := by decide +kernel
theorem dX4_allows_18 : decode cX4_allows 18 = .ok (.ireturn, 1) := by decide +kernel
theorem dX4_levelsLeft_0 : decode cX4_levelsLeft 0 = .ok (.iconst 0, 1) := by decide +kernel
theorem dX4_levelsLeft_1 : decode cX4_levelsLeft 1 = .ok (.istore_n 3, 1) := by decide +kernel
theorem dX4_levelsLeft_2 : decode cX4_levelsLeft 2 = .ok (.iconst 0, 1) := by decide +kernel
theorem dX4_levelsLeft_3 : decode cX4_levelsLeft 3 = .ok (.istore 4, 2) := by decide +kernel
theorem dX4_levelsLeft_5 : decode cX4_levelsLeft 5 = .ok (.iload 4, 2) := by decide +kernel
theorem dX4_levelsLeft_7 : decode cX4_levelsLeft 7 = .ok (.aload_n 0, 1) := by decide +kernel
theorem dX4_levelsLeft_8 : decode cX4_levelsLeft 8 = .ok (.getfield 9, 3) := by decide +kernel
theorem dX4_levelsLeft_11 : decode cX4_levelsLeft 11 = .ok (.iload_n 2, 1) := by decide +kernel
theorem dX4_levelsLeft_12 : decode cX4_levelsLeft 12 = .ok (.iaload, 1) := by decide +kernel
theorem dX4_levelsLeft_13 : decode cX4_levelsLeft 13 = .ok (.if_icmp .ge 33, 3) := by decide +kernel
theorem dX4_levelsLeft_16 : decode cX4_levelsLeft 16 = .ok (.aload_n 0, 1) := by decide +kernel
theorem dX4_levelsLeft_17 : decode cX4_levelsLeft 17 = .ok (.iload_n 1, 1) := by decide +kernel
theorem dX4_levelsLeft_18 : decode cX4_levelsLeft 18 = .ok (.iconst 1, 1) := by decide +kernel
theorem dX4_levelsLeft_19 : decode cX4_levelsLeft 19 = .ok (.iconst 4, 1) := by decide +kernel
theorem dX4_levelsLeft_20 : decode cX4_levelsLeft 20 = .ok (.iload_n 2, 1) := by decide +kernel
theorem dX4_levelsLeft_21 : decode cX4_levelsLeft 21 = .ok (.imul, 1) := by decide +kernel
theorem dX4_levelsLeft_22 : decode cX4_levelsLeft 22 = .ok (.iload 4, 2) := by decide +kernel
theorem dX4_levelsLeft_24 : decode cX4_levelsLeft 24 = .ok (.iadd, 1) := by decide +kernel
theorem dX4_levelsLeft_25 : decode cX4_levelsLeft 25 = .ok (.ishl, 1) := by decide +kernel
theorem dX4_levelsLeft_26 : decode cX4_levelsLeft 26 = .ok (.ior, 1) := by decide +kernel
theorem dX4_levelsLeft_27 : decode cX4_levelsLeft 27 = .ok (.invokevirtual 72, 3) := by decide +kernel
theorem dX4_levelsLeft_30 : decode cX4_levelsLeft 30 = .ok (.ifCond .eq 10, 3) := by decide +kernel
theorem dX4_levelsLeft_33 : decode cX4_levelsLeft 33 = .ok (.iload_n 3, 1) := by decide +kernel
theorem dX4_levelsLeft_34 : decode cX4_levelsLeft 34 = .ok (.iconst 1, 1) := by decide +kernel
theorem dX4_levelsLeft_35 : decode cX4_levelsLeft 35 = .ok (.iload 4, 2) := by decide +kernel
theorem dX4_levelsLeft_37 : decode cX4_levelsLeft 37 = .ok (.ishl, 1) := by decide +kernel
theorem dX4_levelsLeft_38 : decode cX4_levelsLeft 38 = .ok (.ior, 1) := by decide +kernel
theorem dX4_levelsLeft_39 : decode cX4_levelsLeft 39 = .ok (.istore_n 3, 1) := by decide +kernel
theorem dX4_levelsLeft_40 : decode cX4_levelsLeft 40 = .ok (.iinc 4 1, 3) := by decide +kernel
theorem dX4_levelsLeft_43 : decode cX4_levelsLeft 43 = .ok (.goto (-38), 3) := by decide +kernel
theorem dX4_levelsLeft_46 : decode cX4_levelsLeft 46 = .ok (.iload_n 3, 1) := by decide +kernel
theorem dX4_levelsLeft_47 : decode cX4_levelsLeft 47 = .ok (.ireturn, 1) := by decide +kernel
theorem dX4_lawfulNear_0 : decode cX4_lawfulNear 0 = .ok (.iload_n 1, 1) := by decide +kernel
theorem dX4_lawfulNear_1 : decode cX4_lawfulNear 1 = .ok (.iload_n 2, 1) := by decide +kernel
theorem dX4_lawfulNear_2 : decode cX4_lawfulNear 2 = .ok (.invokestatic 34, 3) := by decide +kernel
theorem dX4_lawfulNear_5 : decode cX4_lawfulNear 5 = .ok (.iconst (-1), 1) := by decide +kernel
theorem dX4_lawfulNear_6 : decode cX4_lawfulNear 6 = .ok (.ixor, 1) := by decide +kernel
theorem dX4_lawfulNear_7 : decode cX4_lawfulNear 7 = .ok (.iand, 1) := by decide +kernel
theorem dX4_lawfulNear_8 : decode cX4_lawfulNear 8 = .ok (.iload_n 2, 1) := by decide +kernel
theorem dX4_lawfulNear_9 : decode cX4_lawfulNear 9 = .ok (.ior, 1) := by decide +kernel
theorem dX4_lawfulNear_10 : decode cX4_lawfulNear 10 = .ok (.istore_n 3, 1) := by decide +kernel
theorem dX4_lawfulNear_11 : decode cX4_lawfulNear 11 = .ok (.iconst 0, 1) := by decide +kernel
theorem dX4_lawfulNear_12 : decode cX4_lawfulNear 12 = .ok (.istore 4, 2) := by decide +kernel
theorem dX4_lawfulNear_14 : decode cX4_lawfulNear 14 = .ok (.iload 4, 2) := by decide +kernel
theorem dX4_lawfulNear_16 : decode cX4_lawfulNear 16 = .ok (.aload_n 0, 1) := by decide +kernel
theorem dX4_lawfulNear_17 : decode cX4_lawfulNear 17 = .ok (.getfield 28, 3) := by decide +kernel
theorem dX4_lawfulNear_20 : decode cX4_lawfulNear 20 = .ok (.if_icmp .ge 34, 3) := by decide +kernel
theorem dX4_lawfulNear_23 : decode cX4_lawfulNear 23 = .ok (.aload_n 0, 1) := by decide +kernel
theorem dX4_lawfulNear_24 : decode cX4_lawfulNear 24 = .ok (.getfield 15, 3) := by decide +kernel
theorem dX4_lawfulNear_27 : decode cX4_lawfulNear 27 = .ok (.iload 4, 2) := by decide +kernel
theorem dX4_lawfulNear_29 : decode cX4_lawfulNear 29 = .ok (.iaload, 1) := by decide +kernel
theorem dX4_lawfulNear_30 : decode cX4_lawfulNear 30 = .ok (.iload_n 3, 1) := by decide +kernel
theorem dX4_lawfulNear_31 : decode cX4_lawfulNear 31 = .ok (.iconst (-1), 1) := by decide +kernel
theorem dX4_lawfulNear_32 : decode cX4_lawfulNear 32 = .ok (.ixor, 1) := by decide +kernel
theorem dX4_lawfulNear_33 : decode cX4_lawfulNear 33 = .ok (.iand, 1) := by decide +kernel
theorem dX4_lawfulNear_34 : decode cX4_lawfulNear 34 = .ok (.ifCond .ne 14, 3) := by decide +kernel
theorem dX4_lawfulNear_37 : decode cX4_lawfulNear 37 = .ok (.aload_n 0, 1) := by decide +kernel
theorem dX4_lawfulNear_38 : decode cX4_lawfulNear 38 = .ok (.aload_n 0, 1) := by decide +kernel
theorem dX4_lawfulNear_39 : decode cX4_lawfulNear 39 = .ok (.iload_n 2, 1) := by decide +kernel
theorem dX4_lawfulNear_40 : decode cX4_lawfulNear 40 = .ok (.invokevirtual 65, 3) := by decide +kernel
theorem dX4_lawfulNear_43 : decode cX4_lawfulNear 43 = .ok (.iconst 0, 1) := by decide +kernel
theorem dX4_lawfulNear_44 : decode cX4_lawfulNear 44 = .ok (.invokestatic 68, 3) := by decide +kernel
theorem dX4_lawfulNear_47 : decode cX4_lawfulNear 47 = .ok (.ireturn, 1) := by decide +kernel
theorem dX4_lawfulNear_48 : decode cX4_lawfulNear 48 = .ok (.iinc 4 1, 3) := by decide +kernel
theorem dX4_lawfulNear_51 : decode cX4_lawfulNear 51 = .ok (.goto (-37), 3) := by decide +kernel
theorem dX4_lawfulNear_54 : decode cX4_lawfulNear 54 = .ok (.iload_n 3, 1) := by decide +kernel
theorem dX4_lawfulNear_55 : decode cX4_lawfulNear 55 = .ok (.ireturn, 1) := by decide +kernel
theorem dX4_lawfulRow_0 : decode cX4_lawfulRow 0 = .ok (.aload_n 0, 1) := by decide +kernel
theorem dX4_lawfulRow_1 : decode cX4_lawfulRow 1 = .ok (.iload_n 1, 1) := by decide +kernel
theorem dX4_lawfulRow_2 : decode cX4_lawfulRow 2 = .ok (.invokevirtual 76, 3) := by decide +kernel
theorem dX4_lawfulRow_5 : decode cX4_lawfulRow 5 = .ok (.istore_n 3, 1) := by decide +kernel
theorem dX4_lawfulRow_6 : decode cX4_lawfulRow 6 = .ok (.iload_n 3, 1) := by decide +kernel
theorem dX4_lawfulRow_7 : decode cX4_lawfulRow 7 = .ok (.ifCond .eq 9, 3) := by decide +kernel
theorem dX4_lawfulRow_10 : decode cX4_lawfulRow 10 = .ok (.iload_n 2, 1) := by decide +kernel
theorem dX4_lawfulRow_11 : decode cX4_lawfulRow 11 = .ok (.bipush 40, 2) := by decide +kernel
theorem dX4_lawfulRow_13 : decode cX4_lawfulRow 13 = .ok (.if_icmp .le 5, 3) := by decide +kernel
theorem dX4_lawfulRow_16 : decode cX4_lawfulRow 16 = .ok (.iconst 0, 1) := by decide +kernel
theorem dX4_lawfulRow_17 : decode cX4_lawfulRow 17 = .ok (.ireturn, 1) := by decide +kernel
theorem dX4_lawfulRow_18 : decode cX4_lawfulRow 18 = .ok (.aload_n 0, 1) := by decide +kernel
theorem dX4_lawfulRow_19 : decode cX4_lawfulRow 19 = .ok (.iload_n 3, 1) := by decide +kernel
theorem dX4_lawfulRow_20 : decode cX4_lawfulRow 20 = .ok (.invokevirtual 79, 3) := by decide +kernel
theorem dX4_lawfulRow_23 : decode cX4_lawfulRow 23 = .ok (.istore 4, 2) := by decide +kernel
theorem dX4_lawfulRow_25 : decode cX4_lawfulRow 25 = .ok (.iload 4, 2) := by decide +kernel
theorem dX4_lawfulRow_27 : decode cX4_lawfulRow 27 = .ok (.ifCond .ne 9, 3) := by decide +kernel
theorem dX4_lawfulRow_30 : decode cX4_lawfulRow 30 = .ok (.aload_n 0, 1) := by decide +kernel
theorem dX4_lawfulRow_31 : decode cX4_lawfulRow 31 = .ok (.iload_n 3, 1) := by decide +kernel
theorem dX4_lawfulRow_32 : decode cX4_lawfulRow 32 = .ok (.invokevirtual 82, 3) := by decide +kernel
theorem dX4_lawfulRow_35 : decode cX4_lawfulRow 35 = .ok (.ireturn, 1) := by decide +kernel
theorem dX4_lawfulRow_36 : decode cX4_lawfulRow 36 = .ok (.aload_n 0, 1) := by decide +kernel
theorem dX4_lawfulRow_37 : decode cX4_lawfulRow 37 = .ok (.iload_n 3, 1) := by decide +kernel
theorem dX4_lawfulRow_38 : decode cX4_lawfulRow 38 = .ok (.iload 4, 2) := by decide +kernel
theorem dX4_lawfulRow_40 : decode cX4_lawfulRow 40 = .ok (.iconst (-1), 1) := by decide +kernel
theorem dX4_lawfulRow_41 : decode cX4_lawfulRow 41 = .ok (.ixor, 1) := by decide +kernel
theorem dX4_lawfulRow_42 : decode cX4_lawfulRow 42 = .ok (.iand, 1) := by decide +kernel
theorem dX4_lawfulRow_43 : decode cX4_lawfulRow 43 = .ok (.iload_n 2, 1) := by decide +kernel
theorem dX4_lawfulRow_44 : decode cX4_lawfulRow 44 = .ok (.iconst 1, 1) := by decide +kernel
theorem dX4_lawfulRow_45 : decode cX4_lawfulRow 45 = .ok (.iadd, 1) := by decide +kernel
theorem dX4_lawfulRow_46 : decode cX4_lawfulRow 46 = .ok (.invokestatic 68, 3) := by decide +kernel
theorem dX4_lawfulRow_49 : decode cX4_lawfulRow 49 = .ok (.istore 5, 2) := by decide +kernel
theorem dX4_lawfulRow_51 : decode cX4_lawfulRow 51 = .ok (.iload 5, 2) := by decide +kernel
theorem dX4_lawfulRow_53 : decode cX4_lawfulRow 53 = .ok (.ifCond .eq 8, 3) := by decide +kernel
theorem dX4_lawfulRow_56 : decode cX4_lawfulRow 56 = .ok (.iload 5, 2) := by decide +kernel
theorem dX4_lawfulRow_58 : decode cX4_lawfulRow 58 = .ok (.goto 16, 3) := by decide +kernel
theorem dX4_lawfulRow_61 : decode cX4_lawfulRow 61 = .ok (.aload_n 0, 1) := by decide +kernel
theorem dX4_lawfulRow_62 : decode cX4_lawfulRow 62 = .ok (.iload_n 3, 1) := by decide +kernel
theorem dX4_lawfulRow_63 : decode cX4_lawfulRow 63 = .ok (.iload 4, 2) := by decide +kernel
theorem dX4_lawfulRow_65 : decode cX4_lawfulRow 65 = .ok (.invokestatic 85, 3) := by decide +kernel
theorem dX4_lawfulRow_68 : decode cX4_lawfulRow 68 = .ok (.iload_n 2, 1) := by decide +kernel
theorem dX4_lawfulRow_69 : decode cX4_lawfulRow 69 = .ok (.iconst 1, 1) := by decide +kernel
theorem dX4_lawfulRow_70 : decode cX4_lawfulRow 70 = .ok (.iadd, 1) := by decide +kernel
theorem dX4_lawfulRow_71 : decode cX4_lawfulRow 71 = .ok (.invokestatic 68, 3) := by decide +kernel
theorem dX4_lawfulRow_74 : decode cX4_lawfulRow 74 = .ok (.ireturn, 1) := by decide +kernel
theorem dX4_lawfulIn_0 : decode cX4_lawfulIn 0 = .ok (.aload_n 0, 1) := by decide +kernel
theorem dX4_lawfulIn_1 : decode cX4_lawfulIn 1 = .ok (.iload_n 1, 1) := by decide +kernel
theorem dX4_lawfulIn_2 : decode cX4_lawfulIn 2 = .ok (.invokevirtual 76, 3) := by decide +kernel
theorem dX4_lawfulIn_5 : decode cX4_lawfulIn 5 = .ok (.istore_n 3, 1) := by decide +kernel
theorem dX4_lawfulIn_6 : decode cX4_lawfulIn 6 = .ok (.iload_n 3, 1) := by decide +kernel
theorem dX4_lawfulIn_7 : decode cX4_lawfulIn 7 = .ok (.ifCond .eq 9, 3) := by decide +kernel
theorem dX4_lawfulIn_10 : decode cX4_lawfulIn 10 = .ok (.iload_n 2, 1) := by decide +kernel
theorem dX4_lawfulIn_11 : decode cX4_lawfulIn 11 = .ok (.bipush 40, 2) := by decide +kernel
theorem dX4_lawfulIn_13 : decode cX4_lawfulIn 13 = .ok (.if_icmp .le 5, 3) := by decide +kernel
theorem dX4_lawfulIn_16 : decode cX4_lawfulIn 16 = .ok (.iconst 0, 1) := by decide +kernel
theorem dX4_lawfulIn_17 : decode cX4_lawfulIn 17 = .ok (.ireturn, 1) := by decide +kernel
theorem dX4_lawfulIn_18 : decode cX4_lawfulIn 18 = .ok (.aload_n 0, 1) := by decide +kernel
theorem dX4_lawfulIn_19 : decode cX4_lawfulIn 19 = .ok (.iload_n 3, 1) := by decide +kernel
theorem dX4_lawfulIn_20 : decode cX4_lawfulIn 20 = .ok (.invokevirtual 79, 3) := by decide +kernel
theorem dX4_lawfulIn_23 : decode cX4_lawfulIn 23 = .ok (.istore 4, 2) := by decide +kernel
theorem dX4_lawfulIn_25 : decode cX4_lawfulIn 25 = .ok (.iload 4, 2) := by decide +kernel
theorem dX4_lawfulIn_27 : decode cX4_lawfulIn 27 = .ok (.ifCond .ne 9, 3) := by decide +kernel
theorem dX4_lawfulIn_30 : decode cX4_lawfulIn 30 = .ok (.aload_n 0, 1) := by decide +kernel
theorem dX4_lawfulIn_31 : decode cX4_lawfulIn 31 = .ok (.iload_n 3, 1) := by decide +kernel
theorem dX4_lawfulIn_32 : decode cX4_lawfulIn 32 = .ok (.invokevirtual 88, 3) := by decide +kernel
theorem dX4_lawfulIn_35 : decode cX4_lawfulIn 35 = .ok (.ireturn, 1) := by decide +kernel
theorem dX4_lawfulIn_36 : decode cX4_lawfulIn 36 = .ok (.aload_n 0, 1) := by decide +kernel
theorem dX4_lawfulIn_37 : decode cX4_lawfulIn 37 = .ok (.iload_n 3, 1) := by decide +kernel
theorem dX4_lawfulIn_38 : decode cX4_lawfulIn 38 = .ok (.iload 4, 2) := by decide +kernel
theorem dX4_lawfulIn_40 : decode cX4_lawfulIn 40 = .ok (.iconst (-1), 1) := by decide +kernel
theorem dX4_lawfulIn_41 : decode cX4_lawfulIn 41 = .ok (.ixor, 1) := by decide +kernel
theorem dX4_lawfulIn_42 : decode cX4_lawfulIn 42 = .ok (.iand, 1) := by decide +kernel
theorem dX4_lawfulIn_43 : decode cX4_lawfulIn 43 = .ok (.iload_n 2, 1) := by decide +kernel
theorem dX4_lawfulIn_44 : decode cX4_lawfulIn 44 = .ok (.iconst 1, 1) := by decide +kernel
theorem dX4_lawfulIn_45 : decode cX4_lawfulIn 45 = .ok (.iadd, 1) := by decide +kernel
theorem dX4_lawfulIn_46 : decode cX4_lawfulIn 46 = .ok (.invokestatic 91, 3) := by decide +kernel
theorem dX4_lawfulIn_49 : decode cX4_lawfulIn 49 = .ok (.aload_n 0, 1) := by decide +kernel
theorem dX4_lawfulIn_50 : decode cX4_lawfulIn 50 = .ok (.iload_n 3, 1) := by decide +kernel
theorem dX4_lawfulIn_51 : decode cX4_lawfulIn 51 = .ok (.iload 4, 2) := by decide +kernel
theorem dX4_lawfulIn_53 : decode cX4_lawfulIn 53 = .ok (.invokestatic 85, 3) := by decide +kernel
theorem dX4_lawfulIn_56 : decode cX4_lawfulIn 56 = .ok (.iload_n 2, 1) := by decide +kernel
theorem dX4_lawfulIn_57 : decode cX4_lawfulIn 57 = .ok (.iconst 1, 1) := by decide +kernel
theorem dX4_lawfulIn_58 : decode cX4_lawfulIn 58 = .ok (.iadd, 1) := by decide +kernel
theorem dX4_lawfulIn_59 : decode cX4_lawfulIn 59 = .ok (.invokestatic 91, 3) := by decide +kernel
theorem dX4_lawfulIn_62 : decode cX4_lawfulIn 62 = .ok (.iadd, 1) := by decide +kernel
theorem dX4_lawfulIn_63 : decode cX4_lawfulIn 63 = .ok (.ireturn, 1) := by decide +kernel
theorem dX4_narrow_0 : decode cX4_narrow 0 = .ok (.iload_n 1, 1) := by decide +kernel
theorem dX4_narrow_1 : decode cX4_narrow 1 = .ok (.istore_n 2, 1) := by decide +kernel
theorem dX4_narrow_2 : decode cX4_narrow 2 = .ok (.aload_n 0, 1) := by decide +kernel
theorem dX4_narrow_3 : decode cX4_narrow 3 = .ok (.getfield 28, 3) := by decide +kernel
theorem dX4_narrow_6 : decode cX4_narrow 6 = .ok (.ifCond .le 7, 3) := by decide +kernel
theorem dX4_narrow_9 : decode cX4_narrow 9 = .ok (.iconst 1, 1) := by decide +kernel
theorem dX4_narrow_10 : decode cX4_narrow 10 = .ok (.goto 4, 3) := by decide +kernel
theorem dX4_narrow_13 : decode cX4_narrow 13 = .ok (.iconst 0, 1) := by decide +kernel
theorem dX4_narrow_14 : decode cX4_narrow 14 = .ok (.istore_n 3, 1) := by decide +kernel
theorem dX4_narrow_15 : decode cX4_narrow 15 = .ok (.iconst 0, 1) := by decide +kernel
theorem dX4_narrow_16 : decode cX4_narrow 16 = .ok (.istore 4, 2) := by decide +kernel
theorem dX4_narrow_18 : decode cX4_narrow 18 = .ok (.iload_n 3, 1) := by decide +kernel
theorem dX4_narrow_19 : decode cX4_narrow 19 = .ok (.ifCond .eq 108, 3) := by decide +kernel
theorem dX4_narrow_22 : decode cX4_narrow 22 = .ok (.iload 4, 2) := by decide +kernel
theorem dX4_narrow_24 : decode cX4_narrow 24 = .ok (.bipush 40, 2) := by decide +kernel
theorem dX4_narrow_26 : decode cX4_narrow 26 = .ok (.if_icmp .ge 101, 3) := by decide +kernel
theorem dX4_narrow_29 : decode cX4_narrow 29 = .ok (.iconst 0, 1) := by decide +kernel
theorem dX4_narrow_30 : decode cX4_narrow 30 = .ok (.istore_n 3, 1) := by decide +kernel
theorem dX4_narrow_31 : decode cX4_narrow 31 = .ok (.iconst 0, 1) := by decide +kernel
theorem dX4_narrow_32 : decode cX4_narrow 32 = .ok (.istore 5, 2) := by decide +kernel
theorem dX4_narrow_34 : decode cX4_narrow 34 = .ok (.iload 5, 2) := by decide +kernel
theorem dX4_narrow_36 : decode cX4_narrow 36 = .ok (.aload_n 0, 1) := by decide +kernel
theorem dX4_narrow_37 : decode cX4_narrow 37 = .ok (.getfield 28, 3) := by decide +kernel
theorem dX4_narrow_40 : decode cX4_narrow 40 = .ok (.if_icmp .ge 81, 3) := by decide +kernel
theorem dX4_narrow_43 : decode cX4_narrow 43 = .ok (.aload_n 0, 1) := by decide +kernel
theorem dX4_narrow_44 : decode cX4_narrow 44 = .ok (.getfield 15, 3) := by decide +kernel
theorem dX4_narrow_47 : decode cX4_narrow 47 = .ok (.iload 5, 2) := by decide +kernel
theorem dX4_narrow_49 : decode cX4_narrow 49 = .ok (.iaload, 1) := by decide +kernel
theorem dX4_narrow_50 : decode cX4_narrow 50 = .ok (.iload_n 2, 1) := by decide +kernel
theorem dX4_narrow_51 : decode cX4_narrow 51 = .ok (.iconst (-1), 1) := by decide +kernel
theorem dX4_narrow_52 : decode cX4_narrow 52 = .ok (.ixor, 1) := by decide +kernel
theorem dX4_narrow_53 : decode cX4_narrow 53 = .ok (.iand, 1) := by decide +kernel
theorem dX4_narrow_54 : decode cX4_narrow 54 = .ok (.ifCond .ne 61, 3) := by decide +kernel
theorem dX4_narrow_57 : decode cX4_narrow 57 = .ok (.aload_n 0, 1) := by decide +kernel
theorem dX4_narrow_58 : decode cX4_narrow 58 = .ok (.getfield 15, 3) := by decide +kernel
theorem dX4_narrow_61 : decode cX4_narrow 61 = .ok (.iload 5, 2) := by decide +kernel
theorem dX4_narrow_63 : decode cX4_narrow 63 = .ok (.iaload, 1) := by decide +kernel
theorem dX4_narrow_64 : decode cX4_narrow 64 = .ok (.iload_n 2, 1) := by decide +kernel
theorem dX4_narrow_65 : decode cX4_narrow 65 = .ok (.aload_n 0, 1) := by decide +kernel
theorem dX4_narrow_66 : decode cX4_narrow 66 = .ok (.getfield 18, 3) := by decide +kernel
theorem dX4_narrow_69 : decode cX4_narrow 69 = .ok (.iload 5, 2) := by decide +kernel
theorem dX4_narrow_71 : decode cX4_narrow 71 = .ok (.iaload, 1) := by decide +kernel
theorem dX4_narrow_72 : decode cX4_narrow 72 = .ok (.iand, 1) := by decide +kernel
theorem dX4_narrow_73 : decode cX4_narrow 73 = .ok (.aload_n 0, 1) := by decide +kernel
theorem dX4_narrow_74 : decode cX4_narrow 74 = .ok (.getfield 15, 3) := by decide +kernel
theorem dX4_narrow_77 : decode cX4_narrow 77 = .ok (.iload 5, 2) := by decide +kernel
theorem dX4_narrow_79 : decode cX4_narrow 79 = .ok (.iaload, 1) := by decide +kernel
theorem dX4_narrow_80 : decode cX4_narrow 80 = .ok (.iconst (-1), 1) := by decide +kernel
theorem dX4_narrow_81 : decode cX4_narrow 81 = .ok (.ixor, 1) := by decide +kernel
theorem dX4_narrow_82 : decode cX4_narrow 82 = .ok (.iand, 1) := by decide +kernel
theorem dX4_narrow_83 : decode cX4_narrow 83 = .ok (.invokestatic 34, 3) := by decide +kernel
theorem dX4_narrow_86 : decode cX4_narrow 86 = .ok (.iand, 1) := by decide +kernel
theorem dX4_narrow_87 : decode cX4_narrow 87 = .ok (.istore 6, 2) := by decide +kernel
theorem dX4_narrow_89 : decode cX4_narrow 89 = .ok (.iload 6, 2) := by decide +kernel
theorem dX4_narrow_91 : decode cX4_narrow 91 = .ok (.ifCond .ne 5, 3) := by decide +kernel
theorem dX4_narrow_94 : decode cX4_narrow 94 = .ok (.iconst 0, 1) := by decide +kernel
theorem dX4_narrow_95 : decode cX4_narrow 95 = .ok (.ireturn, 1) := by decide +kernel
theorem dX4_narrow_96 : decode cX4_narrow 96 = .ok (.iload 6, 2) := by decide +kernel
theorem dX4_narrow_98 : decode cX4_narrow 98 = .ok (.iload 6, 2) := by decide +kernel
theorem dX4_narrow_100 : decode cX4_narrow 100 = .ok (.iconst 1, 1) := by decide +kernel
theorem dX4_narrow_101 : decode cX4_narrow 101 = .ok (.isub, 1) := by decide +kernel
theorem dX4_narrow_102 : decode cX4_narrow 102 = .ok (.iand, 1) := by decide +kernel
theorem dX4_narrow_103 : decode cX4_narrow 103 = .ok (.ifCond .ne 12, 3) := by decide +kernel
theorem dX4_narrow_106 : decode cX4_narrow 106 = .ok (.iload_n 2, 1) := by decide +kernel
theorem dX4_narrow_107 : decode cX4_narrow 107 = .ok (.iload 6, 2) := by decide +kernel
theorem dX4_narrow_109 : decode cX4_narrow 109 = .ok (.iconst (-1), 1) := by decide +kernel
theorem dX4_narrow_110 : decode cX4_narrow 110 = .ok (.ixor, 1) := by decide +kernel
theorem dX4_narrow_111 : decode cX4_narrow 111 = .ok (.iand, 1) := by decide +kernel
theorem dX4_narrow_112 : decode cX4_narrow 112 = .ok (.istore_n 2, 1) := by decide +kernel
theorem dX4_narrow_113 : decode cX4_narrow 113 = .ok (.iconst 1, 1) := by decide +kernel
theorem dX4_narrow_114 : decode cX4_narrow 114 = .ok (.istore_n 3, 1) := by decide +kernel
theorem dX4_narrow_115 : decode cX4_narrow 115 = .ok (.iinc 5 1, 3) := by decide +kernel
theorem dX4_narrow_118 : decode cX4_narrow 118 = .ok (.goto (-84), 3) := by decide +kernel
theorem dX4_narrow_121 : decode cX4_narrow 121 = .ok (.iinc 4 1, 3) := by decide +kernel
theorem dX4_narrow_124 : decode cX4_narrow 124 = .ok (.goto (-106), 3) := by decide +kernel
theorem dX4_narrow_127 : decode cX4_narrow 127 = .ok (.iload_n 2, 1) := by decide +kernel
theorem dX4_narrow_128 : decode cX4_narrow 128 = .ok (.ireturn, 1) := by decide +kernel
theorem dX4_openCell_0 : decode cX4_openCell 0 = .ok (.iconst 0, 1) := by decide +kernel
theorem dX4_openCell_1 : decode cX4_openCell 1 = .ok (.istore_n 2, 1) := by decide +kernel
theorem dX4_openCell_2 : decode cX4_openCell 2 = .ok (.iload_n 2, 1) := by decide +kernel
theorem dX4_openCell_3 : decode cX4_openCell 3 = .ok (.aload_n 0, 1) := by decide +kernel
theorem dX4_openCell_4 : decode cX4_openCell 4 = .ok (.getfield 28, 3) := by decide +kernel
theorem dX4_openCell_7 : decode cX4_openCell 7 = .ok (.if_icmp .ge 55, 3) := by decide +kernel
theorem dX4_openCell_10 : decode cX4_openCell 10 = .ok (.aload_n 0, 1) := by decide +kernel
theorem dX4_openCell_11 : decode cX4_openCell 11 = .ok (.getfield 15, 3) := by decide +kernel
theorem dX4_openCell_14 : decode cX4_openCell 14 = .ok (.iload_n 2, 1) := by decide +kernel
theorem dX4_openCell_15 : decode cX4_openCell 15 = .ok (.iaload, 1) := by decide +kernel
theorem dX4_openCell_16 : decode cX4_openCell 16 = .ok (.iload_n 1, 1) := by decide +kernel
theorem dX4_openCell_17 : decode cX4_openCell 17 = .ok (.iconst (-1), 1) := by decide +kernel
theorem dX4_openCell_18 : decode cX4_openCell 18 = .ok (.ixor, 1) := by decide +kernel
theorem dX4_openCell_19 : decode cX4_openCell 19 = .ok (.iand, 1) := by decide +kernel
theorem dX4_openCell_20 : decode cX4_openCell 20 = .ok (.ifCond .ne 36, 3) := by decide +kernel
theorem dX4_openCell_23 : decode cX4_openCell 23 = .ok (.aload_n 0, 1) := by decide +kernel
theorem dX4_openCell_24 : decode cX4_openCell 24 = .ok (.getfield 15, 3) := by decide +kernel
theorem dX4_openCell_27 : decode cX4_openCell 27 = .ok (.iload_n 2, 1) := by decide +kernel
theorem dX4_openCell_28 : decode cX4_openCell 28 = .ok (.iaload, 1) := by decide +kernel
theorem dX4_openCell_29 : decode cX4_openCell 29 = .ok (.iload_n 1, 1) := by decide +kernel
theorem dX4_openCell_30 : decode cX4_openCell 30 = .ok (.aload_n 0, 1) := by decide +kernel
theorem dX4_openCell_31 : decode cX4_openCell 31 = .ok (.getfield 18, 3) := by decide +kernel
theorem dX4_openCell_34 : decode cX4_openCell 34 = .ok (.iload_n 2, 1) := by decide +kernel
theorem dX4_openCell_35 : decode cX4_openCell 35 = .ok (.iaload, 1) := by decide +kernel
theorem dX4_openCell_36 : decode cX4_openCell 36 = .ok (.iand, 1) := by decide +kernel
theorem dX4_openCell_37 : decode cX4_openCell 37 = .ok (.aload_n 0, 1) := by decide +kernel
theorem dX4_openCell_38 : decode cX4_openCell 38 = .ok (.getfield 15, 3) := by decide +kernel
theorem dX4_openCell_41 : decode cX4_openCell 41 = .ok (.iload_n 2, 1) := by decide +kernel
theorem dX4_openCell_42 : decode cX4_openCell 42 = .ok (.iaload, 1) := by decide +kernel
theorem dX4_openCell_43 : decode cX4_openCell 43 = .ok (.iconst (-1), 1) := by decide +kernel
theorem dX4_openCell_44 : decode cX4_openCell 44 = .ok (.ixor, 1) := by decide +kernel
theorem dX4_openCell_45 : decode cX4_openCell 45 = .ok (.iand, 1) := by decide +kernel
theorem dX4_openCell_46 : decode cX4_openCell 46 = .ok (.invokestatic 34, 3) := by decide +kernel
theorem dX4_openCell_49 : decode cX4_openCell 49 = .ok (.iand, 1) := by decide +kernel
theorem dX4_openCell_50 : decode cX4_openCell 50 = .ok (.istore_n 3, 1) := by decide +kernel
theorem dX4_openCell_51 : decode cX4_openCell 51 = .ok (.iload_n 3, 1) := by decide +kernel
theorem dX4_openCell_52 : decode cX4_openCell 52 = .ok (.iload_n 3, 1) := by decide +kernel
theorem dX4_openCell_53 : decode cX4_openCell 53 = .ok (.ineg, 1) := by decide +kernel
theorem dX4_openCell_54 : decode cX4_openCell 54 = .ok (.iand, 1) := by decide +kernel
theorem dX4_openCell_55 : decode cX4_openCell 55 = .ok (.ireturn, 1) := by decide +kernel
theorem dX4_openCell_56 : decode cX4_openCell 56 = .ok (.iinc 2 1, 3) := by decide +kernel
theorem dX4_openCell_59 : decode cX4_openCell 59 = .ok (.goto (-57), 3) := by decide +kernel
theorem dX4_openCell_62 : decode cX4_openCell 62 = .ok (.iconst 0, 1) := by decide +kernel
theorem dX4_openCell_63 : decode cX4_openCell 63 = .ok (.ireturn, 1) := by decide +kernel
theorem dX4_withOnly_0 : decode cX4_withOnly 0 = .ok (.iload_n 0, 1) := by decide +kernel
theorem dX4_withOnly_1 : decode cX4_withOnly 1 = .ok (.iload_n 1, 1) := by decide +kernel
theorem dX4_withOnly_2 : decode cX4_withOnly 2 = .ok (.invokestatic 34, 3) := by decide +kernel
theorem dX4_withOnly_5 : decode cX4_withOnly 5 = .ok (.iconst (-1), 1) := by decide +kernel
theorem dX4_withOnly_6 : decode cX4_withOnly 6 = .ok (.ixor, 1) := by decide +kernel
theorem dX4_withOnly_7 : decode cX4_withOnly 7 = .ok (.iand, 1) := by decide +kernel
theorem dX4_withOnly_8 : decode cX4_withOnly 8 = .ok (.iload_n 1, 1) := by decide +kernel
theorem dX4_withOnly_9 : decode cX4_withOnly 9 = .ok (.ior, 1) := by decide +kernel
theorem dX4_withOnly_10 : decode cX4_withOnly 10 = .ok (.ireturn, 1) := by decide +kernel
theorem dX4_leastRow_0 : decode cX4_leastRow 0 = .ok (.iconst 0, 1) := by decide +kernel
theorem dX4_leastRow_1 : decode cX4_leastRow 1 = .ok (.istore_n 2, 1) := by decide +kernel
theorem dX4_leastRow_2 : decode cX4_leastRow 2 = .ok (.iconst 0, 1) := by decide +kernel
theorem dX4_leastRow_3 : decode cX4_leastRow 3 = .ok (.istore_n 3, 1) := by decide +kernel
theorem dX4_leastRow_4 : decode cX4_leastRow 4 = .ok (.iload_n 3, 1) := by decide +kernel
theorem dX4_leastRow_5 : decode cX4_leastRow 5 = .ok (.aload_n 0, 1) := by decide +kernel
theorem dX4_leastRow_6 : decode cX4_leastRow 6 = .ok (.getfield 21, 3) := by decide +kernel
theorem dX4_leastRow_9 : decode cX4_leastRow 9 = .ok (.if_icmp .ge 32, 3) := by decide +kernel
theorem dX4_leastRow_12 : decode cX4_leastRow 12 = .ok (.iload_n 1, 1) := by decide +kernel
theorem dX4_leastRow_13 : decode cX4_leastRow 13 = .ok (.iconst 4, 1) := by decide +kernel
theorem dX4_leastRow_14 : decode cX4_leastRow 14 = .ok (.iload_n 3, 1) := by decide +kernel
theorem dX4_leastRow_15 : decode cX4_leastRow 15 = .ok (.imul, 1) := by decide +kernel
theorem dX4_leastRow_16 : decode cX4_leastRow 16 = .ok (.iushr, 1) := by decide +kernel
theorem dX4_leastRow_17 : decode cX4_leastRow 17 = .ok (.bipush 15, 2) := by decide +kernel
theorem dX4_leastRow_19 : decode cX4_leastRow 19 = .ok (.iand, 1) := by decide +kernel
theorem dX4_leastRow_20 : decode cX4_leastRow 20 = .ok (.istore 4, 2) := by decide +kernel
theorem dX4_leastRow_22 : decode cX4_leastRow 22 = .ok (.iload_n 2, 1) := by decide +kernel
theorem dX4_leastRow_23 : decode cX4_leastRow 23 = .ok (.iload 4, 2) := by decide +kernel
theorem dX4_leastRow_25 : decode cX4_leastRow 25 = .ok (.iload 4, 2) := by decide +kernel
theorem dX4_leastRow_27 : decode cX4_leastRow 27 = .ok (.ineg, 1) := by decide +kernel
theorem dX4_leastRow_28 : decode cX4_leastRow 28 = .ok (.iand, 1) := by decide +kernel
theorem dX4_leastRow_29 : decode cX4_leastRow 29 = .ok (.iconst 4, 1) := by decide +kernel
theorem dX4_leastRow_30 : decode cX4_leastRow 30 = .ok (.iload_n 3, 1) := by decide +kernel
theorem dX4_leastRow_31 : decode cX4_leastRow 31 = .ok (.imul, 1) := by decide +kernel
theorem dX4_leastRow_32 : decode cX4_leastRow 32 = .ok (.ishl, 1) := by decide +kernel
theorem dX4_leastRow_33 : decode cX4_leastRow 33 = .ok (.ior, 1) := by decide +kernel
theorem dX4_leastRow_34 : decode cX4_leastRow 34 = .ok (.istore_n 2, 1) := by decide +kernel
theorem dX4_leastRow_35 : decode cX4_leastRow 35 = .ok (.iinc 3 1, 3) := by decide +kernel
theorem dX4_leastRow_38 : decode cX4_leastRow 38 = .ok (.goto (-34), 3) := by decide +kernel
theorem dX4_leastRow_41 : decode cX4_leastRow 41 = .ok (.iload_n 2, 1) := by decide +kernel
theorem dX4_leastRow_42 : decode cX4_leastRow 42 = .ok (.ireturn, 1) := by decide +kernel
theorem dX4_rowsIn_0 : decode cX4_rowsIn 0 = .ok (.iconst 1, 1) := by decide +kernel
theorem dX4_rowsIn_1 : decode cX4_rowsIn 1 = .ok (.istore_n 2, 1) := by decide +kernel
theorem dX4_rowsIn_2 : decode cX4_rowsIn 2 = .ok (.iconst 0, 1) := by decide +kernel
theorem dX4_rowsIn_3 : decode cX4_rowsIn 3 = .ok (.istore_n 3, 1) := by decide +kernel
theorem dX4_rowsIn_4 : decode cX4_rowsIn 4 = .ok (.iload_n 3, 1) := by decide +kernel
theorem dX4_rowsIn_5 : decode cX4_rowsIn 5 = .ok (.aload_n 0, 1) := by decide +kernel
theorem dX4_rowsIn_6 : decode cX4_rowsIn 6 = .ok (.getfield 21, 3) := by decide +kernel
theorem dX4_rowsIn_9 : decode cX4_rowsIn 9 = .ok (.if_icmp .ge 23, 3) := by decide +kernel
theorem dX4_rowsIn_12 : decode cX4_rowsIn 12 = .ok (.iload_n 2, 1) := by decide +kernel
theorem dX4_rowsIn_13 : decode cX4_rowsIn 13 = .ok (.iload_n 1, 1) := by decide +kernel
theorem dX4_rowsIn_14 : decode cX4_rowsIn 14 = .ok (.iconst 4, 1) := by decide +kernel
theorem dX4_rowsIn_15 : decode cX4_rowsIn 15 = .ok (.iload_n 3, 1) := by decide +kernel
theorem dX4_rowsIn_16 : decode cX4_rowsIn 16 = .ok (.imul, 1) := by decide +kernel
theorem dX4_rowsIn_17 : decode cX4_rowsIn 17 = .ok (.iushr, 1) := by decide +kernel
theorem dX4_rowsIn_18 : decode cX4_rowsIn 18 = .ok (.bipush 15, 2) := by decide +kernel
theorem dX4_rowsIn_20 : decode cX4_rowsIn 20 = .ok (.iand, 1) := by decide +kernel
theorem dX4_rowsIn_21 : decode cX4_rowsIn 21 = .ok (.invokestatic 94, 3) := by decide +kernel
theorem dX4_rowsIn_24 : decode cX4_rowsIn 24 = .ok (.imul, 1) := by decide +kernel
theorem dX4_rowsIn_25 : decode cX4_rowsIn 25 = .ok (.istore_n 2, 1) := by decide +kernel
theorem dX4_rowsIn_26 : decode cX4_rowsIn 26 = .ok (.iinc 3 1, 3) := by decide +kernel
theorem dX4_rowsIn_29 : decode cX4_rowsIn 29 = .ok (.goto (-25), 3) := by decide +kernel
theorem dX4_rowsIn_32 : decode cX4_rowsIn 32 = .ok (.iload_n 2, 1) := by decide +kernel
theorem dX4_rowsIn_33 : decode cX4_rowsIn 33 = .ok (.ireturn, 1) := by decide +kernel
theorem dX5_init_0 : decode cX5_init 0 = .ok (.aload_n 0, 1) := by decide +kernel
theorem dX5_init_1 : decode cX5_init 1 = .ok (.invokespecial 3, 3) := by decide +kernel
theorem dX5_init_4 : decode cX5_init 4 = .ok (.aload_n 0, 1) := by decide +kernel
theorem dX5_init_5 : decode cX5_init 5 = .ok (.new 9, 3) := by decide +kernel
theorem dX5_init_8 : decode cX5_init 8 = .ok (.dup, 1) := by decide +kernel
theorem dX5_init_9 : decode cX5_init 9 = .ok (.invokespecial 11, 3) := by decide +kernel
theorem dX5_init_12 : decode cX5_init 12 = .ok (.putfield 12, 3) := by decide +kernel
theorem dX5_init_15 : decode cX5_init 15 = .ok (.aload_n 0, 1) := by decide +kernel
theorem dX5_init_16 : decode cX5_init 16 = .ok (.new 18, 3) := by decide +kernel
theorem dX5_init_19 : decode cX5_init 19 = .ok (.dup, 1) := by decide +kernel
theorem dX5_init_20 : decode cX5_init 20 = .ok (.invokespecial 20, 3) := by decide +kernel
theorem dX5_init_23 : decode cX5_init 23 = .ok (.putfield 21, 3) := by decide +kernel
theorem dX5_init_26 : decode cX5_init 26 = .ok (.aload_n 0, 1) := by decide +kernel
theorem dX5_init_27 : decode cX5_init 27 = .ok (.iconst 0, 1) := by decide +kernel
theorem dX5_init_28 : decode cX5_init 28 = .ok (.newarray .int, 2) := by decide +kernel
theorem dX5_init_30 : decode cX5_init 30 = .ok (.putfield 25, 3) := by decide +kernel
theorem dX5_init_33 : decode cX5_init 33 = .ok (.return_, 1) := by decide +kernel
theorem dX5_read_0 : decode cX5_read 0 = .ok (.aload_n 0, 1) := by decide +kernel
theorem dX5_read_1 : decode cX5_read 1 = .ok (.aload_n 1, 1) := by decide +kernel
theorem dX5_read_2 : decode cX5_read 2 = .ok (.getfield 29, 3) := by decide +kernel
theorem dX5_read_5 : decode cX5_read 5 = .ok (.putfield 25, 3) := by decide +kernel
theorem dX5_read_8 : decode cX5_read 8 = .ok (.aload_n 0, 1) := by decide +kernel
theorem dX5_read_9 : decode cX5_read 9 = .ok (.aload_n 1, 1) := by decide +kernel
theorem dX5_read_10 : decode cX5_read 10 = .ok (.getfield 34, 3) := by decide +kernel
theorem dX5_read_13 : decode cX5_read 13 = .ok (.putfield 38, 3) := by decide +kernel
theorem dX5_read_16 : decode cX5_read 16 = .ok (.aload_n 0, 1) := by decide +kernel
theorem dX5_read_17 : decode cX5_read 17 = .ok (.iconst 0, 1) := by decide +kernel
theorem dX5_read_18 : decode cX5_read 18 = .ok (.putfield 39, 3) := by decide +kernel
theorem dX5_read_21 : decode cX5_read 21 = .ok (.aload_n 0, 1) := by decide +kernel
theorem dX5_read_22 : decode cX5_read 22 = .ok (.iconst (-1), 1) := by decide +kernel
theorem dX5_read_23 : decode cX5_read 23 = .ok (.putfield 42, 3) := by decide +kernel
theorem dX5_read_26 : decode cX5_read 26 = .ok (.aload_n 0, 1) := by decide +kernel
theorem dX5_read_27 : decode cX5_read 27 = .ok (.iconst 0, 1) := by decide +kernel
theorem dX5_read_28 : decode cX5_read 28 = .ok (.putfield 45, 3) := by decide +kernel
theorem dX5_read_31 : decode cX5_read 31 = .ok (.aload_n 0, 1) := by decide +kernel
theorem dX5_read_32 : decode cX5_read 32 = .ok (.getfield 12, 3) := by decide +kernel
theorem dX5_read_35 : decode cX5_read 35 = .ok (.invokevirtual 49, 3) := by decide +kernel
theorem dX5_read_38 : decode cX5_read 38 = .ok (.aload_n 0, 1) := by decide +kernel
theorem dX5_read_39 : decode cX5_read 39 = .ok (.invokevirtual 52, 3) := by decide +kernel
theorem dX5_read_42 : decode cX5_read 42 = .ok (.aload_n 0, 1) := by decide +kernel
theorem dX5_read_43 : decode cX5_read 43 = .ok (.invokevirtual 55, 3) := by decide +kernel
theorem dX5_read_46 : decode cX5_read 46 = .ok (.iconst 0, 1) := by decide +kernel
theorem dX5_read_47 : decode cX5_read 47 = .ok (.istore_n 2, 1) := by decide +kernel
theorem dX5_read_48 : decode cX5_read 48 = .ok (.aload_n 0, 1) := by decide +kernel
theorem dX5_read_49 : decode cX5_read 49 = .ok (.getfield 42, 3) := by decide +kernel
theorem dX5_read_52 : decode cX5_read 52 = .ok (.iconst (-1), 1) := by decide +kernel
theorem dX5_read_53 : decode cX5_read 53 = .ok (.if_icmp .ne 31, 3) := by decide +kernel
theorem dX5_read_56 : decode cX5_read 56 = .ok (.aload_n 0, 1) := by decide +kernel
theorem dX5_read_57 : decode cX5_read 57 = .ok (.getfield 39, 3) := by decide +kernel
theorem dX5_read_60 : decode cX5_read 60 = .ok (.aload_n 0, 1) := by decide +kernel
theorem dX5_read_61 : decode cX5_read 61 = .ok (.getfield 38, 3) := by decide +kernel
theorem dX5_read_64 : decode cX5_read 64 = .ok (.if_icmp .ge 20, 3) := by decide +kernel
theorem dX5_read_67 : decode cX5_read 67 = .ok (.iload_n 2, 1) := by decide +kernel
theorem dX5_read_68 : decode cX5_read 68 = .ok (.sipush 200, 3) := by decide +kernel
theorem dX5_read_71 : decode cX5_read 71 = .ok (.if_icmp .ge 13, 3) := by decide +kernel
theorem dX5_read_74 : decode cX5_read 74 = .ok (.aload_n 0, 1) := by decide +kernel
theorem dX5_read_75 : decode cX5_read 75 = .ok (.invokevirtual 58, 3) := by decide +kernel
theorem dX5_read_78 : decode cX5_read 78 = .ok (.iinc 2 1, 3) := by decide +kernel
theorem dX5_read_81 : decode cX5_read 81 = .ok (.goto (-33), 3) := by decide +kernel
theorem dX5_read_84 : decode cX5_read 84 = .ok (.aload_n 0, 1) := by decide +kernel
theorem dX5_read_85 : decode cX5_read 85 = .ok (.getfield 42, 3) := by decide +kernel
theorem dX5_read_88 : decode cX5_read 88 = .ok (.iconst (-1), 1) := by decide +kernel
theorem dX5_read_89 : decode cX5_read 89 = .ok (.if_icmp .ne 37, 3) := by decide +kernel
theorem dX5_read_92 : decode cX5_read 92 = .ok (.aload_n 0, 1) := by decide +kernel
theorem dX5_read_93 : decode cX5_read 93 = .ok (.aload_n 0, 1) := by decide +kernel
theorem dX5_read_94 : decode cX5_read 94 = .ok (.getfield 12, 3) := by decide +kernel
theorem dX5_read_97 : decode cX5_read 97 = .ok (.invokevirtual 61, 3) := by decide +kernel
theorem dX5_read_100 : decode cX5_read 100 = .ok (.sipush 1200, 3) := by decide +kernel
theorem dX5_read_103 : decode cX5_read 103 = .ok (.if_icmp .gt 14, 3) := by decide +kernel
theorem dX5_read_106 : decode cX5_read 106 = .ok (.aload_n 0, 1) := by decide +kernel
theorem dX5_read_107 : decode cX5_read 107 = .ok (.getfield 12, 3) := by decide +kernel
theorem dX5_read_110 : decode cX5_read 110 = .ok (.iconst 0, 1) := by decide +kernel
theorem dX5_read_111 : decode cX5_read 111 = .ok (.invokevirtual 65, 3) := by decide +kernel
theorem dX5_read_114 : decode cX5_read 114 = .ok (.ifCond .ne 12, 3) := by decide +kernel
theorem dX5_read_117 : decode cX5_read 117 = .ok (.aload_n 0, 1) := by decide +kernel
theorem dX5_read_118 : decode cX5_read 118 = .ok (.aload_n 0, 1) := by decide +kernel
theorem dX5_read_119 : decode cX5_read 119 = .ok (.getfield 38, 3) := by decide +kernel
theorem dX5_read_122 : decode cX5_read 122 = .ok (.iconst 4, 1) := by decide +kernel
theorem dX5_read_123 : decode cX5_read 123 = .ok (.invokevirtual 69, 3) := by decide +kernel
theorem dX5_read_126 : decode cX5_read 126 = .ok (.aload_n 0, 1) := by decide +kernel
theorem dX5_read_127 : decode cX5_read 127 = .ok (.getfield 42, 3) := by decide +kernel
theorem dX5_read_130 : decode cX5_read 130 = .ok (.ireturn, 1) := by decide +kernel
theorem dX5_mixesIfWider_0 : decode cX5_mixesIfWider 0 = .ok (.aload_n 0, 1) := by decide +kernel
theorem dX5_mixesIfWider_1 : decode cX5_mixesIfWider 1 = .ok (.getfield 12, 3) := by decide +kernel
theorem dX5_mixesIfWider_4 : decode cX5_mixesIfWider 4 = .ok (.aload_n 1, 1) := by decide +kernel
theorem dX5_mixesIfWider_5 : decode cX5_mixesIfWider 5 = .ok (.invokevirtual 73, 3) := by decide +kernel
theorem dX5_mixesIfWider_8 : decode cX5_mixesIfWider 8 = .ok (.aload_n 0, 1) := by decide +kernel
theorem dX5_mixesIfWider_9 : decode cX5_mixesIfWider 9 = .ok (.getfield 12, 3) := by decide +kernel
theorem dX5_mixesIfWider_12 : decode cX5_mixesIfWider 12 = .ok (.iload_n 2, 1) := by decide +kernel
theorem dX5_mixesIfWider_13 : decode cX5_mixesIfWider 13 = .ok (.invokevirtual 77, 3) := by decide +kernel
theorem dX5_mixesIfWider_16 : decode cX5_mixesIfWider 16 = .ok (.aload_n 0, 1) := by decide +kernel
theorem dX5_mixesIfWider_17 : decode cX5_mixesIfWider 17 = .ok (.aload_n 0, 1) := by decide +kernel
theorem dX5_mixesIfWider_18 : decode cX5_mixesIfWider 18 = .ok (.getfield 12, 3) := by decide +kernel
theorem dX5_mixesIfWider_21 : decode cX5_mixesIfWider 21 = .ok (.invokevirtual 61, 3) := by decide +kernel
theorem dX5_mixesIfWider_24 : decode cX5_mixesIfWider 24 = .ok (.ireturn, 1) := by decide +kernel
theorem dX5_mixesOf_0 : decode cX5_mixesOf 0 = .ok (.aload_n 0, 1) := by decide +kernel
theorem dX5_mixesOf_1 : decode cX5_mixesOf 1 = .ok (.getfield 21, 3) := by decide +kernel
theorem dX5_mixesOf_4 : decode cX5_mixesOf 4 = .ok (.aload_n 1, 1) := by decide +kernel
theorem dX5_mixesOf_5 : decode cX5_mixesOf 5 = .ok (.aload_n 1, 1) := by decide +kernel
theorem dX5_mixesOf_6 : decode cX5_mixesOf 6 = .ok (.getfield 81, 3) := by decide +kernel
theorem dX5_mixesOf_9 : decode cX5_mixesOf 9 = .ok (.invokevirtual 84, 3) := by decide +kernel
theorem dX5_mixesOf_12 : decode cX5_mixesOf 12 = .ok (.aload_n 0, 1) := by decide +kernel
theorem dX5_mixesOf_13 : decode cX5_mixesOf 13 = .ok (.getfield 21, 3) := by decide +kernel
theorem dX5_mixesOf_16 : decode cX5_mixesOf 16 = .ok (.getfield 88, 3) := by decide +kernel
theorem dX5_mixesOf_19 : decode cX5_mixesOf 19 = .ok (.aload_n 0, 1) := by decide +kernel
theorem dX5_mixesOf_20 : decode cX5_mixesOf 20 = .ok (.getfield 21, 3) := by decide +kernel
theorem dX5_mixesOf_23 : decode cX5_mixesOf 23 = .ok (.getfield 91, 3) := by decide +kernel
theorem dX5_mixesOf_26 : decode cX5_mixesOf 26 = .ok (.iaload, 1) := by decide +kernel
theorem dX5_mixesOf_27 : decode cX5_mixesOf 27 = .ok (.ireturn, 1) := by decide +kernel
theorem dX5_readLevels_0 : decode cX5_readLevels 0 = .ok (.aload_n 0, 1) := by decide +kernel
theorem dX5_readLevels_1 : decode cX5_readLevels 1 = .ok (.ldc 92, 2) := by decide +kernel
theorem dX5_readLevels_3 : decode cX5_readLevels 3 = .ok (.invokevirtual 94, 3) := by decide +kernel
theorem dX5_readLevels_6 : decode cX5_readLevels 6 = .ok (.iconst 0, 1) := by decide +kernel
theorem dX5_readLevels_7 : decode cX5_readLevels 7 = .ok (.istore_n 1, 1) := by decide +kernel
theorem dX5_readLevels_8 : decode cX5_readLevels 8 = .ok (.aload_n 0, 1) := by decide +kernel
theorem dX5_readLevels_9 : decode cX5_readLevels 9 = .ok (.getfield 42, 3) := by decide +kernel
theorem dX5_readLevels_12 : decode cX5_readLevels 12 = .ok (.iconst (-1), 1) := by decide +kernel
theorem dX5_readLevels_13 : decode cX5_readLevels 13 = .ok (.if_icmp .ne 67, 3) := by decide +kernel
theorem dX5_readLevels_16 : decode cX5_readLevels 16 = .ok (.iload_n 1, 1) := by decide +kernel
theorem dX5_readLevels_17 : decode cX5_readLevels 17 = .ok (.bipush 8, 2) := by decide +kernel
theorem dX5_readLevels_19 : decode cX5_readLevels 19 = .ok (.if_icmp .gt 61, 3) := by decide +kernel
theorem dX5_readLevels_22 : decode cX5_readLevels 22 = .ok (.iload_n 1, 1) := by decide +kernel
theorem dX5_readLevels_23 : decode cX5_readLevels 23 = .ok (.iconst 2, 1) := by decide +kernel
theorem dX5_readLevels_24 : decode cX5_readLevels 24 = .ok (.if_icmp .lt 10, 3) := by decide +kernel
theorem dX5_readLevels_27 : decode cX5_readLevels 27 = .ok (.aload_n 0, 1) := by decide +kernel
theorem dX5_readLevels_28 : decode cX5_readLevels 28 = .ok (.invokevirtual 98, 3) := by decide +kernel
theorem dX5_readLevels_31 : decode cX5_readLevels 31 = .ok (.ifCond .eq 49, 3) := by decide +kernel
theorem dX5_readLevels_34 : decode cX5_readLevels 34 = .ok (.aload_n 0, 1) := by decide +kernel
theorem dX5_readLevels_35 : decode cX5_readLevels 35 = .ok (.getfield 39, 3) := by decide +kernel
theorem dX5_readLevels_38 : decode cX5_readLevels 38 = .ok (.istore_n 2, 1) := by decide +kernel
theorem dX5_readLevels_39 : decode cX5_readLevels 39 = .ok (.aload_n 0, 1) := by decide +kernel
theorem dX5_readLevels_40 : decode cX5_readLevels 40 = .ok (.iconst 2, 1) := by decide +kernel
theorem dX5_readLevels_41 : decode cX5_readLevels 41 = .ok (.iconst 4, 1) := by decide +kernel
theorem dX5_readLevels_42 : decode cX5_readLevels 42 = .ok (.invokevirtual 102, 3) := by decide +kernel
theorem dX5_readLevels_45 : decode cX5_readLevels 45 = .ok (.istore_n 3, 1) := by decide +kernel
theorem dX5_readLevels_46 : decode cX5_readLevels 46 = .ok (.iload_n 1, 1) := by decide +kernel
theorem dX5_readLevels_47 : decode cX5_readLevels 47 = .ok (.bipush 8, 2) := by decide +kernel
theorem dX5_readLevels_49 : decode cX5_readLevels 49 = .ok (.if_icmp .ne 9, 3) := by decide +kernel
theorem dX5_readLevels_52 : decode cX5_readLevels 52 = .ok (.aload_n 0, 1) := by decide +kernel
theorem dX5_readLevels_53 : decode cX5_readLevels 53 = .ok (.iload_n 2, 1) := by decide +kernel
theorem dX5_readLevels_54 : decode cX5_readLevels 54 = .ok (.iconst 3, 1) := by decide +kernel
theorem dX5_readLevels_55 : decode cX5_readLevels 55 = .ok (.invokevirtual 69, 3) := by decide +kernel
theorem dX5_readLevels_58 : decode cX5_readLevels 58 = .ok (.aload_n 0, 1) := by decide +kernel
theorem dX5_readLevels_59 : decode cX5_readLevels 59 = .ok (.getfield 42, 3) := by decide +kernel
theorem dX5_readLevels_62 : decode cX5_readLevels 62 = .ok (.iconst (-1), 1) := by decide +kernel
theorem dX5_readLevels_63 : decode cX5_readLevels 63 = .ok (.if_icmp .ne 11, 3) := by decide +kernel
theorem dX5_readLevels_66 : decode cX5_readLevels 66 = .ok (.aload_n 0, 1) := by decide +kernel
theorem dX5_readLevels_67 : decode cX5_readLevels 67 = .ok (.getfield 12, 3) := by decide +kernel
theorem dX5_readLevels_70 : decode cX5_readLevels 70 = .ok (.iload_n 3, 1) := by decide +kernel
theorem dX5_readLevels_71 : decode cX5_readLevels 71 = .ok (.invokevirtual 77, 3) := by decide +kernel
theorem dX5_readLevels_74 : decode cX5_readLevels 74 = .ok (.iinc 1 1, 3) := by decide +kernel
theorem dX5_readLevels_77 : decode cX5_readLevels 77 = .ok (.goto (-69), 3) := by decide +kernel
theorem dX5_readLevels_80 : decode cX5_readLevels 80 = .ok (.return_, 1) := by decide +kernel
theorem dX5_readLine_0 : decode cX5_readLine 0 = .ok (.aload_n 0, 1) := by decide +kernel
theorem dX5_readLine_1 : decode cX5_readLine 1 = .ok (.bipush 59, 2) := by decide +kernel
theorem dX5_readLine_3 : decode cX5_readLine 3 = .ok (.invokevirtual 106, 3) := by decide +kernel
theorem dX5_readLine_6 : decode cX5_readLine 6 = .ok (.aload_n 0, 1) := by decide +kernel
theorem dX5_readLine_7 : decode cX5_readLine 7 = .ok (.getfield 42, 3) := by decide +kernel
theorem dX5_readLine_10 : decode cX5_readLine 10 = .ok (.iconst (-1), 1) := by decide +kernel
theorem dX5_readLine_11 : decode cX5_readLine 11 = .ok (.if_icmp .eq 4, 3) := by decide +kernel
theorem dX5_readLine_14 : decode cX5_readLine 14 = .ok (.return_, 1) := by decide +kernel
theorem dX5_readLine_15 : decode cX5_readLine 15 = .ok (.aload_n 0, 1) := by decide +kernel
theorem dX5_readLine_16 : decode cX5_readLine 16 = .ok (.ldc 110, 2) := by decide +kernel
theorem dX5_readLine_18 : decode cX5_readLine 18 = .ok (.invokevirtual 111, 3) := by decide +kernel
theorem dX5_readLine_21 : decode cX5_readLine 21 = .ok (.ifCond .eq 10, 3) := by decide +kernel
theorem dX5_readLine_24 : decode cX5_readLine 24 = .ok (.aload_n 0, 1) := by decide +kernel
theorem dX5_readLine_25 : decode cX5_readLine 25 = .ok (.invokevirtual 115, 3) := by decide +kernel
theorem dX5_readLine_28 : decode cX5_readLine 28 = .ok (.goto 7, 3) := by decide +kernel
theorem dX5_readLine_31 : decode cX5_readLine 31 = .ok (.aload_n 0, 1) := by decide +kernel
theorem dX5_readLine_32 : decode cX5_readLine 32 = .ok (.invokevirtual 118, 3) := by decide +kernel
theorem dX5_readLine_35 : decode cX5_readLine 35 = .ok (.return_, 1) := by decide +kernel
theorem dX5_readStrength_0 : decode cX5_readStrength 0 = .ok (.aload_n 0, 1) := by decide +kernel
theorem dX5_readStrength_1 : decode cX5_readStrength 1 = .ok (.getfield 45, 3) := by decide +kernel
theorem dX5_readStrength_4 : decode cX5_readStrength 4 = .ok (.ifCond .eq 12, 3) := by decide +kernel
theorem dX5_readStrength_7 : decode cX5_readStrength 7 = .ok (.aload_n 0, 1) := by decide +kernel
theorem dX5_readStrength_8 : decode cX5_readStrength 8 = .ok (.aload_n 0, 1) := by decide +kernel
theorem dX5_readStrength_9 : decode cX5_readStrength 9 = .ok (.getfield 39, 3) := by decide +kernel
theorem dX5_readStrength_12 : decode cX5_readStrength 12 = .ok (.iconst 3, 1) := by decide +kernel
theorem dX5_readStrength_13 : decode cX5_readStrength 13 = .ok (.invokevirtual 69, 3) := by decide +kernel
theorem dX5_readStrength_16 : decode cX5_readStrength 16 = .ok (.aload_n 0, 1) := by decide +kernel
theorem dX5_readStrength_17 : decode cX5_readStrength 17 = .ok (.iconst 1, 1) := by decide +kernel
theorem dX5_readStrength_18 : decode cX5_readStrength 18 = .ok (.putfield 45, 3) := by decide +kernel
theorem dX5_readStrength_21 : decode cX5_readStrength 21 = .ok (.aload_n 0, 1) := by decide +kernel
theorem dX5_readStrength_22 : decode cX5_readStrength 22 = .ok (.ldc 110, 2) := by decide +kernel
theorem dX5_readStrength_24 : decode cX5_readStrength 24 = .ok (.invokevirtual 94, 3) := by decide +kernel
theorem dX5_readStrength_27 : decode cX5_readStrength 27 = .ok (.aload_n 0, 1) := by decide +kernel
theorem dX5_readStrength_28 : decode cX5_readStrength 28 = .ok (.iconst 1, 1) := by decide +kernel
theorem dX5_readStrength_29 : decode cX5_readStrength 29 = .ok (.iconst 3, 1) := by decide +kernel
theorem dX5_readStrength_30 : decode cX5_readStrength 30 = .ok (.aload_n 0, 1) := by decide +kernel
theorem dX5_readStrength_31 : decode cX5_readStrength 31 = .ok (.getfield 12, 3) := by decide +kernel
theorem dX5_readStrength_34 : decode cX5_readStrength 34 = .ok (.getfield 121, 3) := by decide +kernel
theorem dX5_readStrength_37 : decode cX5_readStrength 37 = .ok (.invokestatic 124, 3) := by decide +kernel
theorem dX5_readStrength_40 : decode cX5_readStrength 40 = .ok (.invokevirtual 102, 3) := by decide +kernel
theorem dX5_readStrength_43 : decode cX5_readStrength 43 = .ok (.istore_n 1, 1) := by decide +kernel
theorem dX5_readStrength_44 : decode cX5_readStrength 44 = .ok (.aload_n 0, 1) := by decide +kernel
theorem dX5_readStrength_45 : decode cX5_readStrength 45 = .ok (.getfield 42, 3) := by decide +kernel
theorem dX5_readStrength_48 : decode cX5_readStrength 48 = .ok (.iconst (-1), 1) := by decide +kernel
theorem dX5_readStrength_49 : decode cX5_readStrength 49 = .ok (.if_icmp .ne 11, 3) := by decide +kernel
theorem dX5_readStrength_52 : decode cX5_readStrength 52 = .ok (.aload_n 0, 1) := by decide +kernel
theorem dX5_readStrength_53 : decode cX5_readStrength 53 = .ok (.getfield 12, 3) := by decide +kernel
theorem dX5_readStrength_56 : decode cX5_readStrength 56 = .ok (.iload_n 1, 1) := by decide +kernel
theorem dX5_readStrength_57 : decode cX5_readStrength 57 = .ok (.putfield 81, 3) := by decide +kernel
theorem dX5_readStrength_60 : decode cX5_readStrength 60 = .ok (.return_, 1) := by decide +kernel
theorem dX5_readNever_0 : decode cX5_readNever 0 = .ok (.aload_n 0, 1) := by decide +kernel
theorem dX5_readNever_1 : decode cX5_readNever 1 = .ok (.ldc 129, 2) := by decide +kernel
theorem dX5_readNever_3 : decode cX5_readNever 3 = .ok (.invokevirtual 111, 3) := by decide +kernel
theorem dX5_readNever_6 : decode cX5_readNever 6 = .ok (.ifCond .eq 24, 3) := by decide +kernel
theorem dX5_readNever_9 : decode cX5_readNever 9 = .ok (.aload_n 0, 1) := by decide +kernel
theorem dX5_readNever_10 : decode cX5_readNever 10 = .ok (.getfield 12, 3) := by decide +kernel
theorem dX5_readNever_13 : decode cX5_readNever 13 = .ok (.getfield 131, 3) := by decide +kernel
theorem dX5_readNever_16 : decode cX5_readNever 16 = .ok (.bipush 12, 2) := by decide +kernel
theorem dX5_readNever_18 : decode cX5_readNever 18 = .ok (.if_icmp .ne 12, 3) := by decide +kernel
theorem dX5_readNever_21 : decode cX5_readNever 21 = .ok (.aload_n 0, 1) := by decide +kernel
theorem dX5_readNever_22 : decode cX5_readNever 22 = .ok (.aload_n 0, 1) := by decide +kernel
theorem dX5_readNever_23 : decode cX5_readNever 23 = .ok (.getfield 39, 3) := by decide +kernel
theorem dX5_readNever_26 : decode cX5_readNever 26 = .ok (.iconst 3, 1) := by decide +kernel
theorem dX5_readNever_27 : decode cX5_readNever 27 = .ok (.invokevirtual 69, 3) := by decide +kernel
theorem dX5_readNever_30 : decode cX5_readNever 30 = .ok (.aload_n 0, 1) := by decide +kernel
theorem dX5_readNever_31 : decode cX5_readNever 31 = .ok (.ldc 129, 2) := by decide +kernel
theorem dX5_readNever_33 : decode cX5_readNever 33 = .ok (.invokevirtual 94, 3) := by decide +kernel
theorem dX5_readNever_36 : decode cX5_readNever 36 = .ok (.iconst 0, 1) := by decide +kernel
theorem dX5_readNever_37 : decode cX5_readNever 37 = .ok (.istore_n 1, 1) := by decide +kernel
theorem dX5_readNever_38 : decode cX5_readNever 38 = .ok (.iconst 1, 1) := by decide +kernel
theorem dX5_readNever_39 : decode cX5_readNever 39 = .ok (.istore_n 2, 1) := by decide +kernel
theorem dX5_readNever_40 : decode cX5_readNever 40 = .ok (.iconst 0, 1) := by decide +kernel
theorem dX5_readNever_41 : decode cX5_readNever 41 = .ok (.istore_n 3, 1) := by decide +kernel
theorem dX5_readNever_42 : decode cX5_readNever 42 = .ok (.iload_n 2, 1) := by decide +kernel
theorem dX5_readNever_43 : decode cX5_readNever 43 = .ok (.ifCond .eq 73, 3) := by decide +kernel
theorem dX5_readNever_46 : decode cX5_readNever 46 = .ok (.aload_n 0, 1) := by decide +kernel
theorem dX5_readNever_47 : decode cX5_readNever 47 = .ok (.getfield 42, 3) := by decide +kernel
theorem dX5_readNever_50 : decode cX5_readNever 50 = .ok (.iconst (-1), 1) := by decide +kernel
theorem dX5_readNever_51 : decode cX5_readNever 51 = .ok (.if_icmp .ne 65, 3) := by decide +kernel
theorem dX5_readNever_54 : decode cX5_readNever 54 = .ok (.iload_n 3, 1) := by decide +kernel
theorem dX5_readNever_55 : decode cX5_readNever 55 = .ok (.iconst 3, 1) := by decide +kernel
theorem dX5_readNever_56 : decode cX5_readNever 56 = .ok (.if_icmp .gt 60, 3) := by decide +kernel
theorem dX5_readNever_59 : decode cX5_readNever 59 = .ok (.iload_n 1, 1) := by decide +kernel
theorem dX5_readNever_60 : decode cX5_readNever 60 = .ok (.aload_n 0, 1) := by decide +kernel
theorem dX5_readNever_61 : decode cX5_readNever 61 = .ok (.iload_n 1, 1) := by decide +kernel
theorem dX5_readNever_62 : decode cX5_readNever 62 = .ok (.iload_n 3, 1) := by decide +kernel
theorem dX5_readNever_63 : decode cX5_readNever 63 = .ok (.iconst 3, 1) := by decide +kernel
theorem dX5_readNever_64 : decode cX5_readNever 64 = .ok (.if_icmp .ne 7, 3) := by decide +kernel
theorem dX5_readNever_67 : decode cX5_readNever 67 = .ok (.iconst 1, 1) := by decide +kernel
theorem dX5_readNever_68 : decode cX5_readNever 68 = .ok (.goto 4, 3) := by decide +kernel
theorem dX5_readNever_71 : decode cX5_readNever 71 = .ok (.iconst 0, 1) := by decide +kernel
theorem dX5_readNever_72 : decode cX5_readNever 72 = .ok (.invokevirtual 134, 3) := by decide +kernel
theorem dX5_readNever_75 : decode cX5_readNever 75 = .ok (.ior, 1) := by decide +kernel
theorem dX5_readNever_76 : decode cX5_readNever 76 = .ok (.istore_n 1, 1) := by decide +kernel
theorem dX5_readNever_77 : decode cX5_readNever 77 = .ok (.aload_n 0, 1) := by decide +kernel
theorem dX5_readNever_78 : decode cX5_readNever 78 = .ok (.getfield 42, 3) := by decide +kernel
theorem dX5_readNever_81 : decode cX5_readNever 81 = .ok (.iconst (-1), 1) := by decide +kernel
theorem dX5_readNever_82 : decode cX5_readNever 82 = .ok (.if_icmp .ne 16, 3) := by decide +kernel
theorem dX5_readNever_85 : decode cX5_readNever 85 = .ok (.aload_n 0, 1) := by decide +kernel
theorem dX5_readNever_86 : decode cX5_readNever 86 = .ok (.bipush 38, 2) := by decide +kernel
theorem dX5_readNever_88 : decode cX5_readNever 88 = .ok (.invokevirtual 138, 3) := by decide +kernel
theorem dX5_readNever_91 : decode cX5_readNever 91 = .ok (.ifCond .eq 7, 3) := by decide +kernel
theorem dX5_readNever_94 : decode cX5_readNever 94 = .ok (.iconst 1, 1) := by decide +kernel
theorem dX5_readNever_95 : decode cX5_readNever 95 = .ok (.goto 4, 3) := by decide +kernel
theorem dX5_readNever_98 : decode cX5_readNever 98 = .ok (.iconst 0, 1) := by decide +kernel
theorem dX5_readNever_99 : decode cX5_readNever 99 = .ok (.istore_n 2, 1) := by decide +kernel
theorem dX5_readNever_100 : decode cX5_readNever 100 = .ok (.iload_n 2, 1) := by decide +kernel
theorem dX5_readNever_101 : decode cX5_readNever 101 = .ok (.ifCond .eq 9, 3) := by decide +kernel
theorem dX5_readNever_104 : decode cX5_readNever 104 = .ok (.aload_n 0, 1) := by decide +kernel
theorem dX5_readNever_105 : decode cX5_readNever 105 = .ok (.bipush 38, 2) := by decide +kernel
theorem dX5_readNever_107 : decode cX5_readNever 107 = .ok (.invokevirtual 106, 3) := by decide +kernel
theorem dX5_readNever_110 : decode cX5_readNever 110 = .ok (.iinc 3 1, 3) := by decide +kernel
theorem dX5_readNever_113 : decode cX5_readNever 113 = .ok (.goto (-71), 3) := by decide +kernel
theorem dX5_readNever_116 : decode cX5_readNever 116 = .ok (.aload_n 0, 1) := by decide +kernel
theorem dX5_readNever_117 : decode cX5_readNever 117 = .ok (.getfield 42, 3) := by decide +kernel
theorem dX5_readNever_120 : decode cX5_readNever 120 = .ok (.iconst (-1), 1) := by decide +kernel
theorem dX5_readNever_121 : decode cX5_readNever 121 = .ok (.if_icmp .ne 11, 3) := by decide +kernel
theorem dX5_readNever_124 : decode cX5_readNever 124 = .ok (.aload_n 0, 1) := by decide +kernel
theorem dX5_readNever_125 : decode cX5_readNever 125 = .ok (.getfield 12, 3) := by decide +kernel
theorem dX5_readNever_128 : decode cX5_readNever 128 = .ok (.iload_n 1, 1) := by decide +kernel
theorem dX5_readNever_129 : decode cX5_readNever 129 = .ok (.invokevirtual 142, 3) := by decide +kernel
theorem dX5_readNever_132 : decode cX5_readNever 132 = .ok (.return_, 1) := by decide +kernel
theorem dX5_readCell_0 : decode cX5_readCell 0 = .ok (.aload_n 0, 1) := by decide +kernel
theorem dX5_readCell_1 : decode cX5_readCell 1 = .ok (.getfield 39, 3) := by decide +kernel
theorem dX5_readCell_4 : decode cX5_readCell 4 = .ok (.istore_n 3, 1) := by decide +kernel
theorem dX5_readCell_5 : decode cX5_readCell 5 = .ok (.aload_n 0, 1) := by decide +kernel
theorem dX5_readCell_6 : decode cX5_readCell 6 = .ok (.iconst 0, 1) := by decide +kernel
theorem dX5_readCell_7 : decode cX5_readCell 7 = .ok (.aload_n 0, 1) := by decide +kernel
theorem dX5_readCell_8 : decode cX5_readCell 8 = .ok (.getfield 12, 3) := by decide +kernel
theorem dX5_readCell_11 : decode cX5_readCell 11 = .ok (.getfield 121, 3) := by decide +kernel
theorem dX5_readCell_14 : decode cX5_readCell 14 = .ok (.iconst 1, 1) := by decide +kernel
theorem dX5_readCell_15 : decode cX5_readCell 15 = .ok (.isub, 1) := by decide +kernel
theorem dX5_readCell_16 : decode cX5_readCell 16 = .ok (.invokevirtual 102, 3) := by decide +kernel
theorem dX5_readCell_19 : decode cX5_readCell 19 = .ok (.istore 4, 2) := by decide +kernel
theorem dX5_readCell_21 : decode cX5_readCell 21 = .ok (.aload_n 0, 1) := by decide +kernel
theorem dX5_readCell_22 : decode cX5_readCell 22 = .ok (.getfield 42, 3) := by decide +kernel
theorem dX5_readCell_25 : decode cX5_readCell 25 = .ok (.iconst (-1), 1) := by decide +kernel
theorem dX5_readCell_26 : decode cX5_readCell 26 = .ok (.if_icmp .ne 19, 3) := by decide +kernel
theorem dX5_readCell_29 : decode cX5_readCell 29 = .ok (.iload_n 1, 1) := by decide +kernel
theorem dX5_readCell_30 : decode cX5_readCell 30 = .ok (.iload 4, 2) := by decide +kernel
theorem dX5_readCell_32 : decode cX5_readCell 32 = .ok (.invokestatic 145, 3) := by decide +kernel
theorem dX5_readCell_35 : decode cX5_readCell 35 = .ok (.iconst (-1), 1) := by decide +kernel
theorem dX5_readCell_36 : decode cX5_readCell 36 = .ok (.if_icmp .eq 9, 3) := by decide +kernel
theorem dX5_readCell_39 : decode cX5_readCell 39 = .ok (.aload_n 0, 1) := by decide +kernel
theorem dX5_readCell_40 : decode cX5_readCell 40 = .ok (.iload_n 3, 1) := by decide +kernel
theorem dX5_readCell_41 : decode cX5_readCell 41 = .ok (.iconst 2, 1) := by decide +kernel
theorem dX5_readCell_42 : decode cX5_readCell 42 = .ok (.invokevirtual 69, 3) := by decide +kernel
theorem dX5_readCell_45 : decode cX5_readCell 45 = .ok (.iload_n 2, 1) := by decide +kernel
theorem dX5_readCell_46 : decode cX5_readCell 46 = .ok (.ifCond .eq 9, 3) := by decide +kernel
theorem dX5_readCell_49 : decode cX5_readCell 49 = .ok (.aload_n 0, 1) := by decide +kernel
theorem dX5_readCell_50 : decode cX5_readCell 50 = .ok (.iload_n 3, 1) := by decide +kernel
theorem dX5_readCell_51 : decode cX5_readCell 51 = .ok (.iconst 3, 1) := by decide +kernel
theorem dX5_readCell_52 : decode cX5_readCell 52 = .ok (.invokevirtual 69, 3) := by decide +kernel
theorem dX5_readCell_55 : decode cX5_readCell 55 = .ok (.aload_n 0, 1) := by decide +kernel
theorem dX5_readCell_56 : decode cX5_readCell 56 = .ok (.bipush 46, 2) := by decide +kernel
theorem dX5_readCell_58 : decode cX5_readCell 58 = .ok (.invokevirtual 106, 3) := by decide +kernel
theorem dX5_readCell_61 : decode cX5_readCell 61 = .ok (.aload_n 0, 1) := by decide +kernel
theorem dX5_readCell_62 : decode cX5_readCell 62 = .ok (.getfield 42, 3) := by decide +kernel
theorem dX5_readCell_65 : decode cX5_readCell 65 = .ok (.iconst (-1), 1) := by decide +kernel
theorem dX5_readCell_66 : decode cX5_readCell 66 = .ok (.if_icmp .eq 5, 3) := by decide +kernel
theorem dX5_readCell_69 : decode cX5_readCell 69 = .ok (.iconst 0, 1) := by decide +kernel
theorem dX5_readCell_70 : decode cX5_readCell 70 = .ok (.ireturn, 1) := by decide +kernel
theorem dX5_readCell_71 : decode cX5_readCell 71 = .ok (.aload_n 0, 1) := by decide +kernel
theorem dX5_readCell_72 : decode cX5_readCell 72 = .ok (.iconst 0, 1) := by decide +kernel
theorem dX5_readCell_73 : decode cX5_readCell 73 = .ok (.aload_n 0, 1) := by decide +kernel
theorem dX5_readCell_74 : decode cX5_readCell 74 = .ok (.getfield 12, 3) := by decide +kernel
theorem dX5_readCell_77 : decode cX5_readCell 77 = .ok (.getfield 148, 3) := by decide +kernel
theorem dX5_readCell_80 : decode cX5_readCell 80 = .ok (.iload 4, 2) := by decide +kernel
theorem dX5_readCell_82 : decode cX5_readCell 82 = .ok (.iaload, 1) := by decide +kernel
theorem dX5_readCell_83 : decode cX5_readCell 83 = .ok (.iconst 1, 1) := by decide +kernel
theorem dX5_readCell_84 : decode cX5_readCell 84 = .ok (.isub, 1) := by decide +kernel
theorem dX5_readCell_85 : decode cX5_readCell 85 = .ok (.invokevirtual 102, 3) := by decide +kernel
theorem dX5_readCell_88 : decode cX5_readCell 88 = .ok (.istore 5, 2) := by decide +kernel
theorem dX5_readCell_90 : decode cX5_readCell 90 = .ok (.aload_n 0, 1) := by decide +kernel
theorem dX5_readCell_91 : decode cX5_readCell 91 = .ok (.getfield 42, 3) := by decide +kernel
theorem dX5_readCell_94 : decode cX5_readCell 94 = .ok (.iconst (-1), 1) := by decide +kernel
theorem dX5_readCell_95 : decode cX5_readCell 95 = .ok (.if_icmp .ne 15, 3) := by decide +kernel
theorem dX5_readCell_98 : decode cX5_readCell 98 = .ok (.iconst 1, 1) := by decide +kernel
theorem dX5_readCell_99 : decode cX5_readCell 99 = .ok (.iconst 4, 1) := by decide +kernel
theorem dX5_readCell_100 : decode cX5_readCell 100 = .ok (.iload 4, 2) := by decide +kernel
theorem dX5_readCell_102 : decode cX5_readCell 102 = .ok (.imul, 1) := by decide +kernel
theorem dX5_readCell_103 : decode cX5_readCell 103 = .ok (.iload 5, 2) := by decide +kernel
theorem dX5_readCell_105 : decode cX5_readCell 105 = .ok (.iadd, 1) := by decide +kernel
theorem dX5_readCell_106 : decode cX5_readCell 106 = .ok (.ishl, 1) := by decide +kernel
theorem dX5_readCell_107 : decode cX5_readCell 107 = .ok (.goto 4, 3) := by decide +kernel
theorem dX5_readCell_110 : decode cX5_readCell 110 = .ok (.iconst 0, 1) := by decide +kernel
theorem dX5_readCell_111 : decode cX5_readCell 111 = .ok (.ireturn, 1) := by decide +kernel
theorem dX5_fail_0 : decode cX5_fail 0 = .ok (.aload_n 0, 1) := by decide +kernel
theorem dX5_fail_1 : decode cX5_fail 1 = .ok (.getfield 42, 3) := by decide +kernel
theorem dX5_fail_4 : decode cX5_fail 4 = .ok (.iconst (-1), 1) := by decide +kernel
theorem dX5_fail_5 : decode cX5_fail 5 = .ok (.if_icmp .ne 13, 3) := by decide +kernel
theorem dX5_fail_8 : decode cX5_fail 8 = .ok (.aload_n 0, 1) := by decide +kernel
theorem dX5_fail_9 : decode cX5_fail 9 = .ok (.bipush 8, 2) := by decide +kernel
theorem dX5_fail_11 : decode cX5_fail 11 = .ok (.iload_n 1, 1) := by decide +kernel
theorem dX5_fail_12 : decode cX5_fail 12 = .ok (.imul, 1) := by decide +kernel
theorem dX5_fail_13 : decode cX5_fail 13 = .ok (.iload_n 2, 1) := by decide +kernel
theorem dX5_fail_14 : decode cX5_fail 14 = .ok (.iadd, 1) := by decide +kernel
theorem dX5_fail_15 : decode cX5_fail 15 = .ok (.putfield 42, 3) := by decide +kernel
theorem dX5_fail_18 : decode cX5_fail 18 = .ok (.return_, 1) := by decide +kernel
theorem dX5_skipBlanks_0 : decode cX5_skipBlanks 0 = .ok (.aload_n 0, 1) := by decide +kernel
theorem dX5_skipBlanks_1 : decode cX5_skipBlanks 1 = .ok (.getfield 39, 3) := by decide +kernel
theorem dX5_skipBlanks_4 : decode cX5_skipBlanks 4 = .ok (.aload_n 0, 1) := by decide +kernel
theorem dX5_skipBlanks_5 : decode cX5_skipBlanks 5 = .ok (.getfield 38, 3) := by decide +kernel
theorem dX5_skipBlanks_8 : decode cX5_skipBlanks 8 = .ok (.if_icmp .ge 30, 3) := by decide +kernel
theorem dX5_skipBlanks_11 : decode cX5_skipBlanks 11 = .ok (.aload_n 0, 1) := by decide +kernel
theorem dX5_skipBlanks_12 : decode cX5_skipBlanks 12 = .ok (.getfield 25, 3) := by decide +kernel
theorem dX5_skipBlanks_15 : decode cX5_skipBlanks 15 = .ok (.aload_n 0, 1) := by decide +kernel
theorem dX5_skipBlanks_16 : decode cX5_skipBlanks 16 = .ok (.getfield 39, 3) := by decide +kernel
theorem dX5_skipBlanks_19 : decode cX5_skipBlanks 19 = .ok (.iaload, 1) := by decide +kernel
theorem dX5_skipBlanks_20 : decode cX5_skipBlanks 20 = .ok (.bipush 32, 2) := by decide +kernel
theorem dX5_skipBlanks_22 : decode cX5_skipBlanks 22 = .ok (.if_icmp .ne 16, 3) := by decide +kernel
theorem dX5_skipBlanks_25 : decode cX5_skipBlanks 25 = .ok (.aload_n 0, 1) := by decide +kernel
theorem dX5_skipBlanks_26 : decode cX5_skipBlanks 26 = .ok (.dup, 1) := by decide +kernel
theorem dX5_skipBlanks_27 : decode cX5_skipBlanks 27 = .ok (.getfield 39, 3) := by decide +kernel
theorem dX5_skipBlanks_30 : decode cX5_skipBlanks 30 = .ok (.iconst 1, 1) := by decide +kernel
theorem dX5_skipBlanks_31 : decode cX5_skipBlanks 31 = .ok (.iadd, 1) := by decide +kernel
theorem dX5_skipBlanks_32 : decode cX5_skipBlanks 32 = .ok (.putfield 39, 3) := by decide +kernel
theorem dX5_skipBlanks_35 : decode cX5_skipBlanks 35 = .ok (.goto (-35), 3) := by decide +kernel
theorem dX5_skipBlanks_38 : decode cX5_skipBlanks 38 = .ok (.return_, 1) := by decide +kernel
theorem dX5_isByte_0 : decode cX5_isByte 0 = .ok (.aload_n 0, 1) := by decide +kernel
theorem dX5_isByte_1 : decode cX5_isByte 1 = .ok (.getfield 39, 3) := by decide +kernel
theorem dX5_isByte_4 : decode cX5_isByte 4 = .ok (.aload_n 0, 1) := by decide +kernel
theorem dX5_isByte_5 : decode cX5_isByte 5 = .ok (.getfield 38, 3) := by decide +kernel
theorem dX5_isByte_8 : decode cX5_isByte 8 = .ok (.if_icmp .ge 20, 3) := by decide +kernel
theorem dX5_isByte_11 : decode cX5_isByte 11 = .ok (.aload_n 0, 1) := by decide +kernel
theorem dX5_isByte_12 : decode cX5_isByte 12 = .ok (.getfield 25, 3) := by decide +kernel
theorem dX5_isByte_15 : decode cX5_isByte 15 = .ok (.aload_n 0, 1) := by decide +kernel
theorem dX5_isByte_16 : decode cX5_isByte 16 = .ok (.getfield 39, 3) := by decide +kernel
theorem dX5_isByte_19 : decode cX5_isByte 19 = .ok (.iaload, 1) := by decide +kernel
theorem dX5_isByte_20 : decode cX5_isByte 20 = .ok (.iload_n 1, 1) := by decide +kernel
theorem dX5_isByte_21 : decode cX5_isByte 21 = .ok (.if_icmp .ne 7, 3) := by decide +kernel
theorem dX5_isByte_24 : decode cX5_isByte 24 = .ok (.iconst 1, 1) := by decide +kernel
theorem dX5_isByte_25 : decode cX5_isByte 25 = .ok (.goto 4, 3) := by decide +kernel
theorem dX5_isByte_28 : decode cX5_isByte 28 = .ok (.iconst 0, 1) := by decide +kernel
theorem dX5_isByte_29 : decode cX5_isByte 29 = .ok (.ireturn, 1) := by decide +kernel
theorem dX5_isDigit_0 : decode cX5_isDigit 0 = .ok (.aload_n 0, 1) := by decide +kernel
theorem dX5_isDigit_1 : decode cX5_isDigit 1 = .ok (.getfield 39, 3) := by decide +kernel
theorem dX5_isDigit_4 : decode cX5_isDigit 4 = .ok (.aload_n 0, 1) := by decide +kernel
theorem dX5_isDigit_5 : decode cX5_isDigit 5 = .ok (.getfield 38, 3) := by decide +kernel
theorem dX5_isDigit_8 : decode cX5_isDigit 8 = .ok (.if_icmp .ge 35, 3) := by decide +kernel
theorem dX5_isDigit_11 : decode cX5_isDigit 11 = .ok (.aload_n 0, 1) := by decide +kernel
theorem dX5_isDigit_12 : decode cX5_isDigit 12 = .ok (.getfield 25, 3) := by decide +kernel
theorem dX5_isDigit_15 : decode cX5_isDigit 15 = .ok (.aload_n 0, 1) := by decide +kernel
theorem dX5_isDigit_16 : decode cX5_isDigit 16 = .ok (.getfield 39, 3) := by decide +kernel
theorem dX5_isDigit_19 : decode cX5_isDigit 19 = .ok (.iaload, 1) := by decide +kernel
theorem dX5_isDigit_20 : decode cX5_isDigit 20 = .ok (.bipush 48, 2) := by decide +kernel
theorem dX5_isDigit_22 : decode cX5_isDigit 22 = .ok (.if_icmp .lt 21, 3) := by decide +kernel
theorem dX5_isDigit_25 : decode cX5_isDigit 25 = .ok (.aload_n 0, 1) := by decide +kernel
theorem dX5_isDigit_26 : decode cX5_isDigit 26 = .ok (.getfield 25, 3) := by decide +kernel
theorem dX5_isDigit_29 : decode cX5_isDigit 29 = .ok (.aload_n 0, 1) := by decide +kernel
theorem dX5_isDigit_30 : decode cX5_isDigit 30 = .ok (.getfield 39, 3) := by decide +kernel
theorem dX5_isDigit_33 : decode cX5_isDigit 33 = .ok (.iaload, 1) := by decide +kernel
theorem dX5_isDigit_34 : decode cX5_isDigit 34 = .ok (.bipush 57, 2) := by decide +kernel
theorem dX5_isDigit_36 : decode cX5_isDigit 36 = .ok (.if_icmp .gt 7, 3) := by decide +kernel
theorem dX5_isDigit_39 : decode cX5_isDigit 39 = .ok (.iconst 1, 1) := by decide +kernel
theorem dX5_isDigit_40 : decode cX5_isDigit 40 = .ok (.goto 4, 3) := by decide +kernel
theorem dX5_isDigit_43 : decode cX5_isDigit 43 = .ok (.iconst 0, 1) := by decide +kernel
theorem dX5_isDigit_44 : decode cX5_isDigit 44 = .ok (.ireturn, 1) := by decide +kernel
theorem dX5_isLetter_0 : decode cX5_isLetter 0 = .ok (.iload_n 1, 1) := by decide +kernel
theorem dX5_isLetter_1 : decode cX5_isLetter 1 = .ok (.aload_n 0, 1) := by decide +kernel
theorem dX5_isLetter_2 : decode cX5_isLetter 2 = .ok (.getfield 38, 3) := by decide +kernel
theorem dX5_isLetter_5 : decode cX5_isLetter 5 = .ok (.if_icmp .ge 29, 3) := by decide +kernel
theorem dX5_isLetter_8 : decode cX5_isLetter 8 = .ok (.aload_n 0, 1) := by decide +kernel
theorem dX5_isLetter_9 : decode cX5_isLetter 9 = .ok (.getfield 25, 3) := by decide +kernel
theorem dX5_isLetter_12 : decode cX5_isLetter 12 = .ok (.iload_n 1, 1) := by decide +kernel
theorem dX5_isLetter_13 : decode cX5_isLetter 13 = .ok (.iaload, 1) := by decide +kernel
theorem dX5_isLetter_14 : decode cX5_isLetter 14 = .ok (.bipush 97, 2) := by decide +kernel
theorem dX5_isLetter_16 : decode cX5_isLetter 16 = .ok (.if_icmp .lt 18, 3) := by decide +kernel
theorem dX5_isLetter_19 : decode cX5_isLetter 19 = .ok (.aload_n 0, 1) := by decide +kernel
theorem dX5_isLetter_20 : decode cX5_isLetter 20 = .ok (.getfield 25, 3) := by decide +kernel
theorem dX5_isLetter_23 : decode cX5_isLetter 23 = .ok (.iload_n 1, 1) := by decide +kernel
theorem dX5_isLetter_24 : decode cX5_isLetter 24 = .ok (.iaload, 1) := by decide +kernel
theorem dX5_isLetter_25 : decode cX5_isLetter 25 = .ok (.bipush 122, 2) := by decide +kernel
theorem dX5_isLetter_27 : decode cX5_isLetter 27 = .ok (.if_icmp .gt 7, 3) := by decide +kernel
theorem dX5_isLetter_30 : decode cX5_isLetter 30 = .ok (.iconst 1, 1) := by decide +kernel
theorem dX5_isLetter_31 : decode cX5_isLetter 31 = .ok (.goto 4, 3) := by decide +kernel
theorem dX5_isLetter_34 : decode cX5_isLetter 34 = .ok (.iconst 0, 1) := by decide +kernel
theorem dX5_isLetter_35 : decode cX5_isLetter 35 = .ok (.ireturn, 1) := by decide +kernel
theorem dX5_isWord_0 : decode cX5_isWord 0 = .ok (.aload_n 1, 1) := by decide +kernel
theorem dX5_isWord_1 : decode cX5_isWord 1 = .ok (.invokevirtual 150, 3) := by decide +kernel
theorem dX5_isWord_4 : decode cX5_isWord 4 = .ok (.istore_n 2, 1) := by decide +kernel
theorem dX5_isWord_5 : decode cX5_isWord 5 = .ok (.iconst 0, 1) := by decide +kernel
theorem dX5_isWord_6 : decode cX5_isWord 6 = .ok (.istore_n 3, 1) := by decide +kernel
theorem dX5_isWord_7 : decode cX5_isWord 7 = .ok (.iload_n 3, 1) := by decide +kernel
theorem dX5_isWord_8 : decode cX5_isWord 8 = .ok (.iload_n 2, 1) := by decide +kernel
theorem dX5_isWord_9 : decode cX5_isWord 9 = .ok (.if_icmp .ge 43, 3) := by decide +kernel
theorem dX5_isWord_12 : decode cX5_isWord 12 = .ok (.aload_n 0, 1) := by decide +kernel
theorem dX5_isWord_13 : decode cX5_isWord 13 = .ok (.aload_n 0, 1) := by decide +kernel
theorem dX5_isWord_14 : decode cX5_isWord 14 = .ok (.getfield 39, 3) := by decide +kernel
theorem dX5_isWord_17 : decode cX5_isWord 17 = .ok (.iload_n 3, 1) := by decide +kernel
theorem dX5_isWord_18 : decode cX5_isWord 18 = .ok (.iadd, 1) := by decide +kernel
theorem dX5_isWord_19 : decode cX5_isWord 19 = .ok (.invokevirtual 156, 3) := by decide +kernel
theorem dX5_isWord_22 : decode cX5_isWord 22 = .ok (.ifCond .eq 22, 3) := by decide +kernel
theorem dX5_isWord_25 : decode cX5_isWord 25 = .ok (.aload_n 0, 1) := by decide +kernel
theorem dX5_isWord_26 : decode cX5_isWord 26 = .ok (.getfield 25, 3) := by decide +kernel
theorem dX5_isWord_29 : decode cX5_isWord 29 = .ok (.aload_n 0, 1) := by decide +kernel
theorem dX5_isWord_30 : decode cX5_isWord 30 = .ok (.getfield 39, 3) := by decide +kernel
theorem dX5_isWord_33 : decode cX5_isWord 33 = .ok (.iload_n 3, 1) := by decide +kernel
theorem dX5_isWord_34 : decode cX5_isWord 34 = .ok (.iadd, 1) := by decide +kernel
theorem dX5_isWord_35 : decode cX5_isWord 35 = .ok (.iaload, 1) := by decide +kernel
theorem dX5_isWord_36 : decode cX5_isWord 36 = .ok (.aload_n 1, 1) := by decide +kernel
theorem dX5_isWord_37 : decode cX5_isWord 37 = .ok (.iload_n 3, 1) := by decide +kernel
theorem dX5_isWord_38 : decode cX5_isWord 38 = .ok (.invokevirtual 159, 3) := by decide +kernel
theorem dX5_isWord_41 : decode cX5_isWord 41 = .ok (.if_icmp .eq 5, 3) := by decide +kernel
theorem dX5_isWord_44 : decode cX5_isWord 44 = .ok (.iconst 0, 1) := by decide +kernel
theorem dX5_isWord_45 : decode cX5_isWord 45 = .ok (.ireturn, 1) := by decide +kernel
theorem dX5_isWord_46 : decode cX5_isWord 46 = .ok (.iinc 3 1, 3) := by decide +kernel
theorem dX5_isWord_49 : decode cX5_isWord 49 = .ok (.goto (-42), 3) := by decide +kernel
theorem dX5_isWord_52 : decode cX5_isWord 52 = .ok (.aload_n 0, 1) := by decide +kernel
theorem dX5_isWord_53 : decode cX5_isWord 53 = .ok (.aload_n 0, 1) := by decide +kernel
theorem dX5_isWord_54 : decode cX5_isWord 54 = .ok (.getfield 39, 3) := by decide +kernel
theorem dX5_isWord_57 : decode cX5_isWord 57 = .ok (.iload_n 2, 1) := by decide +kernel
theorem dX5_isWord_58 : decode cX5_isWord 58 = .ok (.iadd, 1) := by decide +kernel
theorem dX5_isWord_59 : decode cX5_isWord 59 = .ok (.invokevirtual 156, 3) := by decide +kernel
theorem dX5_isWord_62 : decode cX5_isWord 62 = .ok (.ifCond .ne 7, 3) := by decide +kernel
theorem dX5_isWord_65 : decode cX5_isWord 65 = .ok (.iconst 1, 1) := by decide +kernel
theorem dX5_isWord_66 : decode cX5_isWord 66 = .ok (.goto 4, 3) := by decide +kernel
theorem dX5_isWord_69 : decode cX5_isWord 69 = .ok (.iconst 0, 1) := by decide +kernel
theorem dX5_isWord_70 : decode cX5_isWord 70 = .ok (.ireturn, 1) := by decide +kernel
theorem dX5_takeByte_0 : decode cX5_takeByte 0 = .ok (.aload_n 0, 1) := by decide +kernel
theorem dX5_takeByte_1 : decode cX5_takeByte 1 = .ok (.getfield 42, 3) := by decide +kernel
theorem dX5_takeByte_4 : decode cX5_takeByte 4 = .ok (.iconst (-1), 1) := by decide +kernel
theorem dX5_takeByte_5 : decode cX5_takeByte 5 = .ok (.if_icmp .eq 4, 3) := by decide +kernel
theorem dX5_takeByte_8 : decode cX5_takeByte 8 = .ok (.return_, 1) := by decide +kernel
theorem dX5_takeByte_9 : decode cX5_takeByte 9 = .ok (.aload_n 0, 1) := by decide +kernel
theorem dX5_takeByte_10 : decode cX5_takeByte 10 = .ok (.iload_n 1, 1) := by decide +kernel
theorem dX5_takeByte_11 : decode cX5_takeByte 11 = .ok (.invokevirtual 138, 3) := by decide +kernel
theorem dX5_takeByte_14 : decode cX5_takeByte 14 = .ok (.ifCond .ne 13, 3) := by decide +kernel
theorem dX5_takeByte_17 : decode cX5_takeByte 17 = .ok (.aload_n 0, 1) := by decide +kernel
theorem dX5_takeByte_18 : decode cX5_takeByte 18 = .ok (.aload_n 0, 1) := by decide +kernel
theorem dX5_takeByte_19 : decode cX5_takeByte 19 = .ok (.getfield 39, 3) := by decide +kernel
theorem dX5_takeByte_22 : decode cX5_takeByte 22 = .ok (.iconst 1, 1) := by decide +kernel
theorem dX5_takeByte_23 : decode cX5_takeByte 23 = .ok (.invokevirtual 69, 3) := by decide +kernel
theorem dX5_takeByte_26 : decode cX5_takeByte 26 = .ok (.return_, 1) := by decide +kernel
theorem dX5_takeByte_27 : decode cX5_takeByte 27 = .ok (.aload_n 0, 1) := by decide +kernel
theorem dX5_takeByte_28 : decode cX5_takeByte 28 = .ok (.dup, 1) := by decide +kernel
theorem dX5_takeByte_29 : decode cX5_takeByte 29 = .ok (.getfield 39, 3) := by decide +kernel
theorem dX5_takeByte_32 : decode cX5_takeByte 32 = .ok (.iconst 1, 1) := by decide +kernel
theorem dX5_takeByte_33 : decode cX5_takeByte 33 = .ok (.iadd, 1) := by decide +kernel
theorem dX5_takeByte_34 : decode cX5_takeByte 34 = .ok (.putfield 39, 3) := by decide +kernel
theorem dX5_takeByte_37 : decode cX5_takeByte 37 = .ok (.aload_n 0, 1) := by decide +kernel
theorem dX5_takeByte_38 : decode cX5_takeByte 38 = .ok (.invokevirtual 52, 3) := by decide +kernel
theorem dX5_takeByte_41 : decode cX5_takeByte 41 = .ok (.return_, 1) := by decide +kernel
theorem dX5_takeWord_0 : decode cX5_takeWord 0 = .ok (.aload_n 0, 1) := by decide +kernel
theorem dX5_takeWord_1 : decode cX5_takeWord 1 = .ok (.getfield 42, 3) := by decide +kernel
theorem dX5_takeWord_4 : decode cX5_takeWord 4 = .ok (.iconst (-1), 1) := by decide +kernel
theorem dX5_takeWord_5 : decode cX5_takeWord 5 = .ok (.if_icmp .eq 4, 3) := by decide +kernel
theorem dX5_takeWord_8 : decode cX5_takeWord 8 = .ok (.return_, 1) := by decide +kernel
theorem dX5_takeWord_9 : decode cX5_takeWord 9 = .ok (.aload_n 0, 1) := by decide +kernel
theorem dX5_takeWord_10 : decode cX5_takeWord 10 = .ok (.aload_n 1, 1) := by decide +kernel
theorem dX5_takeWord_11 : decode cX5_takeWord 11 = .ok (.invokevirtual 111, 3) := by decide +kernel
theorem dX5_takeWord_14 : decode cX5_takeWord 14 = .ok (.ifCond .ne 13, 3) := by decide +kernel
theorem dX5_takeWord_17 : decode cX5_takeWord 17 = .ok (.aload_n 0, 1) := by decide +kernel
theorem dX5_takeWord_18 : decode cX5_takeWord 18 = .ok (.aload_n 0, 1) := by decide +kernel
theorem dX5_takeWord_19 : decode cX5_takeWord 19 = .ok (.getfield 39, 3) := by decide +kernel
theorem dX5_takeWord_22 : decode cX5_takeWord 22 = .ok (.iconst 1, 1) := by decide +kernel
theorem dX5_takeWord_23 : decode cX5_takeWord 23 = .ok (.invokevirtual 69, 3) := by decide +kernel
theorem dX5_takeWord_26 : decode cX5_takeWord 26 = .ok (.return_, 1) := by decide +kernel
theorem dX5_takeWord_27 : decode cX5_takeWord 27 = .ok (.aload_n 0, 1) := by decide +kernel
theorem dX5_takeWord_28 : decode cX5_takeWord 28 = .ok (.dup, 1) := by decide +kernel
theorem dX5_takeWord_29 : decode cX5_takeWord 29 = .ok (.getfield 39, 3) := by decide +kernel
theorem dX5_takeWord_32 : decode cX5_takeWord 32 = .ok (.aload_n 1, 1) := by decide +kernel
theorem dX5_takeWord_33 : decode cX5_takeWord 33 = .ok (.invokevirtual 150, 3) := by decide +kernel
theorem dX5_takeWord_36 : decode cX5_takeWord 36 = .ok (.iadd, 1) := by decide +kernel
theorem dX5_takeWord_37 : decode cX5_takeWord 37 = .ok (.putfield 39, 3) := by decide +kernel
theorem dX5_takeWord_40 : decode cX5_takeWord 40 = .ok (.aload_n 0, 1) := by decide +kernel
theorem dX5_takeWord_41 : decode cX5_takeWord 41 = .ok (.invokevirtual 52, 3) := by decide +kernel
theorem dX5_takeWord_44 : decode cX5_takeWord 44 = .ok (.return_, 1) := by decide +kernel
theorem dX5_takeNumber_0 : decode cX5_takeNumber 0 = .ok (.aload_n 0, 1) := by decide +kernel
theorem dX5_takeNumber_1 : decode cX5_takeNumber 1 = .ok (.getfield 42, 3) := by decide +kernel
theorem dX5_takeNumber_4 : decode cX5_takeNumber 4 = .ok (.iconst (-1), 1) := by decide +kernel
theorem dX5_takeNumber_5 : decode cX5_takeNumber 5 = .ok (.if_icmp .eq 5, 3) := by decide +kernel
theorem dX5_takeNumber_8 : decode cX5_takeNumber 8 = .ok (.iconst 0, 1) := by decide +kernel
theorem dX5_takeNumber_9 : decode cX5_takeNumber 9 = .ok (.ireturn, 1) := by decide +kernel
theorem dX5_takeNumber_10 : decode cX5_takeNumber 10 = .ok (.aload_n 0, 1) := by decide +kernel
theorem dX5_takeNumber_11 : decode cX5_takeNumber 11 = .ok (.invokevirtual 98, 3) := by decide +kernel
theorem dX5_takeNumber_14 : decode cX5_takeNumber 14 = .ok (.ifCond .ne 14, 3) := by decide +kernel
theorem dX5_takeNumber_17 : decode cX5_takeNumber 17 = .ok (.aload_n 0, 1) := by decide +kernel
theorem dX5_takeNumber_18 : decode cX5_takeNumber 18 = .ok (.aload_n 0, 1) := by decide +kernel
theorem dX5_takeNumber_19 : decode cX5_takeNumber 19 = .ok (.getfield 39, 3) := by decide +kernel
theorem dX5_takeNumber_22 : decode cX5_takeNumber 22 = .ok (.iconst 1, 1) := by decide +kernel
theorem dX5_takeNumber_23 : decode cX5_takeNumber 23 = .ok (.invokevirtual 69, 3) := by decide +kernel
theorem dX5_takeNumber_26 : decode cX5_takeNumber 26 = .ok (.iconst 0, 1) := by decide +kernel
theorem dX5_takeNumber_27 : decode cX5_takeNumber 27 = .ok (.ireturn, 1) := by decide +kernel
theorem dX5_takeNumber_28 : decode cX5_takeNumber 28 = .ok (.aload_n 0, 1) := by decide +kernel
theorem dX5_takeNumber_29 : decode cX5_takeNumber 29 = .ok (.getfield 39, 3) := by decide +kernel
theorem dX5_takeNumber_32 : decode cX5_takeNumber 32 = .ok (.istore_n 3, 1) := by decide +kernel
theorem dX5_takeNumber_33 : decode cX5_takeNumber 33 = .ok (.iconst 0, 1) := by decide +kernel
theorem dX5_takeNumber_34 : decode cX5_takeNumber 34 = .ok (.istore 4, 2) := by decide +kernel
theorem dX5_takeNumber_36 : decode cX5_takeNumber 36 = .ok (.aload_n 0, 1) := by decide +kernel
theorem dX5_takeNumber_37 : decode cX5_takeNumber 37 = .ok (.getfield 39, 3) := by decide +kernel
theorem dX5_takeNumber_40 : decode cX5_takeNumber 40 = .ok (.aload_n 0, 1) := by decide +kernel
theorem dX5_takeNumber_41 : decode cX5_takeNumber 41 = .ok (.getfield 38, 3) := by decide +kernel
theorem dX5_takeNumber_44 : decode cX5_takeNumber 44 = .ok (.if_icmp .ge 49, 3) := by decide +kernel
theorem dX5_takeNumber_47 : decode cX5_takeNumber 47 = .ok (.aload_n 0, 1) := by decide +kernel
theorem dX5_takeNumber_48 : decode cX5_takeNumber 48 = .ok (.invokevirtual 98, 3) := by decide +kernel
theorem dX5_takeNumber_51 : decode cX5_takeNumber 51 = .ok (.ifCond .eq 42, 3) := by decide +kernel
theorem dX5_takeNumber_54 : decode cX5_takeNumber 54 = .ok (.sipush 1000, 3) := by decide +kernel
theorem dX5_takeNumber_57 : decode cX5_takeNumber 57 = .ok (.iload 4, 2) := by decide +kernel
theorem dX5_takeNumber_59 : decode cX5_takeNumber 59 = .ok (.bipush 10, 2) := by decide +kernel
theorem dX5_takeNumber_61 : decode cX5_takeNumber 61 = .ok (.imul, 1) := by decide +kernel
theorem dX5_takeNumber_62 : decode cX5_takeNumber 62 = .ok (.aload_n 0, 1) := by decide +kernel
theorem dX5_takeNumber_63 : decode cX5_takeNumber 63 = .ok (.getfield 25, 3) := by decide +kernel
theorem dX5_takeNumber_66 : decode cX5_takeNumber 66 = .ok (.aload_n 0, 1) := by decide +kernel
theorem dX5_takeNumber_67 : decode cX5_takeNumber 67 = .ok (.getfield 39, 3) := by decide +kernel
theorem dX5_takeNumber_70 : decode cX5_takeNumber 70 = .ok (.iaload, 1) := by decide +kernel
theorem dX5_takeNumber_71 : decode cX5_takeNumber 71 = .ok (.iadd, 1) := by decide +kernel
theorem dX5_takeNumber_72 : decode cX5_takeNumber 72 = .ok (.bipush 48, 2) := by decide +kernel
theorem dX5_takeNumber_74 : decode cX5_takeNumber 74 = .ok (.isub, 1) := by decide +kernel
theorem dX5_takeNumber_75 : decode cX5_takeNumber 75 = .ok (.invokestatic 124, 3) := by decide +kernel
theorem dX5_takeNumber_78 : decode cX5_takeNumber 78 = .ok (.istore 4, 2) := by decide +kernel
theorem dX5_takeNumber_80 : decode cX5_takeNumber 80 = .ok (.aload_n 0, 1) := by decide +kernel
theorem dX5_takeNumber_81 : decode cX5_takeNumber 81 = .ok (.dup, 1) := by decide +kernel
theorem dX5_takeNumber_82 : decode cX5_takeNumber 82 = .ok (.getfield 39, 3) := by decide +kernel
theorem dX5_takeNumber_85 : decode cX5_takeNumber 85 = .ok (.iconst 1, 1) := by decide +kernel
theorem dX5_takeNumber_86 : decode cX5_takeNumber 86 = .ok (.iadd, 1) := by decide +kernel
theorem dX5_takeNumber_87 : decode cX5_takeNumber 87 = .ok (.putfield 39, 3) := by decide +kernel
theorem dX5_takeNumber_90 : decode cX5_takeNumber 90 = .ok (.goto (-54), 3) := by decide +kernel
theorem dX5_takeNumber_93 : decode cX5_takeNumber 93 = .ok (.aload_n 0, 1) := by decide +kernel
theorem dX5_takeNumber_94 : decode cX5_takeNumber 94 = .ok (.invokevirtual 52, 3) := by decide +kernel
theorem dX5_takeNumber_97 : decode cX5_takeNumber 97 = .ok (.iload 4, 2) := by decide +kernel
theorem dX5_takeNumber_99 : decode cX5_takeNumber 99 = .ok (.iload_n 1, 1) := by decide +kernel
theorem dX5_takeNumber_100 : decode cX5_takeNumber 100 = .ok (.if_icmp .lt 9, 3) := by decide +kernel
theorem dX5_takeNumber_103 : decode cX5_takeNumber 103 = .ok (.iload 4, 2) := by decide +kernel
theorem dX5_takeNumber_105 : decode cX5_takeNumber 105 = .ok (.iload_n 2, 1) := by decide +kernel
theorem dX5_takeNumber_106 : decode cX5_takeNumber 106 = .ok (.if_icmp .le 11, 3) := by decide +kernel
theorem dX5_takeNumber_109 : decode cX5_takeNumber 109 = .ok (.aload_n 0, 1) := by decide +kernel
theorem dX5_takeNumber_110 : decode cX5_takeNumber 110 = .ok (.iload_n 3, 1) := by decide +kernel
theorem dX5_takeNumber_111 : decode cX5_takeNumber 111 = .ok (.iconst 2, 1) := by decide +kernel
theorem dX5_takeNumber_112 : decode cX5_takeNumber 112 = .ok (.invokevirtual 69, 3) := by decide +kernel
theorem dX5_takeNumber_115 : decode cX5_takeNumber 115 = .ok (.iconst 0, 1) := by decide +kernel
theorem dX5_takeNumber_116 : decode cX5_takeNumber 116 = .ok (.ireturn, 1) := by decide +kernel
theorem dX5_takeNumber_117 : decode cX5_takeNumber 117 = .ok (.iload 4, 2) := by decide +kernel
theorem dX5_takeNumber_119 : decode cX5_takeNumber 119 = .ok (.ireturn, 1) := by decide +kernel
theorem dX6_init_0 : decode cX6_init 0 = .ok (.aload_n 0, 1) := by decide +kernel
theorem dX6_init_1 : decode cX6_init 1 = .ok (.invokespecial 3, 3) := by decide +kernel
theorem dX6_init_4 : decode cX6_init 4 = .ok (.aload_n 0, 1) := by decide +kernel
theorem dX6_init_5 : decode cX6_init 5 = .ok (.sipush 1200, 3) := by decide +kernel
theorem dX6_init_8 : decode cX6_init 8 = .ok (.newarray .int, 2) := by decide +kernel
theorem dX6_init_10 : decode cX6_init 10 = .ok (.putfield 9, 3) := by decide +kernel
theorem dX6_init_13 : decode cX6_init 13 = .ok (.aload_n 0, 1) := by decide +kernel
theorem dX6_init_14 : decode cX6_init 14 = .ok (.sipush 1200, 3) := by decide +kernel
theorem dX6_init_17 : decode cX6_init 17 = .ok (.newarray .int, 2) := by decide +kernel
theorem dX6_init_19 : decode cX6_init 19 = .ok (.putfield 15, 3) := by decide +kernel
theorem dX6_init_22 : decode cX6_init 22 = .ok (.aload_n 0, 1) := by decide +kernel
theorem dX6_init_23 : decode cX6_init 23 = .ok (.sipush 1200, 3) := by decide +kernel
theorem dX6_init_26 : decode cX6_init 26 = .ok (.newarray .int, 2) := by decide +kernel
theorem dX6_init_28 : decode cX6_init 28 = .ok (.putfield 18, 3) := by decide +kernel
theorem dX6_init_31 : decode cX6_init 31 = .ok (.aload_n 0, 1) := by decide +kernel
theorem dX6_init_32 : decode cX6_init 32 = .ok (.bipush 12, 2) := by decide +kernel
theorem dX6_init_34 : decode cX6_init 34 = .ok (.newarray .int, 2) := by decide +kernel
theorem dX6_init_36 : decode cX6_init 36 = .ok (.putfield 21, 3) := by decide +kernel
theorem dX6_init_39 : decode cX6_init 39 = .ok (.return_, 1) := by decide +kernel
theorem dX6_makeRow_0 : decode cX6_makeRow 0 = .ok (.aload_n 0, 1) := by decide +kernel
theorem dX6_makeRow_1 : decode cX6_makeRow 1 = .ok (.aload_n 2, 1) := by decide +kernel
theorem dX6_makeRow_2 : decode cX6_makeRow 2 = .ok (.invokevirtual 24, 3) := by decide +kernel
theorem dX6_makeRow_5 : decode cX6_makeRow 5 = .ok (.iconst 0, 1) := by decide +kernel
theorem dX6_makeRow_6 : decode cX6_makeRow 6 = .ok (.istore_n 3, 1) := by decide +kernel
theorem dX6_makeRow_7 : decode cX6_makeRow 7 = .ok (.iconst 0, 1) := by decide +kernel
theorem dX6_makeRow_8 : decode cX6_makeRow 8 = .ok (.istore 4, 2) := by decide +kernel
theorem dX6_makeRow_10 : decode cX6_makeRow 10 = .ok (.iload 4, 2) := by decide +kernel
theorem dX6_makeRow_12 : decode cX6_makeRow 12 = .ok (.aload_n 1, 1) := by decide +kernel
theorem dX6_makeRow_13 : decode cX6_makeRow 13 = .ok (.getfield 28, 3) := by decide +kernel
theorem dX6_makeRow_16 : decode cX6_makeRow 16 = .ok (.if_icmp .ge 34, 3) := by decide +kernel
theorem dX6_makeRow_19 : decode cX6_makeRow 19 = .ok (.aload_n 0, 1) := by decide +kernel
theorem dX6_makeRow_20 : decode cX6_makeRow 20 = .ok (.aload_n 1, 1) := by decide +kernel
theorem dX6_makeRow_21 : decode cX6_makeRow 21 = .ok (.iload_n 3, 1) := by decide +kernel
theorem dX6_makeRow_22 : decode cX6_makeRow 22 = .ok (.iload 4, 2) := by decide +kernel
theorem dX6_makeRow_24 : decode cX6_makeRow 24 = .ok (.invokevirtual 34, 3) := by decide +kernel
theorem dX6_makeRow_27 : decode cX6_makeRow 27 = .ok (.istore 5, 2) := by decide +kernel
theorem dX6_makeRow_29 : decode cX6_makeRow 29 = .ok (.aload_n 0, 1) := by decide +kernel
theorem dX6_makeRow_30 : decode cX6_makeRow 30 = .ok (.aload_n 1, 1) := by decide +kernel
theorem dX6_makeRow_31 : decode cX6_makeRow 31 = .ok (.iload_n 3, 1) := by decide +kernel
theorem dX6_makeRow_32 : decode cX6_makeRow 32 = .ok (.iload 4, 2) := by decide +kernel
theorem dX6_makeRow_34 : decode cX6_makeRow 34 = .ok (.iload 5, 2) := by decide +kernel
theorem dX6_makeRow_36 : decode cX6_makeRow 36 = .ok (.invokevirtual 38, 3) := by decide +kernel
theorem dX6_makeRow_39 : decode cX6_makeRow 39 = .ok (.iload_n 3, 1) := by decide +kernel
theorem dX6_makeRow_40 : decode cX6_makeRow 40 = .ok (.iload 5, 2) := by decide +kernel
theorem dX6_makeRow_42 : decode cX6_makeRow 42 = .ok (.ior, 1) := by decide +kernel
theorem dX6_makeRow_43 : decode cX6_makeRow 43 = .ok (.istore_n 3, 1) := by decide +kernel
theorem dX6_makeRow_44 : decode cX6_makeRow 44 = .ok (.iinc 4 1, 3) := by decide +kernel
theorem dX6_makeRow_47 : decode cX6_makeRow 47 = .ok (.goto (-37), 3) := by decide +kernel
theorem dX6_makeRow_50 : decode cX6_makeRow 50 = .ok (.iload_n 3, 1) := by decide +kernel
theorem dX6_makeRow_51 : decode cX6_makeRow 51 = .ok (.ireturn, 1) := by decide +kernel
theorem dX6_hopeOf_0 : decode cX6_hopeOf 0 = .ok (.aload_n 2, 1) := by decide +kernel
theorem dX6_hopeOf_1 : decode cX6_hopeOf 1 = .ok (.aload_n 2, 1) := by decide +kernel
theorem dX6_hopeOf_2 : decode cX6_hopeOf 2 = .ok (.iload_n 1, 1) := by decide +kernel
theorem dX6_hopeOf_3 : decode cX6_hopeOf 3 = .ok (.invokevirtual 42, 3) := by decide +kernel
theorem dX6_hopeOf_6 : decode cX6_hopeOf 6 = .ok (.iconst 0, 1) := by decide +kernel
theorem dX6_hopeOf_7 : decode cX6_hopeOf 7 = .ok (.invokestatic 46, 3) := by decide +kernel
theorem dX6_hopeOf_10 : decode cX6_hopeOf 10 = .ok (.istore 4, 2) := by decide +kernel
theorem dX6_hopeOf_12 : decode cX6_hopeOf 12 = .ok (.iload 4, 2) := by decide +kernel
theorem dX6_hopeOf_14 : decode cX6_hopeOf 14 = .ok (.ifCond .ne 5, 3) := by decide +kernel
theorem dX6_hopeOf_17 : decode cX6_hopeOf 17 = .ok (.lconst 0, 1) := by decide +kernel
theorem dX6_hopeOf_18 : decode cX6_hopeOf 18 = .ok (.lreturn, 1) := by decide +kernel
theorem dX6_hopeOf_19 : decode cX6_hopeOf 19 = .ok (.lconst 0, 1) := by decide +kernel
theorem dX6_hopeOf_20 : decode cX6_hopeOf 20 = .ok (.lstore 5, 2) := by decide +kernel
theorem dX6_hopeOf_22 : decode cX6_hopeOf 22 = .ok (.iconst 0, 1) := by decide +kernel
theorem dX6_hopeOf_23 : decode cX6_hopeOf 23 = .ok (.istore 7, 2) := by decide +kernel
theorem dX6_hopeOf_25 : decode cX6_hopeOf 25 = .ok (.iload 7, 2) := by decide +kernel
theorem dX6_hopeOf_27 : decode cX6_hopeOf 27 = .ok (.aload_n 3, 1) := by decide +kernel
theorem dX6_hopeOf_28 : decode cX6_hopeOf 28 = .ok (.getfield 49, 3) := by decide +kernel
theorem dX6_hopeOf_31 : decode cX6_hopeOf 31 = .ok (.getfield 55, 3) := by decide +kernel
theorem dX6_hopeOf_34 : decode cX6_hopeOf 34 = .ok (.if_icmp .ge 123, 3) := by decide +kernel
theorem dX6_hopeOf_37 : decode cX6_hopeOf 37 = .ok (.aload_n 0, 1) := by decide +kernel
theorem dX6_hopeOf_38 : decode cX6_hopeOf 38 = .ok (.aload_n 3, 1) := by decide +kernel
theorem dX6_hopeOf_39 : decode cX6_hopeOf 39 = .ok (.getfield 49, 3) := by decide +kernel
theorem dX6_hopeOf_42 : decode cX6_hopeOf 42 = .ok (.iload 7, 2) := by decide +kernel
theorem dX6_hopeOf_44 : decode cX6_hopeOf 44 = .ok (.iload_n 1, 1) := by decide +kernel
theorem dX6_hopeOf_45 : decode cX6_hopeOf 45 = .ok (.invokevirtual 60, 3) := by decide +kernel
theorem dX6_hopeOf_48 : decode cX6_hopeOf 48 = .ok (.istore 8, 2) := by decide +kernel
theorem dX6_hopeOf_50 : decode cX6_hopeOf 50 = .ok (.aload_n 3, 1) := by decide +kernel
theorem dX6_hopeOf_51 : decode cX6_hopeOf 51 = .ok (.getfield 49, 3) := by decide +kernel
theorem dX6_hopeOf_54 : decode cX6_hopeOf 54 = .ok (.getfield 64, 3) := by decide +kernel
theorem dX6_hopeOf_57 : decode cX6_hopeOf 57 = .ok (.iload 7, 2) := by decide +kernel
theorem dX6_hopeOf_59 : decode cX6_hopeOf 59 = .ok (.iaload, 1) := by decide +kernel
theorem dX6_hopeOf_60 : decode cX6_hopeOf 60 = .ok (.istore 9, 2) := by decide +kernel
theorem dX6_hopeOf_62 : decode cX6_hopeOf 62 = .ok (.iload 9, 2) := by decide +kernel
theorem dX6_hopeOf_64 : decode cX6_hopeOf 64 = .ok (.aload_n 3, 1) := by decide +kernel
theorem dX6_hopeOf_65 : decode cX6_hopeOf 65 = .ok (.getfield 49, 3) := by decide +kernel
theorem dX6_hopeOf_68 : decode cX6_hopeOf 68 = .ok (.getfield 64, 3) := by decide +kernel
theorem dX6_hopeOf_71 : decode cX6_hopeOf 71 = .ok (.iload 7, 2) := by decide +kernel
theorem dX6_hopeOf_73 : decode cX6_hopeOf 73 = .ok (.iconst 1, 1) := by decide +kernel
theorem dX6_hopeOf_74 : decode cX6_hopeOf 74 = .ok (.iadd, 1) := by decide +kernel
theorem dX6_hopeOf_75 : decode cX6_hopeOf 75 = .ok (.iaload, 1) := by decide +kernel
theorem dX6_hopeOf_76 : decode cX6_hopeOf 76 = .ok (.if_icmp .ge 75, 3) := by decide +kernel
theorem dX6_hopeOf_79 : decode cX6_hopeOf 79 = .ok (.aload_n 3, 1) := by decide +kernel
theorem dX6_hopeOf_80 : decode cX6_hopeOf 80 = .ok (.getfield 67, 3) := by decide +kernel
theorem dX6_hopeOf_83 : decode cX6_hopeOf 83 = .ok (.iload 9, 2) := by decide +kernel
theorem dX6_hopeOf_85 : decode cX6_hopeOf 85 = .ok (.iaload, 1) := by decide +kernel
theorem dX6_hopeOf_86 : decode cX6_hopeOf 86 = .ok (.istore 10, 2) := by decide +kernel
theorem dX6_hopeOf_88 : decode cX6_hopeOf 88 = .ok (.iload_n 1, 1) := by decide +kernel
theorem dX6_hopeOf_89 : decode cX6_hopeOf 89 = .ok (.iload 10, 2) := by decide +kernel
theorem dX6_hopeOf_91 : decode cX6_hopeOf 91 = .ok (.invokestatic 70, 3) := by decide +kernel
theorem dX6_hopeOf_94 : decode cX6_hopeOf 94 = .ok (.iand, 1) := by decide +kernel
theorem dX6_hopeOf_95 : decode cX6_hopeOf 95 = .ok (.iload 10, 2) := by decide +kernel
theorem dX6_hopeOf_97 : decode cX6_hopeOf 97 = .ok (.iconst (-1), 1) := by decide +kernel
theorem dX6_hopeOf_98 : decode cX6_hopeOf 98 = .ok (.ixor, 1) := by decide +kernel
theorem dX6_hopeOf_99 : decode cX6_hopeOf 99 = .ok (.iand, 1) := by decide +kernel
theorem dX6_hopeOf_100 : decode cX6_hopeOf 100 = .ok (.ifCond .eq 7, 3) := by decide +kernel
theorem dX6_hopeOf_103 : decode cX6_hopeOf 103 = .ok (.iconst 1, 1) := by decide +kernel
theorem dX6_hopeOf_104 : decode cX6_hopeOf 104 = .ok (.goto 4, 3) := by decide +kernel
theorem dX6_hopeOf_107 : decode cX6_hopeOf 107 = .ok (.iconst 0, 1) := by decide +kernel
theorem dX6_hopeOf_108 : decode cX6_hopeOf 108 = .ok (.istore 11, 2) := by decide +kernel
theorem dX6_hopeOf_110 : decode cX6_hopeOf 110 = .ok (.iload 11, 2) := by decide +kernel
theorem dX6_hopeOf_112 : decode cX6_hopeOf 112 = .ok (.ifCond .ne 33, 3) := by decide +kernel
theorem dX6_hopeOf_115 : decode cX6_hopeOf 115 = .ok (.aload_n 3, 1) := by decide +kernel
theorem dX6_hopeOf_116 : decode cX6_hopeOf 116 = .ok (.iload 9, 2) := by decide +kernel
theorem dX6_hopeOf_118 : decode cX6_hopeOf 118 = .ok (.invokevirtual 73, 3) := by decide +kernel
theorem dX6_hopeOf_121 : decode cX6_hopeOf 121 = .ok (.ifCond .eq 24, 3) := by decide +kernel
theorem dX6_hopeOf_124 : decode cX6_hopeOf 124 = .ok (.aload_n 2, 1) := by decide +kernel
theorem dX6_hopeOf_125 : decode cX6_hopeOf 125 = .ok (.iload 4, 2) := by decide +kernel
theorem dX6_hopeOf_127 : decode cX6_hopeOf 127 = .ok (.iload_n 1, 1) := by decide +kernel
theorem dX6_hopeOf_128 : decode cX6_hopeOf 128 = .ok (.iload 10, 2) := by decide +kernel
theorem dX6_hopeOf_130 : decode cX6_hopeOf 130 = .ok (.ior, 1) := by decide +kernel
theorem dX6_hopeOf_131 : decode cX6_hopeOf 131 = .ok (.invokevirtual 77, 3) := by decide +kernel
theorem dX6_hopeOf_134 : decode cX6_hopeOf 134 = .ok (.ifCond .eq 11, 3) := by decide +kernel
theorem dX6_hopeOf_137 : decode cX6_hopeOf 137 = .ok (.lload 5, 2) := by decide +kernel
theorem dX6_hopeOf_139 : decode cX6_hopeOf 139 = .ok (.iload 8, 2) := by decide +kernel
theorem dX6_hopeOf_141 : decode cX6_hopeOf 141 = .ok (.i2l, 1) := by decide +kernel
theorem dX6_hopeOf_142 : decode cX6_hopeOf 142 = .ok (.ladd, 1) := by decide +kernel
theorem dX6_hopeOf_143 : decode cX6_hopeOf 143 = .ok (.lstore 5, 2) := by decide +kernel
theorem dX6_hopeOf_145 : decode cX6_hopeOf 145 = .ok (.iinc 9 1, 3) := by decide +kernel
theorem dX6_hopeOf_148 : decode cX6_hopeOf 148 = .ok (.goto (-86), 3) := by decide +kernel
theorem dX6_hopeOf_151 : decode cX6_hopeOf 151 = .ok (.iinc 7 1, 3) := by decide +kernel
theorem dX6_hopeOf_154 : decode cX6_hopeOf 154 = .ok (.goto (-129), 3) := by decide +kernel
theorem dX6_hopeOf_157 : decode cX6_hopeOf 157 = .ok (.lload 5, 2) := by decide +kernel
theorem dX6_hopeOf_159 : decode cX6_hopeOf 159 = .ok (.lreturn, 1) := by decide +kernel
theorem dX6_weightOf_0 : decode cX6_weightOf 0 = .ok (.iconst 1, 1) := by decide +kernel
theorem dX6_weightOf_1 : decode cX6_weightOf 1 = .ok (.istore 4, 2) := by decide +kernel
theorem dX6_weightOf_3 : decode cX6_weightOf 3 = .ok (.iconst 0, 1) := by decide +kernel
theorem dX6_weightOf_4 : decode cX6_weightOf 4 = .ok (.istore 5, 2) := by decide +kernel
theorem dX6_weightOf_6 : decode cX6_weightOf 6 = .ok (.iload 5, 2) := by decide +kernel
theorem dX6_weightOf_8 : decode cX6_weightOf 8 = .ok (.aload_n 1, 1) := by decide +kernel
theorem dX6_weightOf_9 : decode cX6_weightOf 9 = .ok (.getfield 81, 3) := by decide +kernel
theorem dX6_weightOf_12 : decode cX6_weightOf 12 = .ok (.if_icmp .ge 60, 3) := by decide +kernel
theorem dX6_weightOf_15 : decode cX6_weightOf 15 = .ok (.iload_n 3, 1) := by decide +kernel
theorem dX6_weightOf_16 : decode cX6_weightOf 16 = .ok (.aload_n 1, 1) := by decide +kernel
theorem dX6_weightOf_17 : decode cX6_weightOf 17 = .ok (.iload_n 2, 1) := by decide +kernel
theorem dX6_weightOf_18 : decode cX6_weightOf 18 = .ok (.iload 5, 2) := by decide +kernel
theorem dX6_weightOf_20 : decode cX6_weightOf 20 = .ok (.invokevirtual 84, 3) := by decide +kernel
theorem dX6_weightOf_23 : decode cX6_weightOf 23 = .ok (.invokestatic 87, 3) := by decide +kernel
theorem dX6_weightOf_26 : decode cX6_weightOf 26 = .ok (.iconst (-1), 1) := by decide +kernel
theorem dX6_weightOf_27 : decode cX6_weightOf 27 = .ok (.if_icmp .eq 7, 3) := by decide +kernel
theorem dX6_weightOf_30 : decode cX6_weightOf 30 = .ok (.iconst 1, 1) := by decide +kernel
theorem dX6_weightOf_31 : decode cX6_weightOf 31 = .ok (.goto 4, 3) := by decide +kernel
theorem dX6_weightOf_34 : decode cX6_weightOf 34 = .ok (.iconst 0, 1) := by decide +kernel
theorem dX6_weightOf_35 : decode cX6_weightOf 35 = .ok (.istore 6, 2) := by decide +kernel
theorem dX6_weightOf_37 : decode cX6_weightOf 37 = .ok (.iload 4, 2) := by decide +kernel
theorem dX6_weightOf_39 : decode cX6_weightOf 39 = .ok (.iload 6, 2) := by decide +kernel
theorem dX6_weightOf_41 : decode cX6_weightOf 41 = .ok (.ifCond .eq 8, 3) := by decide +kernel
theorem dX6_weightOf_44 : decode cX6_weightOf 44 = .ok (.bipush 60, 2) := by decide +kernel
theorem dX6_weightOf_46 : decode cX6_weightOf 46 = .ok (.goto 17, 3) := by decide +kernel
theorem dX6_weightOf_49 : decode cX6_weightOf 49 = .ok (.bipush 60, 2) := by decide +kernel
theorem dX6_weightOf_51 : decode cX6_weightOf 51 = .ok (.iconst 1, 1) := by decide +kernel
theorem dX6_weightOf_52 : decode cX6_weightOf 52 = .ok (.aload_n 1, 1) := by decide +kernel
theorem dX6_weightOf_53 : decode cX6_weightOf 53 = .ok (.iload_n 2, 1) := by decide +kernel
theorem dX6_weightOf_54 : decode cX6_weightOf 54 = .ok (.iload 5, 2) := by decide +kernel
theorem dX6_weightOf_56 : decode cX6_weightOf 56 = .ok (.invokevirtual 90, 3) := by decide +kernel
theorem dX6_weightOf_59 : decode cX6_weightOf 59 = .ok (.invokestatic 93, 3) := by decide +kernel
theorem dX6_weightOf_62 : decode cX6_weightOf 62 = .ok (.idiv, 1) := by decide +kernel
theorem dX6_weightOf_63 : decode cX6_weightOf 63 = .ok (.imul, 1) := by decide +kernel
theorem dX6_weightOf_64 : decode cX6_weightOf 64 = .ok (.istore 4, 2) := by decide +kernel
theorem dX6_weightOf_66 : decode cX6_weightOf 66 = .ok (.iinc 5 1, 3) := by decide +kernel
theorem dX6_weightOf_69 : decode cX6_weightOf 69 = .ok (.goto (-63), 3) := by decide +kernel
theorem dX6_weightOf_72 : decode cX6_weightOf 72 = .ok (.iload 4, 2) := by decide +kernel
theorem dX6_weightOf_74 : decode cX6_weightOf 74 = .ok (.ireturn, 1) := by decide +kernel
theorem dX6_gather_0 : decode cX6_gather 0 = .ok (.aload_n 0, 1) := by decide +kernel
theorem dX6_gather_1 : decode cX6_gather 1 = .ok (.iconst 0, 1) := by decide +kernel
theorem dX6_gather_2 : decode cX6_gather 2 = .ok (.putfield 98, 3) := by decide +kernel
theorem dX6_gather_5 : decode cX6_gather 5 = .ok (.iconst 0, 1) := by decide +kernel
theorem dX6_gather_6 : decode cX6_gather 6 = .ok (.istore_n 2, 1) := by decide +kernel
theorem dX6_gather_7 : decode cX6_gather 7 = .ok (.iload_n 2, 1) := by decide +kernel
theorem dX6_gather_8 : decode cX6_gather 8 = .ok (.aload_n 1, 1) := by decide +kernel
theorem dX6_gather_9 : decode cX6_gather 9 = .ok (.getfield 49, 3) := by decide +kernel
theorem dX6_gather_12 : decode cX6_gather 12 = .ok (.getfield 55, 3) := by decide +kernel
theorem dX6_gather_15 : decode cX6_gather 15 = .ok (.if_icmp .ge 114, 3) := by decide +kernel
theorem dX6_gather_18 : decode cX6_gather 18 = .ok (.aload_n 0, 1) := by decide +kernel
theorem dX6_gather_19 : decode cX6_gather 19 = .ok (.aload_n 1, 1) := by decide +kernel
theorem dX6_gather_20 : decode cX6_gather 20 = .ok (.getfield 49, 3) := by decide +kernel
theorem dX6_gather_23 : decode cX6_gather 23 = .ok (.iload_n 2, 1) := by decide +kernel
theorem dX6_gather_24 : decode cX6_gather 24 = .ok (.iconst 0, 1) := by decide +kernel
theorem dX6_gather_25 : decode cX6_gather 25 = .ok (.invokevirtual 60, 3) := by decide +kernel
theorem dX6_gather_28 : decode cX6_gather 28 = .ok (.istore_n 3, 1) := by decide +kernel
theorem dX6_gather_29 : decode cX6_gather 29 = .ok (.aload_n 1, 1) := by decide +kernel
theorem dX6_gather_30 : decode cX6_gather 30 = .ok (.getfield 49, 3) := by decide +kernel
theorem dX6_gather_33 : decode cX6_gather 33 = .ok (.getfield 64, 3) := by decide +kernel
theorem dX6_gather_36 : decode cX6_gather 36 = .ok (.iload_n 2, 1) := by decide +kernel
theorem dX6_gather_37 : decode cX6_gather 37 = .ok (.iaload, 1) := by decide +kernel
theorem dX6_gather_38 : decode cX6_gather 38 = .ok (.istore 4, 2) := by decide +kernel
theorem dX6_gather_40 : decode cX6_gather 40 = .ok (.iload 4, 2) := by decide +kernel
theorem dX6_gather_42 : decode cX6_gather 42 = .ok (.aload_n 1, 1) := by decide +kernel
theorem dX6_gather_43 : decode cX6_gather 43 = .ok (.getfield 49, 3) := by decide +kernel
theorem dX6_gather_46 : decode cX6_gather 46 = .ok (.getfield 64, 3) := by decide +kernel
theorem dX6_gather_49 : decode cX6_gather 49 = .ok (.iload_n 2, 1) := by decide +kernel
theorem dX6_gather_50 : decode cX6_gather 50 = .ok (.iconst 1, 1) := by decide +kernel
theorem dX6_gather_51 : decode cX6_gather 51 = .ok (.iadd, 1) := by decide +kernel
theorem dX6_gather_52 : decode cX6_gather 52 = .ok (.iaload, 1) := by decide +kernel
theorem dX6_gather_53 : decode cX6_gather 53 = .ok (.if_icmp .ge 70, 3) := by decide +kernel
theorem dX6_gather_56 : decode cX6_gather 56 = .ok (.aload_n 1, 1) := by decide +kernel
theorem dX6_gather_57 : decode cX6_gather 57 = .ok (.iload 4, 2) := by decide +kernel
theorem dX6_gather_59 : decode cX6_gather 59 = .ok (.invokevirtual 73, 3) := by decide +kernel
theorem dX6_gather_62 : decode cX6_gather 62 = .ok (.ifCond .eq 55, 3) := by decide +kernel
theorem dX6_gather_65 : decode cX6_gather 65 = .ok (.aload_n 0, 1) := by decide +kernel
theorem dX6_gather_66 : decode cX6_gather 66 = .ok (.getfield 9, 3) := by decide +kernel
theorem dX6_gather_69 : decode cX6_gather 69 = .ok (.aload_n 0, 1) := by decide +kernel
theorem dX6_gather_70 : decode cX6_gather 70 = .ok (.getfield 98, 3) := by decide +kernel
theorem dX6_gather_73 : decode cX6_gather 73 = .ok (.aload_n 1, 1) := by decide +kernel
theorem dX6_gather_74 : decode cX6_gather 74 = .ok (.getfield 67, 3) := by decide +kernel
theorem dX6_gather_77 : decode cX6_gather 77 = .ok (.iload 4, 2) := by decide +kernel
theorem dX6_gather_79 : decode cX6_gather 79 = .ok (.iaload, 1) := by decide +kernel
theorem dX6_gather_80 : decode cX6_gather 80 = .ok (.iastore, 1) := by decide +kernel
theorem dX6_gather_81 : decode cX6_gather 81 = .ok (.aload_n 0, 1) := by decide +kernel
theorem dX6_gather_82 : decode cX6_gather 82 = .ok (.getfield 15, 3) := by decide +kernel
theorem dX6_gather_85 : decode cX6_gather 85 = .ok (.aload_n 0, 1) := by decide +kernel
theorem dX6_gather_86 : decode cX6_gather 86 = .ok (.getfield 98, 3) := by decide +kernel
theorem dX6_gather_89 : decode cX6_gather 89 = .ok (.iload_n 3, 1) := by decide +kernel
theorem dX6_gather_90 : decode cX6_gather 90 = .ok (.iastore, 1) := by decide +kernel
theorem dX6_gather_91 : decode cX6_gather 91 = .ok (.aload_n 0, 1) := by decide +kernel
theorem dX6_gather_92 : decode cX6_gather 92 = .ok (.getfield 18, 3) := by decide +kernel
theorem dX6_gather_95 : decode cX6_gather 95 = .ok (.aload_n 0, 1) := by decide +kernel
theorem dX6_gather_96 : decode cX6_gather 96 = .ok (.getfield 98, 3) := by decide +kernel
theorem dX6_gather_99 : decode cX6_gather 99 = .ok (.aload_n 1, 1) := by decide +kernel
theorem dX6_gather_100 : decode cX6_gather 100 = .ok (.getfield 99, 3) := by decide +kernel
theorem dX6_gather_103 : decode cX6_gather 103 = .ok (.iload 4, 2) := by decide +kernel
theorem dX6_gather_105 : decode cX6_gather 105 = .ok (.iaload, 1) := by decide +kernel
theorem dX6_gather_106 : decode cX6_gather 106 = .ok (.iastore, 1) := by decide +kernel
theorem dX6_gather_107 : decode cX6_gather 107 = .ok (.aload_n 0, 1) := by decide +kernel
theorem dX6_gather_108 : decode cX6_gather 108 = .ok (.dup, 1) := by decide +kernel
theorem dX6_gather_109 : decode cX6_gather 109 = .ok (.getfield 98, 3) := by decide +kernel
theorem dX6_gather_112 : decode cX6_gather 112 = .ok (.iconst 1, 1) := by decide +kernel
theorem dX6_gather_113 : decode cX6_gather 113 = .ok (.iadd, 1) := by decide +kernel
theorem dX6_gather_114 : decode cX6_gather 114 = .ok (.putfield 98, 3) := by decide +kernel
theorem dX6_gather_117 : decode cX6_gather 117 = .ok (.iinc 4 1, 3) := by decide +kernel
theorem dX6_gather_120 : decode cX6_gather 120 = .ok (.goto (-80), 3) := by decide +kernel
theorem dX6_gather_123 : decode cX6_gather 123 = .ok (.iinc 2 1, 3) := by decide +kernel
theorem dX6_gather_126 : decode cX6_gather 126 = .ok (.goto (-119), 3) := by decide +kernel
theorem dX6_gather_129 : decode cX6_gather 129 = .ok (.return_, 1) := by decide +kernel
theorem dX6_bestCell_0 : decode cX6_bestCell 0 = .ok (.aload_n 1, 1) := by decide +kernel
theorem dX6_bestCell_1 : decode cX6_bestCell 1 = .ok (.iload_n 2, 1) := by decide +kernel
theorem dX6_bestCell_2 : decode cX6_bestCell 2 = .ok (.iload_n 3, 1) := by decide +kernel
theorem dX6_bestCell_3 : decode cX6_bestCell 3 = .ok (.invokevirtual 102, 3) := by decide +kernel
theorem dX6_bestCell_6 : decode cX6_bestCell 6 = .ok (.istore 4, 2) := by decide +kernel
theorem dX6_bestCell_8 : decode cX6_bestCell 8 = .ok (.iconst 0, 1) := by decide +kernel
theorem dX6_bestCell_9 : decode cX6_bestCell 9 = .ok (.istore 5, 2) := by decide +kernel
theorem dX6_bestCell_11 : decode cX6_bestCell 11 = .ok (.ldc2_w 105, 3) := by decide +kernel
theorem dX6_bestCell_14 : decode cX6_bestCell 14 = .ok (.lstore 6, 2) := by decide +kernel
theorem dX6_bestCell_16 : decode cX6_bestCell 16 = .ok (.iconst 0, 1) := by decide +kernel
theorem dX6_bestCell_17 : decode cX6_bestCell 17 = .ok (.istore 8, 2) := by decide +kernel
theorem dX6_bestCell_19 : decode cX6_bestCell 19 = .ok (.iload 8, 2) := by decide +kernel
theorem dX6_bestCell_21 : decode cX6_bestCell 21 = .ok (.aload_n 1, 1) := by decide +kernel
theorem dX6_bestCell_22 : decode cX6_bestCell 22 = .ok (.getfield 107, 3) := by decide +kernel
theorem dX6_bestCell_25 : decode cX6_bestCell 25 = .ok (.iload_n 3, 1) := by decide +kernel
theorem dX6_bestCell_26 : decode cX6_bestCell 26 = .ok (.iaload, 1) := by decide +kernel
theorem dX6_bestCell_27 : decode cX6_bestCell 27 = .ok (.if_icmp .ge 56, 3) := by decide +kernel
theorem dX6_bestCell_30 : decode cX6_bestCell 30 = .ok (.iload 4, 2) := by decide +kernel
theorem dX6_bestCell_32 : decode cX6_bestCell 32 = .ok (.iconst 1, 1) := by decide +kernel
theorem dX6_bestCell_33 : decode cX6_bestCell 33 = .ok (.iload 8, 2) := by decide +kernel
theorem dX6_bestCell_35 : decode cX6_bestCell 35 = .ok (.ishl, 1) := by decide +kernel
theorem dX6_bestCell_36 : decode cX6_bestCell 36 = .ok (.iand, 1) := by decide +kernel
theorem dX6_bestCell_37 : decode cX6_bestCell 37 = .ok (.ifCond .eq 40, 3) := by decide +kernel
theorem dX6_bestCell_40 : decode cX6_bestCell 40 = .ok (.iconst 1, 1) := by decide +kernel
theorem dX6_bestCell_41 : decode cX6_bestCell 41 = .ok (.iconst 4, 1) := by decide +kernel
theorem dX6_bestCell_42 : decode cX6_bestCell 42 = .ok (.iload_n 3, 1) := by decide +kernel
theorem dX6_bestCell_43 : decode cX6_bestCell 43 = .ok (.imul, 1) := by decide +kernel
theorem dX6_bestCell_44 : decode cX6_bestCell 44 = .ok (.iload 8, 2) := by decide +kernel
theorem dX6_bestCell_46 : decode cX6_bestCell 46 = .ok (.iadd, 1) := by decide +kernel
theorem dX6_bestCell_47 : decode cX6_bestCell 47 = .ok (.ishl, 1) := by decide +kernel
theorem dX6_bestCell_48 : decode cX6_bestCell 48 = .ok (.istore 9, 2) := by decide +kernel
theorem dX6_bestCell_50 : decode cX6_bestCell 50 = .ok (.aload_n 0, 1) := by decide +kernel
theorem dX6_bestCell_51 : decode cX6_bestCell 51 = .ok (.aload_n 1, 1) := by decide +kernel
theorem dX6_bestCell_52 : decode cX6_bestCell 52 = .ok (.iload_n 2, 1) := by decide +kernel
theorem dX6_bestCell_53 : decode cX6_bestCell 53 = .ok (.iload_n 3, 1) := by decide +kernel
theorem dX6_bestCell_54 : decode cX6_bestCell 54 = .ok (.iload 9, 2) := by decide +kernel
theorem dX6_bestCell_56 : decode cX6_bestCell 56 = .ok (.invokevirtual 110, 3) := by decide +kernel
theorem dX6_bestCell_59 : decode cX6_bestCell 59 = .ok (.lstore 10, 2) := by decide +kernel
theorem dX6_bestCell_61 : decode cX6_bestCell 61 = .ok (.lload 10, 2) := by decide +kernel
theorem dX6_bestCell_63 : decode cX6_bestCell 63 = .ok (.lload 6, 2) := by decide +kernel
theorem dX6_bestCell_65 : decode cX6_bestCell 65 = .ok (.lcmp, 1) := by decide +kernel
theorem dX6_bestCell_66 : decode cX6_bestCell 66 = .ok (.ifCond .le 11, 3) := by decide +kernel
theorem dX6_bestCell_69 : decode cX6_bestCell 69 = .ok (.lload 10, 2) := by decide +kernel
theorem dX6_bestCell_71 : decode cX6_bestCell 71 = .ok (.lstore 6, 2) := by decide +kernel
theorem dX6_bestCell_73 : decode cX6_bestCell 73 = .ok (.iload 9, 2) := by decide +kernel
theorem dX6_bestCell_75 : decode cX6_bestCell 75 = .ok (.istore 5, 2) := by decide +kernel
theorem dX6_bestCell_77 : decode cX6_bestCell 77 = .ok (.iinc 8 1, 3) := by decide +kernel
theorem dX6_bestCell_80 : decode cX6_bestCell 80 = .ok (.goto (-61), 3) := by decide +kernel
theorem dX6_bestCell_83 : decode cX6_bestCell 83 = .ok (.iload 5, 2) := by decide +kernel
theorem dX6_bestCell_85 : decode cX6_bestCell 85 = .ok (.ireturn, 1) := by decide +kernel
theorem dX6_hopeWith_0 : decode cX6_hopeWith 0 = .ok (.aload_n 0, 1) := by decide +kernel
theorem dX6_hopeWith_1 : decode cX6_hopeWith 1 = .ok (.aload_n 1, 1) := by decide +kernel
theorem dX6_hopeWith_2 : decode cX6_hopeWith 2 = .ok (.iload 4, 2) := by decide +kernel
theorem dX6_hopeWith_4 : decode cX6_hopeWith 4 = .ok (.invokevirtual 114, 3) := by decide +kernel
theorem dX6_hopeWith_7 : decode cX6_hopeWith 7 = .ok (.bipush 15, 2) := by decide +kernel
theorem dX6_hopeWith_9 : decode cX6_hopeWith 9 = .ok (.iconst 4, 1) := by decide +kernel
theorem dX6_hopeWith_10 : decode cX6_hopeWith 10 = .ok (.iload_n 3, 1) := by decide +kernel
theorem dX6_hopeWith_11 : decode cX6_hopeWith 11 = .ok (.imul, 1) := by decide +kernel
theorem dX6_hopeWith_12 : decode cX6_hopeWith 12 = .ok (.ishl, 1) := by decide +kernel
theorem dX6_hopeWith_13 : decode cX6_hopeWith 13 = .ok (.istore 5, 2) := by decide +kernel
theorem dX6_hopeWith_15 : decode cX6_hopeWith 15 = .ok (.lconst 0, 1) := by decide +kernel
theorem dX6_hopeWith_16 : decode cX6_hopeWith 16 = .ok (.lstore 6, 2) := by decide +kernel
theorem dX6_hopeWith_18 : decode cX6_hopeWith 18 = .ok (.iconst 0, 1) := by decide +kernel
theorem dX6_hopeWith_19 : decode cX6_hopeWith 19 = .ok (.istore 8, 2) := by decide +kernel
theorem dX6_hopeWith_21 : decode cX6_hopeWith 21 = .ok (.iload 8, 2) := by decide +kernel
theorem dX6_hopeWith_23 : decode cX6_hopeWith 23 = .ok (.aload_n 0, 1) := by decide +kernel
theorem dX6_hopeWith_24 : decode cX6_hopeWith 24 = .ok (.getfield 98, 3) := by decide +kernel
theorem dX6_hopeWith_27 : decode cX6_hopeWith 27 = .ok (.if_icmp .ge 107, 3) := by decide +kernel
theorem dX6_hopeWith_30 : decode cX6_hopeWith 30 = .ok (.aload_n 0, 1) := by decide +kernel
theorem dX6_hopeWith_31 : decode cX6_hopeWith 31 = .ok (.getfield 9, 3) := by decide +kernel
theorem dX6_hopeWith_34 : decode cX6_hopeWith 34 = .ok (.iload 8, 2) := by decide +kernel
theorem dX6_hopeWith_36 : decode cX6_hopeWith 36 = .ok (.iaload, 1) := by decide +kernel
theorem dX6_hopeWith_37 : decode cX6_hopeWith 37 = .ok (.iload 5, 2) := by decide +kernel
theorem dX6_hopeWith_39 : decode cX6_hopeWith 39 = .ok (.iand, 1) := by decide +kernel
theorem dX6_hopeWith_40 : decode cX6_hopeWith 40 = .ok (.ifCond .ne 55, 3) := by decide +kernel
theorem dX6_hopeWith_43 : decode cX6_hopeWith 43 = .ok (.aload_n 0, 1) := by decide +kernel
theorem dX6_hopeWith_44 : decode cX6_hopeWith 44 = .ok (.getfield 118, 3) := by decide +kernel
theorem dX6_hopeWith_47 : decode cX6_hopeWith 47 = .ok (.ifCond .eq 16, 3) := by decide +kernel
theorem dX6_hopeWith_50 : decode cX6_hopeWith 50 = .ok (.aload_n 0, 1) := by decide +kernel
theorem dX6_hopeWith_51 : decode cX6_hopeWith 51 = .ok (.aload_n 1, 1) := by decide +kernel
theorem dX6_hopeWith_52 : decode cX6_hopeWith 52 = .ok (.iload 8, 2) := by decide +kernel
theorem dX6_hopeWith_54 : decode cX6_hopeWith 54 = .ok (.iload_n 2, 1) := by decide +kernel
theorem dX6_hopeWith_55 : decode cX6_hopeWith 55 = .ok (.iload 4, 2) := by decide +kernel
theorem dX6_hopeWith_57 : decode cX6_hopeWith 57 = .ok (.invokevirtual 121, 3) := by decide +kernel
theorem dX6_hopeWith_60 : decode cX6_hopeWith 60 = .ok (.ifCond .eq 7, 3) := by decide +kernel
theorem dX6_hopeWith_63 : decode cX6_hopeWith 63 = .ok (.iconst 1, 1) := by decide +kernel
theorem dX6_hopeWith_64 : decode cX6_hopeWith 64 = .ok (.goto 4, 3) := by decide +kernel
theorem dX6_hopeWith_67 : decode cX6_hopeWith 67 = .ok (.iconst 0, 1) := by decide +kernel
theorem dX6_hopeWith_68 : decode cX6_hopeWith 68 = .ok (.istore 9, 2) := by decide +kernel
theorem dX6_hopeWith_70 : decode cX6_hopeWith 70 = .ok (.lload 6, 2) := by decide +kernel
theorem dX6_hopeWith_72 : decode cX6_hopeWith 72 = .ok (.iload 9, 2) := by decide +kernel
theorem dX6_hopeWith_74 : decode cX6_hopeWith 74 = .ok (.ifCond .eq 14, 3) := by decide +kernel
theorem dX6_hopeWith_77 : decode cX6_hopeWith 77 = .ok (.aload_n 0, 1) := by decide +kernel
theorem dX6_hopeWith_78 : decode cX6_hopeWith 78 = .ok (.getfield 15, 3) := by decide +kernel
theorem dX6_hopeWith_81 : decode cX6_hopeWith 81 = .ok (.iload 8, 2) := by decide +kernel
theorem dX6_hopeWith_83 : decode cX6_hopeWith 83 = .ok (.iaload, 1) := by decide +kernel
theorem dX6_hopeWith_84 : decode cX6_hopeWith 84 = .ok (.i2l, 1) := by decide +kernel
theorem dX6_hopeWith_85 : decode cX6_hopeWith 85 = .ok (.goto 4, 3) := by decide +kernel
theorem dX6_hopeWith_88 : decode cX6_hopeWith 88 = .ok (.lconst 0, 1) := by decide +kernel
theorem dX6_hopeWith_89 : decode cX6_hopeWith 89 = .ok (.ladd, 1) := by decide +kernel
theorem dX6_hopeWith_90 : decode cX6_hopeWith 90 = .ok (.lstore 6, 2) := by decide +kernel
theorem dX6_hopeWith_92 : decode cX6_hopeWith 92 = .ok (.goto 36, 3) := by decide +kernel
theorem dX6_hopeWith_95 : decode cX6_hopeWith 95 = .ok (.aload_n 0, 1) := by decide +kernel
theorem dX6_hopeWith_96 : decode cX6_hopeWith 96 = .ok (.getfield 9, 3) := by decide +kernel
theorem dX6_hopeWith_99 : decode cX6_hopeWith 99 = .ok (.iload 8, 2) := by decide +kernel
theorem dX6_hopeWith_101 : decode cX6_hopeWith 101 = .ok (.iaload, 1) := by decide +kernel
theorem dX6_hopeWith_102 : decode cX6_hopeWith 102 = .ok (.iload 4, 2) := by decide +kernel
theorem dX6_hopeWith_104 : decode cX6_hopeWith 104 = .ok (.iand, 1) := by decide +kernel
theorem dX6_hopeWith_105 : decode cX6_hopeWith 105 = .ok (.ifCond .eq 23, 3) := by decide +kernel
theorem dX6_hopeWith_108 : decode cX6_hopeWith 108 = .ok (.lload 6, 2) := by decide +kernel
theorem dX6_hopeWith_110 : decode cX6_hopeWith 110 = .ok (.aload_n 0, 1) := by decide +kernel
theorem dX6_hopeWith_111 : decode cX6_hopeWith 111 = .ok (.getfield 15, 3) := by decide +kernel
theorem dX6_hopeWith_114 : decode cX6_hopeWith 114 = .ok (.iload 8, 2) := by decide +kernel
theorem dX6_hopeWith_116 : decode cX6_hopeWith 116 = .ok (.iaload, 1) := by decide +kernel
theorem dX6_hopeWith_117 : decode cX6_hopeWith 117 = .ok (.aload_n 1, 1) := by decide +kernel
theorem dX6_hopeWith_118 : decode cX6_hopeWith 118 = .ok (.getfield 107, 3) := by decide +kernel
theorem dX6_hopeWith_121 : decode cX6_hopeWith 121 = .ok (.iload_n 3, 1) := by decide +kernel
theorem dX6_hopeWith_122 : decode cX6_hopeWith 122 = .ok (.iaload, 1) := by decide +kernel
theorem dX6_hopeWith_123 : decode cX6_hopeWith 123 = .ok (.imul, 1) := by decide +kernel
theorem dX6_hopeWith_124 : decode cX6_hopeWith 124 = .ok (.i2l, 1) := by decide +kernel
theorem dX6_hopeWith_125 : decode cX6_hopeWith 125 = .ok (.ladd, 1) := by decide +kernel
theorem dX6_hopeWith_126 : decode cX6_hopeWith 126 = .ok (.lstore 6, 2) := by decide +kernel
theorem dX6_hopeWith_128 : decode cX6_hopeWith 128 = .ok (.iinc 8 1, 3) := by decide +kernel
theorem dX6_hopeWith_131 : decode cX6_hopeWith 131 = .ok (.goto (-110), 3) := by decide +kernel
theorem dX6_hopeWith_134 : decode cX6_hopeWith 134 = .ok (.lload 6, 2) := by decide +kernel
theorem dX6_hopeWith_136 : decode cX6_hopeWith 136 = .ok (.lreturn, 1) := by decide +kernel
theorem dX6_keepWith_0 : decode cX6_keepWith 0 = .ok (.aload_n 0, 1) := by decide +kernel
theorem dX6_keepWith_1 : decode cX6_keepWith 1 = .ok (.aload_n 1, 1) := by decide +kernel
theorem dX6_keepWith_2 : decode cX6_keepWith 2 = .ok (.iload 4, 2) := by decide +kernel
theorem dX6_keepWith_4 : decode cX6_keepWith 4 = .ok (.invokevirtual 114, 3) := by decide +kernel
theorem dX6_keepWith_7 : decode cX6_keepWith 7 = .ok (.bipush 15, 2) := by decide +kernel
theorem dX6_keepWith_9 : decode cX6_keepWith 9 = .ok (.iconst 4, 1) := by decide +kernel
theorem dX6_keepWith_10 : decode cX6_keepWith 10 = .ok (.iload_n 3, 1) := by decide +kernel
theorem dX6_keepWith_11 : decode cX6_keepWith 11 = .ok (.imul, 1) := by decide +kernel
theorem dX6_keepWith_12 : decode cX6_keepWith 12 = .ok (.ishl, 1) := by decide +kernel
theorem dX6_keepWith_13 : decode cX6_keepWith 13 = .ok (.istore 5, 2) := by decide +kernel
theorem dX6_keepWith_15 : decode cX6_keepWith 15 = .ok (.iconst 0, 1) := by decide +kernel
theorem dX6_keepWith_16 : decode cX6_keepWith 16 = .ok (.istore 6, 2) := by decide +kernel
theorem dX6_keepWith_18 : decode cX6_keepWith 18 = .ok (.iconst 0, 1) := by decide +kernel
theorem dX6_keepWith_19 : decode cX6_keepWith 19 = .ok (.istore 7, 2) := by decide +kernel
theorem dX6_keepWith_21 : decode cX6_keepWith 21 = .ok (.iload 7, 2) := by decide +kernel
theorem dX6_keepWith_23 : decode cX6_keepWith 23 = .ok (.aload_n 0, 1) := by decide +kernel
theorem dX6_keepWith_24 : decode cX6_keepWith 24 = .ok (.getfield 98, 3) := by decide +kernel
theorem dX6_keepWith_27 : decode cX6_keepWith 27 = .ok (.if_icmp .ge 130, 3) := by decide +kernel
theorem dX6_keepWith_30 : decode cX6_keepWith 30 = .ok (.aload_n 0, 1) := by decide +kernel
theorem dX6_keepWith_31 : decode cX6_keepWith 31 = .ok (.getfield 9, 3) := by decide +kernel
theorem dX6_keepWith_34 : decode cX6_keepWith 34 = .ok (.iload 7, 2) := by decide +kernel
theorem dX6_keepWith_36 : decode cX6_keepWith 36 = .ok (.iaload, 1) := by decide +kernel
theorem dX6_keepWith_37 : decode cX6_keepWith 37 = .ok (.iload 5, 2) := by decide +kernel
theorem dX6_keepWith_39 : decode cX6_keepWith 39 = .ok (.iand, 1) := by decide +kernel
theorem dX6_keepWith_40 : decode cX6_keepWith 40 = .ok (.ifCond .eq 7, 3) := by decide +kernel
theorem dX6_keepWith_43 : decode cX6_keepWith 43 = .ok (.iconst 1, 1) := by decide +kernel
theorem dX6_keepWith_44 : decode cX6_keepWith 44 = .ok (.goto 4, 3) := by decide +kernel
theorem dX6_keepWith_47 : decode cX6_keepWith 47 = .ok (.iconst 0, 1) := by decide +kernel
theorem dX6_keepWith_48 : decode cX6_keepWith 48 = .ok (.istore 8, 2) := by decide +kernel
theorem dX6_keepWith_50 : decode cX6_keepWith 50 = .ok (.iload 8, 2) := by decide +kernel
theorem dX6_keepWith_52 : decode cX6_keepWith 52 = .ok (.ifCond .eq 20, 3) := by decide +kernel
theorem dX6_keepWith_55 : decode cX6_keepWith 55 = .ok (.aload_n 0, 1) := by decide +kernel
theorem dX6_keepWith_56 : decode cX6_keepWith 56 = .ok (.getfield 9, 3) := by decide +kernel
theorem dX6_keepWith_59 : decode cX6_keepWith 59 = .ok (.iload 7, 2) := by decide +kernel
theorem dX6_keepWith_61 : decode cX6_keepWith 61 = .ok (.iaload, 1) := by decide +kernel
theorem dX6_keepWith_62 : decode cX6_keepWith 62 = .ok (.iload 4, 2) := by decide +kernel
theorem dX6_keepWith_64 : decode cX6_keepWith 64 = .ok (.iand, 1) := by decide +kernel
theorem dX6_keepWith_65 : decode cX6_keepWith 65 = .ok (.ifCond .ne 7, 3) := by decide +kernel
theorem dX6_keepWith_68 : decode cX6_keepWith 68 = .ok (.iconst 0, 1) := by decide +kernel
theorem dX6_keepWith_69 : decode cX6_keepWith 69 = .ok (.goto 13, 3) := by decide +kernel
theorem dX6_keepWith_72 : decode cX6_keepWith 72 = .ok (.aload_n 0, 1) := by decide +kernel
theorem dX6_keepWith_73 : decode cX6_keepWith 73 = .ok (.aload_n 1, 1) := by decide +kernel
theorem dX6_keepWith_74 : decode cX6_keepWith 74 = .ok (.iload 7, 2) := by decide +kernel
theorem dX6_keepWith_76 : decode cX6_keepWith 76 = .ok (.iload_n 2, 1) := by decide +kernel
theorem dX6_keepWith_77 : decode cX6_keepWith 77 = .ok (.iload 4, 2) := by decide +kernel
theorem dX6_keepWith_79 : decode cX6_keepWith 79 = .ok (.invokevirtual 121, 3) := by decide +kernel
theorem dX6_keepWith_82 : decode cX6_keepWith 82 = .ok (.istore 9, 2) := by decide +kernel
theorem dX6_keepWith_84 : decode cX6_keepWith 84 = .ok (.iload 9, 2) := by decide +kernel
theorem dX6_keepWith_86 : decode cX6_keepWith 86 = .ok (.ifCond .eq 65, 3) := by decide +kernel
theorem dX6_keepWith_89 : decode cX6_keepWith 89 = .ok (.aload_n 0, 1) := by decide +kernel
theorem dX6_keepWith_90 : decode cX6_keepWith 90 = .ok (.getfield 9, 3) := by decide +kernel
theorem dX6_keepWith_93 : decode cX6_keepWith 93 = .ok (.iload 6, 2) := by decide +kernel
theorem dX6_keepWith_95 : decode cX6_keepWith 95 = .ok (.aload_n 0, 1) := by decide +kernel
theorem dX6_keepWith_96 : decode cX6_keepWith 96 = .ok (.getfield 9, 3) := by decide +kernel
theorem dX6_keepWith_99 : decode cX6_keepWith 99 = .ok (.iload 7, 2) := by decide +kernel
theorem dX6_keepWith_101 : decode cX6_keepWith 101 = .ok (.iaload, 1) := by decide +kernel
theorem dX6_keepWith_102 : decode cX6_keepWith 102 = .ok (.iastore, 1) := by decide +kernel
theorem dX6_keepWith_103 : decode cX6_keepWith 103 = .ok (.aload_n 0, 1) := by decide +kernel
theorem dX6_keepWith_104 : decode cX6_keepWith 104 = .ok (.getfield 15, 3) := by decide +kernel
theorem dX6_keepWith_107 : decode cX6_keepWith 107 = .ok (.iload 6, 2) := by decide +kernel
theorem dX6_keepWith_109 : decode cX6_keepWith 109 = .ok (.iload 8, 2) := by decide +kernel
theorem dX6_keepWith_111 : decode cX6_keepWith 111 = .ok (.ifCond .eq 20, 3) := by decide +kernel
theorem dX6_keepWith_114 : decode cX6_keepWith 114 = .ok (.aload_n 0, 1) := by decide +kernel
theorem dX6_keepWith_115 : decode cX6_keepWith 115 = .ok (.getfield 15, 3) := by decide +kernel
theorem dX6_keepWith_118 : decode cX6_keepWith 118 = .ok (.iload 7, 2) := by decide +kernel
theorem dX6_keepWith_120 : decode cX6_keepWith 120 = .ok (.iaload, 1) := by decide +kernel
theorem dX6_keepWith_121 : decode cX6_keepWith 121 = .ok (.aload_n 1, 1) := by decide +kernel
theorem dX6_keepWith_122 : decode cX6_keepWith 122 = .ok (.getfield 107, 3) := by decide +kernel
theorem dX6_keepWith_125 : decode cX6_keepWith 125 = .ok (.iload_n 3, 1) := by decide +kernel
theorem dX6_keepWith_126 : decode cX6_keepWith 126 = .ok (.iaload, 1) := by decide +kernel
theorem dX6_keepWith_127 : decode cX6_keepWith 127 = .ok (.imul, 1) := by decide +kernel
theorem dX6_keepWith_128 : decode cX6_keepWith 128 = .ok (.goto 10, 3) := by decide +kernel
theorem dX6_keepWith_131 : decode cX6_keepWith 131 = .ok (.aload_n 0, 1) := by decide +kernel
theorem dX6_keepWith_132 : decode cX6_keepWith 132 = .ok (.getfield 15, 3) := by decide +kernel
theorem dX6_keepWith_135 : decode cX6_keepWith 135 = .ok (.iload 7, 2) := by decide +kernel
theorem dX6_keepWith_137 : decode cX6_keepWith 137 = .ok (.iaload, 1) := by decide +kernel
theorem dX6_keepWith_138 : decode cX6_keepWith 138 = .ok (.iastore, 1) := by decide +kernel
theorem dX6_keepWith_139 : decode cX6_keepWith 139 = .ok (.aload_n 0, 1) := by decide +kernel
theorem dX6_keepWith_140 : decode cX6_keepWith 140 = .ok (.getfield 18, 3) := by decide +kernel
theorem dX6_keepWith_143 : decode cX6_keepWith 143 = .ok (.iload 6, 2) := by decide +kernel
theorem dX6_keepWith_145 : decode cX6_keepWith 145 = .ok (.iload 9, 2) := by decide +kernel
theorem dX6_keepWith_147 : decode cX6_keepWith 147 = .ok (.iastore, 1) := by decide +kernel
theorem dX6_keepWith_148 : decode cX6_keepWith 148 = .ok (.iinc 6 1, 3) := by decide +kernel
theorem dX6_keepWith_151 : decode cX6_keepWith 151 = .ok (.iinc 7 1, 3) := by decide +kernel
theorem dX6_keepWith_154 : decode cX6_keepWith 154 = .ok (.goto (-133), 3) := by decide +kernel
theorem dX6_keepWith_157 : decode cX6_keepWith 157 = .ok (.aload_n 0, 1) := by decide +kernel
theorem dX6_keepWith_158 : decode cX6_keepWith 158 = .ok (.iload 6, 2) := by decide +kernel
theorem dX6_keepWith_160 : decode cX6_keepWith 160 = .ok (.putfield 98, 3) := by decide +kernel
theorem dX6_keepWith_163 : decode cX6_keepWith 163 = .ok (.return_, 1) := by decide +kernel
theorem dX6_findNear_0 : decode cX6_findNear 0 = .ok (.aload_n 0, 1) := by decide +kernel
theorem dX6_findNear_1 : decode cX6_findNear 1 = .ok (.iconst 0, 1) := by decide +kernel
theorem dX6_findNear_2 : decode cX6_findNear 2 = .ok (.putfield 118, 3) := by decide +kernel
theorem dX6_findNear_5 : decode cX6_findNear 5 = .ok (.iconst 0, 1) := by decide +kernel
theorem dX6_findNear_6 : decode cX6_findNear 6 = .ok (.istore_n 3, 1) := by decide +kernel
theorem dX6_findNear_7 : decode cX6_findNear 7 = .ok (.iload_n 3, 1) := by decide +kernel
theorem dX6_findNear_8 : decode cX6_findNear 8 = .ok (.aload_n 1, 1) := by decide +kernel
theorem dX6_findNear_9 : decode cX6_findNear 9 = .ok (.getfield 125, 3) := by decide +kernel
theorem dX6_findNear_12 : decode cX6_findNear 12 = .ok (.if_icmp .ge 45, 3) := by decide +kernel
theorem dX6_findNear_15 : decode cX6_findNear 15 = .ok (.aload_n 1, 1) := by decide +kernel
theorem dX6_findNear_16 : decode cX6_findNear 16 = .ok (.getfield 128, 3) := by decide +kernel
theorem dX6_findNear_19 : decode cX6_findNear 19 = .ok (.iload_n 3, 1) := by decide +kernel
theorem dX6_findNear_20 : decode cX6_findNear 20 = .ok (.iaload, 1) := by decide +kernel
theorem dX6_findNear_21 : decode cX6_findNear 21 = .ok (.iload_n 2, 1) := by decide +kernel
theorem dX6_findNear_22 : decode cX6_findNear 22 = .ok (.iand, 1) := by decide +kernel
theorem dX6_findNear_23 : decode cX6_findNear 23 = .ok (.ifCond .eq 28, 3) := by decide +kernel
theorem dX6_findNear_26 : decode cX6_findNear 26 = .ok (.aload_n 0, 1) := by decide +kernel
theorem dX6_findNear_27 : decode cX6_findNear 27 = .ok (.getfield 21, 3) := by decide +kernel
theorem dX6_findNear_30 : decode cX6_findNear 30 = .ok (.aload_n 0, 1) := by decide +kernel
theorem dX6_findNear_31 : decode cX6_findNear 31 = .ok (.getfield 118, 3) := by decide +kernel
theorem dX6_findNear_34 : decode cX6_findNear 34 = .ok (.aload_n 1, 1) := by decide +kernel
theorem dX6_findNear_35 : decode cX6_findNear 35 = .ok (.getfield 128, 3) := by decide +kernel
theorem dX6_findNear_38 : decode cX6_findNear 38 = .ok (.iload_n 3, 1) := by decide +kernel
theorem dX6_findNear_39 : decode cX6_findNear 39 = .ok (.iaload, 1) := by decide +kernel
theorem dX6_findNear_40 : decode cX6_findNear 40 = .ok (.iastore, 1) := by decide +kernel
theorem dX6_findNear_41 : decode cX6_findNear 41 = .ok (.aload_n 0, 1) := by decide +kernel
theorem dX6_findNear_42 : decode cX6_findNear 42 = .ok (.dup, 1) := by decide +kernel
theorem dX6_findNear_43 : decode cX6_findNear 43 = .ok (.getfield 118, 3) := by decide +kernel
theorem dX6_findNear_46 : decode cX6_findNear 46 = .ok (.iconst 1, 1) := by decide +kernel
theorem dX6_findNear_47 : decode cX6_findNear 47 = .ok (.iadd, 1) := by decide +kernel
theorem dX6_findNear_48 : decode cX6_findNear 48 = .ok (.putfield 118, 3) := by decide +kernel
theorem dX6_findNear_51 : decode cX6_findNear 51 = .ok (.iinc 3 1, 3) := by decide +kernel
theorem dX6_findNear_54 : decode cX6_findNear 54 = .ok (.goto (-47), 3) := by decide +kernel
theorem dX6_findNear_57 : decode cX6_findNear 57 = .ok (.return_, 1) := by decide +kernel
theorem dX6_sampleWith_0 : decode cX6_sampleWith 0 = .ok (.aload_n 0, 1) := by decide +kernel
theorem dX6_sampleWith_1 : decode cX6_sampleWith 1 = .ok (.getfield 18, 3) := by decide +kernel
theorem dX6_sampleWith_4 : decode cX6_sampleWith 4 = .ok (.iload_n 2, 1) := by decide +kernel
theorem dX6_sampleWith_5 : decode cX6_sampleWith 5 = .ok (.iaload, 1) := by decide +kernel
theorem dX6_sampleWith_6 : decode cX6_sampleWith 6 = .ok (.iload 4, 2) := by decide +kernel
theorem dX6_sampleWith_8 : decode cX6_sampleWith 8 = .ok (.invokestatic 70, 3) := by decide +kernel
theorem dX6_sampleWith_11 : decode cX6_sampleWith 11 = .ok (.iconst (-1), 1) := by decide +kernel
theorem dX6_sampleWith_12 : decode cX6_sampleWith 12 = .ok (.ixor, 1) := by decide +kernel
theorem dX6_sampleWith_13 : decode cX6_sampleWith 13 = .ok (.iand, 1) := by decide +kernel
theorem dX6_sampleWith_14 : decode cX6_sampleWith 14 = .ok (.iload 4, 2) := by decide +kernel
theorem dX6_sampleWith_16 : decode cX6_sampleWith 16 = .ok (.ior, 1) := by decide +kernel
theorem dX6_sampleWith_17 : decode cX6_sampleWith 17 = .ok (.istore 5, 2) := by decide +kernel
theorem dX6_sampleWith_19 : decode cX6_sampleWith 19 = .ok (.iconst 0, 1) := by decide +kernel
theorem dX6_sampleWith_20 : decode cX6_sampleWith 20 = .ok (.istore 6, 2) := by decide +kernel
theorem dX6_sampleWith_22 : decode cX6_sampleWith 22 = .ok (.iload 6, 2) := by decide +kernel
theorem dX6_sampleWith_24 : decode cX6_sampleWith 24 = .ok (.aload_n 0, 1) := by decide +kernel
theorem dX6_sampleWith_25 : decode cX6_sampleWith 25 = .ok (.getfield 118, 3) := by decide +kernel
theorem dX6_sampleWith_28 : decode cX6_sampleWith 28 = .ok (.if_icmp .ge 45, 3) := by decide +kernel
theorem dX6_sampleWith_31 : decode cX6_sampleWith 31 = .ok (.aload_n 0, 1) := by decide +kernel
theorem dX6_sampleWith_32 : decode cX6_sampleWith 32 = .ok (.getfield 21, 3) := by decide +kernel
theorem dX6_sampleWith_35 : decode cX6_sampleWith 35 = .ok (.iload 6, 2) := by decide +kernel
theorem dX6_sampleWith_37 : decode cX6_sampleWith 37 = .ok (.iaload, 1) := by decide +kernel
theorem dX6_sampleWith_38 : decode cX6_sampleWith 38 = .ok (.iload 5, 2) := by decide +kernel
theorem dX6_sampleWith_40 : decode cX6_sampleWith 40 = .ok (.iconst (-1), 1) := by decide +kernel
theorem dX6_sampleWith_41 : decode cX6_sampleWith 41 = .ok (.ixor, 1) := by decide +kernel
theorem dX6_sampleWith_42 : decode cX6_sampleWith 42 = .ok (.iand, 1) := by decide +kernel
theorem dX6_sampleWith_43 : decode cX6_sampleWith 43 = .ok (.ifCond .ne 24, 3) := by decide +kernel
theorem dX6_sampleWith_46 : decode cX6_sampleWith 46 = .ok (.aload_n 1, 1) := by decide +kernel
theorem dX6_sampleWith_47 : decode cX6_sampleWith 47 = .ok (.aload_n 1, 1) := by decide +kernel
theorem dX6_sampleWith_48 : decode cX6_sampleWith 48 = .ok (.iload_n 3, 1) := by decide +kernel
theorem dX6_sampleWith_49 : decode cX6_sampleWith 49 = .ok (.aload_n 0, 1) := by decide +kernel
theorem dX6_sampleWith_50 : decode cX6_sampleWith 50 = .ok (.getfield 9, 3) := by decide +kernel
theorem dX6_sampleWith_53 : decode cX6_sampleWith 53 = .ok (.iload_n 2, 1) := by decide +kernel
theorem dX6_sampleWith_54 : decode cX6_sampleWith 54 = .ok (.iaload, 1) := by decide +kernel
theorem dX6_sampleWith_55 : decode cX6_sampleWith 55 = .ok (.ior, 1) := by decide +kernel
theorem dX6_sampleWith_56 : decode cX6_sampleWith 56 = .ok (.iload 4, 2) := by decide +kernel
theorem dX6_sampleWith_58 : decode cX6_sampleWith 58 = .ok (.ior, 1) := by decide +kernel
theorem dX6_sampleWith_59 : decode cX6_sampleWith 59 = .ok (.invokevirtual 42, 3) := by decide +kernel
theorem dX6_sampleWith_62 : decode cX6_sampleWith 62 = .ok (.iconst 0, 1) := by decide +kernel
theorem dX6_sampleWith_63 : decode cX6_sampleWith 63 = .ok (.invokestatic 46, 3) := by decide +kernel
theorem dX6_sampleWith_66 : decode cX6_sampleWith 66 = .ok (.ireturn, 1) := by decide +kernel
theorem dX6_sampleWith_67 : decode cX6_sampleWith 67 = .ok (.iinc 6 1, 3) := by decide +kernel
theorem dX6_sampleWith_70 : decode cX6_sampleWith 70 = .ok (.goto (-48), 3) := by decide +kernel
theorem dX6_sampleWith_73 : decode cX6_sampleWith 73 = .ok (.iload 5, 2) := by decide +kernel
theorem dX6_sampleWith_75 : decode cX6_sampleWith 75 = .ok (.ireturn, 1) := by decide +kernel
theorem dX7_init_0 : decode cX7_init 0 = .ok (.aload_n 0, 1) := by decide +kernel
theorem dX7_init_1 : decode cX7_init 1 = .ok (.invokespecial 3, 3) := by decide +kernel
theorem dX7_init_4 : decode cX7_init 4 = .ok (.aload_n 0, 1) := by decide +kernel
theorem dX7_init_5 : decode cX7_init 5 = .ok (.bipush 64, 2) := by decide +kernel
theorem dX7_init_7 : decode cX7_init 7 = .ok (.newarray .int, 2) := by decide +kernel
theorem dX7_init_9 : decode cX7_init 9 = .ok (.putfield 9, 3) := by decide +kernel
theorem dX7_init_12 : decode cX7_init 12 = .ok (.aload_n 0, 1) := by decide +kernel
theorem dX7_init_13 : decode cX7_init 13 = .ok (.bipush 64, 2) := by decide +kernel
theorem dX7_init_15 : decode cX7_init 15 = .ok (.newarray .int, 2) := by decide +kernel
theorem dX7_init_17 : decode cX7_init 17 = .ok (.putfield 15, 3) := by decide +kernel
theorem dX7_init_20 : decode cX7_init 20 = .ok (.return_, 1) := by decide +kernel
theorem dX7_copyFrom_0 : decode cX7_copyFrom 0 = .ok (.aload_n 0, 1) := by decide +kernel
theorem dX7_copyFrom_1 : decode cX7_copyFrom 1 = .ok (.aload_n 1, 1) := by decide +kernel
theorem dX7_copyFrom_2 : decode cX7_copyFrom 2 = .ok (.getfield 18, 3) := by decide +kernel
theorem dX7_copyFrom_5 : decode cX7_copyFrom 5 = .ok (.putfield 18, 3) := by decide +kernel
theorem dX7_copyFrom_8 : decode cX7_copyFrom 8 = .ok (.aload_n 1, 1) := by decide +kernel
theorem dX7_copyFrom_9 : decode cX7_copyFrom 9 = .ok (.getfield 9, 3) := by decide +kernel
theorem dX7_copyFrom_12 : decode cX7_copyFrom 12 = .ok (.iconst 0, 1) := by decide +kernel
theorem dX7_copyFrom_13 : decode cX7_copyFrom 13 = .ok (.aload_n 0, 1) := by decide +kernel
theorem dX7_copyFrom_14 : decode cX7_copyFrom 14 = .ok (.getfield 9, 3) := by decide +kernel
theorem dX7_copyFrom_17 : decode cX7_copyFrom 17 = .ok (.iconst 0, 1) := by decide +kernel
theorem dX7_copyFrom_18 : decode cX7_copyFrom 18 = .ok (.aload_n 0, 1) := by decide +kernel
theorem dX7_copyFrom_19 : decode cX7_copyFrom 19 = .ok (.getfield 18, 3) := by decide +kernel
theorem dX7_copyFrom_22 : decode cX7_copyFrom 22 = .ok (.invokestatic 22, 3) := by decide +kernel
theorem dX7_copyFrom_25 : decode cX7_copyFrom 25 = .ok (.aload_n 1, 1) := by decide +kernel
theorem dX7_copyFrom_26 : decode cX7_copyFrom 26 = .ok (.getfield 15, 3) := by decide +kernel
theorem dX7_copyFrom_29 : decode cX7_copyFrom 29 = .ok (.iconst 0, 1) := by decide +kernel
theorem dX7_copyFrom_30 : decode cX7_copyFrom 30 = .ok (.aload_n 0, 1) := by decide +kernel
theorem dX7_copyFrom_31 : decode cX7_copyFrom 31 = .ok (.getfield 15, 3) := by decide +kernel
theorem dX7_copyFrom_34 : decode cX7_copyFrom 34 = .ok (.iconst 0, 1) := by decide +kernel
theorem dX7_copyFrom_35 : decode cX7_copyFrom 35 = .ok (.aload_n 0, 1) := by decide +kernel
theorem dX7_copyFrom_36 : decode cX7_copyFrom 36 = .ok (.getfield 18, 3) := by decide +kernel
theorem dX7_copyFrom_39 : decode cX7_copyFrom 39 = .ok (.invokestatic 22, 3) := by decide +kernel
theorem dX7_copyFrom_42 : decode cX7_copyFrom 42 = .ok (.return_, 1) := by decide +kernel
theorem dX7_append_0 : decode cX7_append 0 = .ok (.aload_n 0, 1) := by decide +kernel
theorem dX7_append_1 : decode cX7_append 1 = .ok (.getfield 18, 3) := by decide +kernel
theorem dX7_append_4 : decode cX7_append 4 = .ok (.bipush 64, 2) := by decide +kernel
theorem dX7_append_6 : decode cX7_append 6 = .ok (.if_icmp .ge 33, 3) := by decide +kernel
theorem dX7_append_9 : decode cX7_append 9 = .ok (.aload_n 0, 1) := by decide +kernel
theorem dX7_append_10 : decode cX7_append 10 = .ok (.getfield 9, 3) := by decide +kernel
theorem dX7_append_13 : decode cX7_append 13 = .ok (.aload_n 0, 1) := by decide +kernel
theorem dX7_append_14 : decode cX7_append 14 = .ok (.getfield 18, 3) := by decide +kernel
theorem dX7_append_17 : decode cX7_append 17 = .ok (.iload_n 1, 1) := by decide +kernel
theorem dX7_append_18 : decode cX7_append 18 = .ok (.iastore, 1) := by decide +kernel
theorem dX7_append_19 : decode cX7_append 19 = .ok (.aload_n 0, 1) := by decide +kernel
theorem dX7_append_20 : decode cX7_append 20 = .ok (.getfield 15, 3) := by decide +kernel
theorem dX7_append_23 : decode cX7_append 23 = .ok (.aload_n 0, 1) := by decide +kernel
theorem dX7_append_24 : decode cX7_append 24 = .ok (.getfield 18, 3) := by decide +kernel
theorem dX7_append_27 : decode cX7_append 27 = .ok (.iconst 0, 1) := by decide +kernel
theorem dX7_append_28 : decode cX7_append 28 = .ok (.iastore, 1) := by decide +kernel
theorem dX7_append_29 : decode cX7_append 29 = .ok (.aload_n 0, 1) := by decide +kernel
theorem dX7_append_30 : decode cX7_append 30 = .ok (.dup, 1) := by decide +kernel
theorem dX7_append_31 : decode cX7_append 31 = .ok (.getfield 18, 3) := by decide +kernel
theorem dX7_append_34 : decode cX7_append 34 = .ok (.iconst 1, 1) := by decide +kernel
theorem dX7_append_35 : decode cX7_append 35 = .ok (.iadd, 1) := by decide +kernel
theorem dX7_append_36 : decode cX7_append 36 = .ok (.putfield 18, 3) := by decide +kernel
theorem dX7_append_39 : decode cX7_append 39 = .ok (.return_, 1) := by decide +kernel
theorem dX7_remove_0 : decode cX7_remove 0 = .ok (.aload_n 0, 1) := by decide +kernel
theorem dX7_remove_1 : decode cX7_remove 1 = .ok (.dup, 1) := by decide +kernel
theorem dX7_remove_2 : decode cX7_remove 2 = .ok (.getfield 18, 3) := by decide +kernel
theorem dX7_remove_5 : decode cX7_remove 5 = .ok (.iconst 1, 1) := by decide +kernel
theorem dX7_remove_6 : decode cX7_remove 6 = .ok (.isub, 1) := by decide +kernel
theorem dX7_remove_7 : decode cX7_remove 7 = .ok (.putfield 18, 3) := by decide +kernel
theorem dX7_remove_10 : decode cX7_remove 10 = .ok (.aload_n 0, 1) := by decide +kernel
theorem dX7_remove_11 : decode cX7_remove 11 = .ok (.getfield 9, 3) := by decide +kernel
theorem dX7_remove_14 : decode cX7_remove 14 = .ok (.iload_n 1, 1) := by decide +kernel
theorem dX7_remove_15 : decode cX7_remove 15 = .ok (.iconst 1, 1) := by decide +kernel
theorem dX7_remove_16 : decode cX7_remove 16 = .ok (.iadd, 1) := by decide +kernel
theorem dX7_remove_17 : decode cX7_remove 17 = .ok (.aload_n 0, 1) := by decide +kernel
theorem dX7_remove_18 : decode cX7_remove 18 = .ok (.getfield 9, 3) := by decide +kernel
theorem dX7_remove_21 : decode cX7_remove 21 = .ok (.iload_n 1, 1) := by decide +kernel
theorem dX7_remove_22 : decode cX7_remove 22 = .ok (.aload_n 0, 1) := by decide +kernel
theorem dX7_remove_23 : decode cX7_remove 23 = .ok (.getfield 18, 3) := by decide +kernel
theorem dX7_remove_26 : decode cX7_remove 26 = .ok (.iload_n 1, 1) := by decide +kernel
theorem dX7_remove_27 : decode cX7_remove 27 = .ok (.isub, 1) := by decide +kernel
theorem dX7_remove_28 : decode cX7_remove 28 = .ok (.invokestatic 22, 3) := by decide +kernel
theorem dX7_remove_31 : decode cX7_remove 31 = .ok (.aload_n 0, 1) := by decide +kernel
theorem dX7_remove_32 : decode cX7_remove 32 = .ok (.getfield 15, 3) := by decide +kernel
theorem dX7_remove_35 : decode cX7_remove 35 = .ok (.iload_n 1, 1) := by decide +kernel
theorem dX7_remove_36 : decode cX7_remove 36 = .ok (.iconst 1, 1) := by decide +kernel
theorem dX7_remove_37 : decode cX7_remove 37 = .ok (.iadd, 1) := by decide +kernel
theorem dX7_remove_38 : decode cX7_remove 38 = .ok (.aload_n 0, 1) := by decide +kernel
theorem dX7_remove_39 : decode cX7_remove 39 = .ok (.getfield 15, 3) := by decide +kernel
theorem dX7_remove_42 : decode cX7_remove 42 = .ok (.iload_n 1, 1) := by decide +kernel
theorem dX7_remove_43 : decode cX7_remove 43 = .ok (.aload_n 0, 1) := by decide +kernel
theorem dX7_remove_44 : decode cX7_remove 44 = .ok (.getfield 18, 3) := by decide +kernel
theorem dX7_remove_47 : decode cX7_remove 47 = .ok (.iload_n 1, 1) := by decide +kernel
theorem dX7_remove_48 : decode cX7_remove 48 = .ok (.isub, 1) := by decide +kernel
theorem dX7_remove_49 : decode cX7_remove 49 = .ok (.invokestatic 22, 3) := by decide +kernel
theorem dX7_remove_52 : decode cX7_remove 52 = .ok (.return_, 1) := by decide +kernel
theorem dX7_firstThatHas_0 : decode cX7_firstThatHas 0 = .ok (.iconst 0, 1) := by decide +kernel
theorem dX7_firstThatHas_1 : decode cX7_firstThatHas 1 = .ok (.istore_n 2, 1) := by decide +kernel
theorem dX7_firstThatHas_2 : decode cX7_firstThatHas 2 = .ok (.iload_n 2, 1) := by decide +kernel
theorem dX7_firstThatHas_3 : decode cX7_firstThatHas 3 = .ok (.aload_n 0, 1) := by decide +kernel
theorem dX7_firstThatHas_4 : decode cX7_firstThatHas 4 = .ok (.getfield 18, 3) := by decide +kernel
theorem dX7_firstThatHas_7 : decode cX7_firstThatHas 7 = .ok (.if_icmp .ge 24, 3) := by decide +kernel
theorem dX7_firstThatHas_10 : decode cX7_firstThatHas 10 = .ok (.iload_n 1, 1) := by decide +kernel
theorem dX7_firstThatHas_11 : decode cX7_firstThatHas 11 = .ok (.aload_n 0, 1) := by decide +kernel
theorem dX7_firstThatHas_12 : decode cX7_firstThatHas 12 = .ok (.getfield 9, 3) := by decide +kernel
theorem dX7_firstThatHas_15 : decode cX7_firstThatHas 15 = .ok (.iload_n 2, 1) := by decide +kernel
theorem dX7_firstThatHas_16 : decode cX7_firstThatHas 16 = .ok (.iaload, 1) := by decide +kernel
theorem dX7_firstThatHas_17 : decode cX7_firstThatHas 17 = .ok (.iconst (-1), 1) := by decide +kernel
theorem dX7_firstThatHas_18 : decode cX7_firstThatHas 18 = .ok (.ixor, 1) := by decide +kernel
theorem dX7_firstThatHas_19 : decode cX7_firstThatHas 19 = .ok (.iand, 1) := by decide +kernel
theorem dX7_firstThatHas_20 : decode cX7_firstThatHas 20 = .ok (.ifCond .ne 5, 3) := by decide +kernel
theorem dX7_firstThatHas_23 : decode cX7_firstThatHas 23 = .ok (.iload_n 2, 1) := by decide +kernel
theorem dX7_firstThatHas_24 : decode cX7_firstThatHas 24 = .ok (.ireturn, 1) := by decide +kernel
theorem dX7_firstThatHas_25 : decode cX7_firstThatHas 25 = .ok (.iinc 2 1, 3) := by decide +kernel
theorem dX7_firstThatHas_28 : decode cX7_firstThatHas 28 = .ok (.goto (-26), 3) := by decide +kernel
theorem dX7_firstThatHas_31 : decode cX7_firstThatHas 31 = .ok (.bipush (-2), 2) := by decide +kernel
theorem dX7_firstThatHas_33 : decode cX7_firstThatHas 33 = .ok (.ireturn, 1) := by decide +kernel
theorem dX7_wholeOnes_0 : decode cX7_wholeOnes 0 = .ok (.iconst 0, 1) := by decide +kernel
theorem dX7_wholeOnes_1 : decode cX7_wholeOnes 1 = .ok (.istore_n 2, 1) := by decide +kernel
theorem dX7_wholeOnes_2 : decode cX7_wholeOnes 2 = .ok (.iconst 0, 1) := by decide +kernel
theorem dX7_wholeOnes_3 : decode cX7_wholeOnes 3 = .ok (.istore_n 3, 1) := by decide +kernel
theorem dX7_wholeOnes_4 : decode cX7_wholeOnes 4 = .ok (.iload_n 3, 1) := by decide +kernel
theorem dX7_wholeOnes_5 : decode cX7_wholeOnes 5 = .ok (.aload_n 0, 1) := by decide +kernel
theorem dX7_wholeOnes_6 : decode cX7_wholeOnes 6 = .ok (.getfield 18, 3) := by decide +kernel
theorem dX7_wholeOnes_9 : decode cX7_wholeOnes 9 = .ok (.if_icmp .ge 30, 3) := by decide +kernel
theorem dX7_wholeOnes_12 : decode cX7_wholeOnes 12 = .ok (.iload_n 2, 1) := by decide +kernel
theorem dX7_wholeOnes_13 : decode cX7_wholeOnes 13 = .ok (.aload_n 0, 1) := by decide +kernel
theorem dX7_wholeOnes_14 : decode cX7_wholeOnes 14 = .ok (.getfield 9, 3) := by decide +kernel
theorem dX7_wholeOnes_17 : decode cX7_wholeOnes 17 = .ok (.iload_n 3, 1) := by decide +kernel
theorem dX7_wholeOnes_18 : decode cX7_wholeOnes 18 = .ok (.iaload, 1) := by decide +kernel
theorem dX7_wholeOnes_19 : decode cX7_wholeOnes 19 = .ok (.invokestatic 28, 3) := by decide +kernel
theorem dX7_wholeOnes_22 : decode cX7_wholeOnes 22 = .ok (.iload_n 1, 1) := by decide +kernel
theorem dX7_wholeOnes_23 : decode cX7_wholeOnes 23 = .ok (.if_icmp .ne 7, 3) := by decide +kernel
theorem dX7_wholeOnes_26 : decode cX7_wholeOnes 26 = .ok (.iconst 1, 1) := by decide +kernel
theorem dX7_wholeOnes_27 : decode cX7_wholeOnes 27 = .ok (.goto 4, 3) := by decide +kernel
theorem dX7_wholeOnes_30 : decode cX7_wholeOnes 30 = .ok (.iconst 0, 1) := by decide +kernel
theorem dX7_wholeOnes_31 : decode cX7_wholeOnes 31 = .ok (.iadd, 1) := by decide +kernel
theorem dX7_wholeOnes_32 : decode cX7_wholeOnes 32 = .ok (.istore_n 2, 1) := by decide +kernel
theorem dX7_wholeOnes_33 : decode cX7_wholeOnes 33 = .ok (.iinc 3 1, 3) := by decide +kernel
theorem dX7_wholeOnes_36 : decode cX7_wholeOnes 36 = .ok (.goto (-32), 3) := by decide +kernel
theorem dX7_wholeOnes_39 : decode cX7_wholeOnes 39 = .ok (.iload_n 2, 1) := by decide +kernel
theorem dX7_wholeOnes_40 : decode cX7_wholeOnes 40 = .ok (.ireturn, 1) := by decide +kernel
theorem dX7_freeCells_0 : decode cX7_freeCells 0 = .ok (.iconst 0, 1) := by decide +kernel
theorem dX7_freeCells_1 : decode cX7_freeCells 1 = .ok (.istore_n 2, 1) := by decide +kernel
theorem dX7_freeCells_2 : decode cX7_freeCells 2 = .ok (.iconst 0, 1) := by decide +kernel
theorem dX7_freeCells_3 : decode cX7_freeCells 3 = .ok (.istore_n 3, 1) := by decide +kernel
theorem dX7_freeCells_4 : decode cX7_freeCells 4 = .ok (.iload_n 3, 1) := by decide +kernel
theorem dX7_freeCells_5 : decode cX7_freeCells 5 = .ok (.aload_n 0, 1) := by decide +kernel
theorem dX7_freeCells_6 : decode cX7_freeCells 6 = .ok (.getfield 18, 3) := by decide +kernel
theorem dX7_freeCells_9 : decode cX7_freeCells 9 = .ok (.if_icmp .ge 23, 3) := by decide +kernel
theorem dX7_freeCells_12 : decode cX7_freeCells 12 = .ok (.iload_n 2, 1) := by decide +kernel
theorem dX7_freeCells_13 : decode cX7_freeCells 13 = .ok (.iload_n 1, 1) := by decide +kernel
theorem dX7_freeCells_14 : decode cX7_freeCells 14 = .ok (.aload_n 0, 1) := by decide +kernel
theorem dX7_freeCells_15 : decode cX7_freeCells 15 = .ok (.getfield 9, 3) := by decide +kernel
theorem dX7_freeCells_18 : decode cX7_freeCells 18 = .ok (.iload_n 3, 1) := by decide +kernel
theorem dX7_freeCells_19 : decode cX7_freeCells 19 = .ok (.iaload, 1) := by decide +kernel
theorem dX7_freeCells_20 : decode cX7_freeCells 20 = .ok (.invokestatic 28, 3) := by decide +kernel
theorem dX7_freeCells_23 : decode cX7_freeCells 23 = .ok (.isub, 1) := by decide +kernel
theorem dX7_freeCells_24 : decode cX7_freeCells 24 = .ok (.iadd, 1) := by decide +kernel
theorem dX7_freeCells_25 : decode cX7_freeCells 25 = .ok (.istore_n 2, 1) := by decide +kernel
theorem dX7_freeCells_26 : decode cX7_freeCells 26 = .ok (.iinc 3 1, 3) := by decide +kernel
theorem dX7_freeCells_29 : decode cX7_freeCells 29 = .ok (.goto (-25), 3) := by decide +kernel
theorem dX7_freeCells_32 : decode cX7_freeCells 32 = .ok (.iload_n 2, 1) := by decide +kernel
theorem dX7_freeCells_33 : decode cX7_freeCells 33 = .ok (.ireturn, 1) := by decide +kernel
theorem dX7_toldAs_0 : decode cX7_toldAs 0 = .ok (.iconst 0, 1) := by decide +kernel
theorem dX7_toldAs_1 : decode cX7_toldAs 1 = .ok (.istore_n 2, 1) := by decide +kernel
theorem dX7_toldAs_2 : decode cX7_toldAs 2 = .ok (.iconst 0, 1) := by decide +kernel
theorem dX7_toldAs_3 : decode cX7_toldAs 3 = .ok (.istore_n 3, 1) := by decide +kernel
theorem dX7_toldAs_4 : decode cX7_toldAs 4 = .ok (.iload_n 3, 1) := by decide +kernel
theorem dX7_toldAs_5 : decode cX7_toldAs 5 = .ok (.aload_n 0, 1) := by decide +kernel
theorem dX7_toldAs_6 : decode cX7_toldAs 6 = .ok (.getfield 18, 3) := by decide +kernel
theorem dX7_toldAs_9 : decode cX7_toldAs 9 = .ok (.if_icmp .ge 27, 3) := by decide +kernel
theorem dX7_toldAs_12 : decode cX7_toldAs 12 = .ok (.iload_n 2, 1) := by decide +kernel
theorem dX7_toldAs_13 : decode cX7_toldAs 13 = .ok (.aload_n 0, 1) := by decide +kernel
theorem dX7_toldAs_14 : decode cX7_toldAs 14 = .ok (.getfield 15, 3) := by decide +kernel
theorem dX7_toldAs_17 : decode cX7_toldAs 17 = .ok (.iload_n 3, 1) := by decide +kernel
theorem dX7_toldAs_18 : decode cX7_toldAs 18 = .ok (.iaload, 1) := by decide +kernel
theorem dX7_toldAs_19 : decode cX7_toldAs 19 = .ok (.iload_n 1, 1) := by decide +kernel
theorem dX7_toldAs_20 : decode cX7_toldAs 20 = .ok (.if_icmp .ne 7, 3) := by decide +kernel
theorem dX7_toldAs_23 : decode cX7_toldAs 23 = .ok (.iconst 1, 1) := by decide +kernel
theorem dX7_toldAs_24 : decode cX7_toldAs 24 = .ok (.goto 4, 3) := by decide +kernel
theorem dX7_toldAs_27 : decode cX7_toldAs 27 = .ok (.iconst 0, 1) := by decide +kernel
theorem dX7_toldAs_28 : decode cX7_toldAs 28 = .ok (.iadd, 1) := by decide +kernel
theorem dX7_toldAs_29 : decode cX7_toldAs 29 = .ok (.istore_n 2, 1) := by decide +kernel
theorem dX7_toldAs_30 : decode cX7_toldAs 30 = .ok (.iinc 3 1, 3) := by decide +kernel
theorem dX7_toldAs_33 : decode cX7_toldAs 33 = .ok (.goto (-29), 3) := by decide +kernel
theorem dX7_toldAs_36 : decode cX7_toldAs 36 = .ok (.iload_n 2, 1) := by decide +kernel
theorem dX7_toldAs_37 : decode cX7_toldAs 37 = .ok (.ireturn, 1) := by decide +kernel
theorem dX8_init_0 : decode cX8_init 0 = .ok (.aload_n 0, 1) := by decide +kernel
theorem dX8_init_1 : decode cX8_init 1 = .ok (.invokespecial 1, 3) := by decide +kernel
theorem dX8_init_4 : decode cX8_init 4 = .ok (.aload_n 0, 1) := by decide +kernel
theorem dX8_init_5 : decode cX8_init 5 = .ok (.new 7, 3) := by decide +kernel
theorem dX8_init_8 : decode cX8_init 8 = .ok (.dup, 1) := by decide +kernel
theorem dX8_init_9 : decode cX8_init 9 = .ok (.invokespecial 9, 3) := by decide +kernel
theorem dX8_init_12 : decode cX8_init 12 = .ok (.putfield 10, 3) := by decide +kernel
theorem dX8_init_15 : decode cX8_init 15 = .ok (.aload_n 0, 1) := by decide +kernel
theorem dX8_init_16 : decode cX8_init 16 = .ok (.new 16, 3) := by decide +kernel
theorem dX8_init_19 : decode cX8_init 19 = .ok (.dup, 1) := by decide +kernel
theorem dX8_init_20 : decode cX8_init 20 = .ok (.invokespecial 18, 3) := by decide +kernel
theorem dX8_init_23 : decode cX8_init 23 = .ok (.putfield 19, 3) := by decide +kernel
theorem dX8_init_26 : decode cX8_init 26 = .ok (.return_, 1) := by decide +kernel
theorem dX8_copyFrom_0 : decode cX8_copyFrom 0 = .ok (.aload_n 0, 1) := by decide +kernel
theorem dX8_copyFrom_1 : decode cX8_copyFrom 1 = .ok (.getfield 10, 3) := by decide +kernel
theorem dX8_copyFrom_4 : decode cX8_copyFrom 4 = .ok (.aload_n 1, 1) := by decide +kernel
theorem dX8_copyFrom_5 : decode cX8_copyFrom 5 = .ok (.getfield 10, 3) := by decide +kernel
theorem dX8_copyFrom_8 : decode cX8_copyFrom 8 = .ok (.invokevirtual 23, 3) := by decide +kernel
theorem dX8_copyFrom_11 : decode cX8_copyFrom 11 = .ok (.aload_n 0, 1) := by decide +kernel
theorem dX8_copyFrom_12 : decode cX8_copyFrom 12 = .ok (.getfield 19, 3) := by decide +kernel
theorem dX8_copyFrom_15 : decode cX8_copyFrom 15 = .ok (.aload_n 1, 1) := by decide +kernel
theorem dX8_copyFrom_16 : decode cX8_copyFrom 16 = .ok (.getfield 19, 3) := by decide +kernel
theorem dX8_copyFrom_19 : decode cX8_copyFrom 19 = .ok (.invokevirtual 27, 3) := by decide +kernel
theorem dX8_copyFrom_22 : decode cX8_copyFrom 22 = .ok (.aload_n 0, 1) := by decide +kernel
theorem dX8_copyFrom_23 : decode cX8_copyFrom 23 = .ok (.aload_n 1, 1) := by decide +kernel
theorem dX8_copyFrom_24 : decode cX8_copyFrom 24 = .ok (.getfield 30, 3) := by decide +kernel
theorem dX8_copyFrom_27 : decode cX8_copyFrom 27 = .ok (.putfield 30, 3) := by decide +kernel
theorem dX8_copyFrom_30 : decode cX8_copyFrom 30 = .ok (.return_, 1) := by decide +kernel
theorem dX9_init_0 : decode cX9_init 0 = .ok (.aload_n 0, 1) := by decide +kernel
theorem dX9_init_1 : decode cX9_init 1 = .ok (.invokespecial 3, 3) := by decide +kernel
theorem dX9_init_4 : decode cX9_init 4 = .ok (.aload_n 0, 1) := by decide +kernel
theorem dX9_init_5 : decode cX9_init 5 = .ok (.bipush 56, 2) := by decide +kernel
theorem dX9_init_7 : decode cX9_init 7 = .ok (.newarray .int, 2) := by decide +kernel
theorem dX9_init_9 : decode cX9_init 9 = .ok (.putfield 9, 3) := by decide +kernel
theorem dX9_init_12 : decode cX9_init 12 = .ok (.aload_n 0, 1) := by decide +kernel
theorem dX9_init_13 : decode cX9_init 13 = .ok (.bipush 56, 2) := by decide +kernel
theorem dX9_init_15 : decode cX9_init 15 = .ok (.newarray .int, 2) := by decide +kernel
theorem dX9_init_17 : decode cX9_init 17 = .ok (.putfield 15, 3) := by decide +kernel
theorem dX9_init_20 : decode cX9_init 20 = .ok (.aload_n 0, 1) := by decide +kernel
theorem dX9_init_21 : decode cX9_init 21 = .ok (.new 18, 3) := by decide +kernel
theorem dX9_init_24 : decode cX9_init 24 = .ok (.dup, 1) := by decide +kernel
theorem dX9_init_25 : decode cX9_init 25 = .ok (.invokespecial 20, 3) := by decide +kernel
theorem dX9_init_28 : decode cX9_init 28 = .ok (.putfield 21, 3) := by decide +kernel
theorem dX9_init_31 : decode cX9_init 31 = .ok (.return_, 1) := by decide +kernel
theorem dX9_find_0 : decode cX9_find 0 = .ok (.aload_n 0, 1) := by decide +kernel
theorem dX9_find_1 : decode cX9_find 1 = .ok (.iconst 0, 1) := by decide +kernel
theorem dX9_find_2 : decode cX9_find 2 = .ok (.putfield 25, 3) := by decide +kernel
theorem dX9_find_5 : decode cX9_find 5 = .ok (.aload_n 2, 1) := by decide +kernel
theorem dX9_find_6 : decode cX9_find 6 = .ok (.iconst 2, 1) := by decide +kernel
theorem dX9_find_7 : decode cX9_find 7 = .ok (.invokevirtual 29, 3) := by decide +kernel
theorem dX9_find_10 : decode cX9_find 10 = .ok (.ifCond .ne 4, 3) := by decide +kernel
theorem dX9_find_13 : decode cX9_find 13 = .ok (.return_, 1) := by decide +kernel
theorem dX9_find_14 : decode cX9_find 14 = .ok (.iconst (-1), 1) := by decide +kernel
theorem dX9_find_15 : decode cX9_find 15 = .ok (.istore 4, 2) := by decide +kernel
theorem dX9_find_17 : decode cX9_find 17 = .ok (.iconst 0, 1) := by decide +kernel
theorem dX9_find_18 : decode cX9_find 18 = .ok (.istore 5, 2) := by decide +kernel
theorem dX9_find_20 : decode cX9_find 20 = .ok (.iload 5, 2) := by decide +kernel
theorem dX9_find_22 : decode cX9_find 22 = .ok (.aload_n 2, 1) := by decide +kernel
theorem dX9_find_23 : decode cX9_find 23 = .ok (.getfield 35, 3) := by decide +kernel
theorem dX9_find_26 : decode cX9_find 26 = .ok (.if_icmp .ge 32, 3) := by decide +kernel
theorem dX9_find_29 : decode cX9_find 29 = .ok (.aload_n 2, 1) := by decide +kernel
theorem dX9_find_30 : decode cX9_find 30 = .ok (.getfield 36, 3) := by decide +kernel
theorem dX9_find_33 : decode cX9_find 33 = .ok (.iload 5, 2) := by decide +kernel
theorem dX9_find_35 : decode cX9_find 35 = .ok (.iaload, 1) := by decide +kernel
theorem dX9_find_36 : decode cX9_find 36 = .ok (.iconst 2, 1) := by decide +kernel
theorem dX9_find_37 : decode cX9_find 37 = .ok (.if_icmp .ne 15, 3) := by decide +kernel
theorem dX9_find_40 : decode cX9_find 40 = .ok (.iload 4, 2) := by decide +kernel
theorem dX9_find_42 : decode cX9_find 42 = .ok (.aload_n 2, 1) := by decide +kernel
theorem dX9_find_43 : decode cX9_find 43 = .ok (.getfield 39, 3) := by decide +kernel
theorem dX9_find_46 : decode cX9_find 46 = .ok (.iload 5, 2) := by decide +kernel
theorem dX9_find_48 : decode cX9_find 48 = .ok (.iaload, 1) := by decide +kernel
theorem dX9_find_49 : decode cX9_find 49 = .ok (.iand, 1) := by decide +kernel
theorem dX9_find_50 : decode cX9_find 50 = .ok (.istore 4, 2) := by decide +kernel
theorem dX9_find_52 : decode cX9_find 52 = .ok (.iinc 5 1, 3) := by decide +kernel
theorem dX9_find_55 : decode cX9_find 55 = .ok (.goto (-35), 3) := by decide +kernel
theorem dX9_find_58 : decode cX9_find 58 = .ok (.aload_n 0, 1) := by decide +kernel
theorem dX9_find_59 : decode cX9_find 59 = .ok (.getfield 21, 3) := by decide +kernel
theorem dX9_find_62 : decode cX9_find 62 = .ok (.aload_n 1, 1) := by decide +kernel
theorem dX9_find_63 : decode cX9_find 63 = .ok (.iload_n 3, 1) := by decide +kernel
theorem dX9_find_64 : decode cX9_find 64 = .ok (.invokevirtual 42, 3) := by decide +kernel
theorem dX9_find_67 : decode cX9_find 67 = .ok (.iconst 0, 1) := by decide +kernel
theorem dX9_find_68 : decode cX9_find 68 = .ok (.istore 5, 2) := by decide +kernel
theorem dX9_find_70 : decode cX9_find 70 = .ok (.iload 5, 2) := by decide +kernel
theorem dX9_find_72 : decode cX9_find 72 = .ok (.aload_n 0, 1) := by decide +kernel
theorem dX9_find_73 : decode cX9_find 73 = .ok (.getfield 21, 3) := by decide +kernel
theorem dX9_find_76 : decode cX9_find 76 = .ok (.getfield 46, 3) := by decide +kernel
theorem dX9_find_79 : decode cX9_find 79 = .ok (.if_icmp .ge 83, 3) := by decide +kernel
theorem dX9_find_82 : decode cX9_find 82 = .ok (.aload_n 0, 1) := by decide +kernel
theorem dX9_find_83 : decode cX9_find 83 = .ok (.getfield 21, 3) := by decide +kernel
theorem dX9_find_86 : decode cX9_find 86 = .ok (.iload 5, 2) := by decide +kernel
theorem dX9_find_88 : decode cX9_find 88 = .ok (.iload 4, 2) := by decide +kernel
theorem dX9_find_90 : decode cX9_find 90 = .ok (.invokevirtual 47, 3) := by decide +kernel
theorem dX9_find_93 : decode cX9_find 93 = .ok (.istore 6, 2) := by decide +kernel
theorem dX9_find_95 : decode cX9_find 95 = .ok (.aload_n 0, 1) := by decide +kernel
theorem dX9_find_96 : decode cX9_find 96 = .ok (.getfield 21, 3) := by decide +kernel
theorem dX9_find_99 : decode cX9_find 99 = .ok (.iload 5, 2) := by decide +kernel
theorem dX9_find_101 : decode cX9_find 101 = .ok (.iload 4, 2) := by decide +kernel
theorem dX9_find_103 : decode cX9_find 103 = .ok (.invokevirtual 51, 3) := by decide +kernel
theorem dX9_find_106 : decode cX9_find 106 = .ok (.istore 7, 2) := by decide +kernel
theorem dX9_find_108 : decode cX9_find 108 = .ok (.iload 6, 2) := by decide +kernel
theorem dX9_find_110 : decode cX9_find 110 = .ok (.iconst (-1), 1) := by decide +kernel
theorem dX9_find_111 : decode cX9_find 111 = .ok (.if_icmp .eq 45, 3) := by decide +kernel
theorem dX9_find_114 : decode cX9_find 114 = .ok (.aload_n 0, 1) := by decide +kernel
theorem dX9_find_115 : decode cX9_find 115 = .ok (.aload_n 2, 1) := by decide +kernel
theorem dX9_find_116 : decode cX9_find 116 = .ok (.iload 7, 2) := by decide +kernel
theorem dX9_find_118 : decode cX9_find 118 = .ok (.invokevirtual 54, 3) := by decide +kernel
theorem dX9_find_121 : decode cX9_find 121 = .ok (.ifCond .ne 35, 3) := by decide +kernel
theorem dX9_find_124 : decode cX9_find 124 = .ok (.aload_n 0, 1) := by decide +kernel
theorem dX9_find_125 : decode cX9_find 125 = .ok (.getfield 9, 3) := by decide +kernel
theorem dX9_find_128 : decode cX9_find 128 = .ok (.aload_n 0, 1) := by decide +kernel
theorem dX9_find_129 : decode cX9_find 129 = .ok (.getfield 25, 3) := by decide +kernel
theorem dX9_find_132 : decode cX9_find 132 = .ok (.iload 6, 2) := by decide +kernel
theorem dX9_find_134 : decode cX9_find 134 = .ok (.iastore, 1) := by decide +kernel
theorem dX9_find_135 : decode cX9_find 135 = .ok (.aload_n 0, 1) := by decide +kernel
theorem dX9_find_136 : decode cX9_find 136 = .ok (.getfield 15, 3) := by decide +kernel
theorem dX9_find_139 : decode cX9_find 139 = .ok (.aload_n 0, 1) := by decide +kernel
theorem dX9_find_140 : decode cX9_find 140 = .ok (.getfield 25, 3) := by decide +kernel
theorem dX9_find_143 : decode cX9_find 143 = .ok (.iload 7, 2) := by decide +kernel
theorem dX9_find_145 : decode cX9_find 145 = .ok (.iastore, 1) := by decide +kernel
theorem dX9_find_146 : decode cX9_find 146 = .ok (.aload_n 0, 1) := by decide +kernel
theorem dX9_find_147 : decode cX9_find 147 = .ok (.dup, 1) := by decide +kernel
theorem dX9_find_148 : decode cX9_find 148 = .ok (.getfield 25, 3) := by decide +kernel
theorem dX9_find_151 : decode cX9_find 151 = .ok (.iconst 1, 1) := by decide +kernel
theorem dX9_find_152 : decode cX9_find 152 = .ok (.iadd, 1) := by decide +kernel
theorem dX9_find_153 : decode cX9_find 153 = .ok (.putfield 25, 3) := by decide +kernel
theorem dX9_find_156 : decode cX9_find 156 = .ok (.iinc 5 1, 3) := by decide +kernel
theorem dX9_find_159 : decode cX9_find 159 = .ok (.goto (-89), 3) := by decide +kernel
theorem dX9_find_162 : decode cX9_find 162 = .ok (.return_, 1) := by decide +kernel
theorem dX9_passed_0 : decode cX9_passed 0 = .ok (.iconst 0, 1) := by decide +kernel
theorem dX9_passed_1 : decode cX9_passed 1 = .ok (.istore_n 3, 1) := by decide +kernel
theorem dX9_passed_2 : decode cX9_passed 2 = .ok (.iload_n 3, 1) := by decide +kernel
theorem dX9_passed_3 : decode cX9_passed 3 = .ok (.aload_n 1, 1) := by decide +kernel
theorem dX9_passed_4 : decode cX9_passed 4 = .ok (.getfield 35, 3) := by decide +kernel
theorem dX9_passed_7 : decode cX9_passed 7 = .ok (.if_icmp .ge 34, 3) := by decide +kernel
theorem dX9_passed_10 : decode cX9_passed 10 = .ok (.aload_n 1, 1) := by decide +kernel
theorem dX9_passed_11 : decode cX9_passed 11 = .ok (.getfield 36, 3) := by decide +kernel
theorem dX9_passed_14 : decode cX9_passed 14 = .ok (.iload_n 3, 1) := by decide +kernel
theorem dX9_passed_15 : decode cX9_passed 15 = .ok (.iaload, 1) := by decide +kernel
theorem dX9_passed_16 : decode cX9_passed 16 = .ok (.iconst 1, 1) := by decide +kernel
theorem dX9_passed_17 : decode cX9_passed 17 = .ok (.if_icmp .ne 18, 3) := by decide +kernel
theorem dX9_passed_20 : decode cX9_passed 20 = .ok (.iload_n 2, 1) := by decide +kernel
theorem dX9_passed_21 : decode cX9_passed 21 = .ok (.aload_n 1, 1) := by decide +kernel
theorem dX9_passed_22 : decode cX9_passed 22 = .ok (.getfield 39, 3) := by decide +kernel
theorem dX9_passed_25 : decode cX9_passed 25 = .ok (.iload_n 3, 1) := by decide +kernel
theorem dX9_passed_26 : decode cX9_passed 26 = .ok (.iaload, 1) := by decide +kernel
theorem dX9_passed_27 : decode cX9_passed 27 = .ok (.iconst (-1), 1) := by decide +kernel
theorem dX9_passed_28 : decode cX9_passed 28 = .ok (.ixor, 1) := by decide +kernel
theorem dX9_passed_29 : decode cX9_passed 29 = .ok (.iand, 1) := by decide +kernel
theorem dX9_passed_30 : decode cX9_passed 30 = .ok (.ifCond .ne 5, 3) := by decide +kernel
theorem dX9_passed_33 : decode cX9_passed 33 = .ok (.iconst 1, 1) := by decide +kernel
theorem dX9_passed_34 : decode cX9_passed 34 = .ok (.ireturn, 1) := by decide +kernel
theorem dX9_passed_35 : decode cX9_passed 35 = .ok (.iinc 3 1, 3) := by decide +kernel
theorem dX9_passed_38 : decode cX9_passed 38 = .ok (.goto (-36), 3) := by decide +kernel
theorem dX9_passed_41 : decode cX9_passed 41 = .ok (.iconst 0, 1) := by decide +kernel
theorem dX9_passed_42 : decode cX9_passed 42 = .ok (.ireturn, 1) := by decide +kernel
theorem dX9_lesserPart_0 : decode cX9_lesserPart 0 = .ok (.iconst 0, 1) := by decide +kernel
theorem dX9_lesserPart_1 : decode cX9_lesserPart 1 = .ok (.istore_n 2, 1) := by decide +kernel
theorem dX9_lesserPart_2 : decode cX9_lesserPart 2 = .ok (.iconst 0, 1) := by decide +kernel
theorem dX9_lesserPart_3 : decode cX9_lesserPart 3 = .ok (.istore_n 3, 1) := by decide +kernel
theorem dX9_lesserPart_4 : decode cX9_lesserPart 4 = .ok (.iload_n 3, 1) := by decide +kernel
theorem dX9_lesserPart_5 : decode cX9_lesserPart 5 = .ok (.aload_n 0, 1) := by decide +kernel
theorem dX9_lesserPart_6 : decode cX9_lesserPart 6 = .ok (.getfield 25, 3) := by decide +kernel
theorem dX9_lesserPart_9 : decode cX9_lesserPart 9 = .ok (.if_icmp .ge 30, 3) := by decide +kernel
theorem dX9_lesserPart_12 : decode cX9_lesserPart 12 = .ok (.iload_n 2, 1) := by decide +kernel
theorem dX9_lesserPart_13 : decode cX9_lesserPart 13 = .ok (.aload_n 0, 1) := by decide +kernel
theorem dX9_lesserPart_14 : decode cX9_lesserPart 14 = .ok (.getfield 15, 3) := by decide +kernel
theorem dX9_lesserPart_17 : decode cX9_lesserPart 17 = .ok (.iload_n 3, 1) := by decide +kernel
theorem dX9_lesserPart_18 : decode cX9_lesserPart 18 = .ok (.iaload, 1) := by decide +kernel
theorem dX9_lesserPart_19 : decode cX9_lesserPart 19 = .ok (.iload_n 1, 1) := by decide +kernel
theorem dX9_lesserPart_20 : decode cX9_lesserPart 20 = .ok (.iconst (-1), 1) := by decide +kernel
theorem dX9_lesserPart_21 : decode cX9_lesserPart 21 = .ok (.ixor, 1) := by decide +kernel
theorem dX9_lesserPart_22 : decode cX9_lesserPart 22 = .ok (.iand, 1) := by decide +kernel
theorem dX9_lesserPart_23 : decode cX9_lesserPart 23 = .ok (.ifCond .ne 7, 3) := by decide +kernel
theorem dX9_lesserPart_26 : decode cX9_lesserPart 26 = .ok (.iconst 1, 1) := by decide +kernel
theorem dX9_lesserPart_27 : decode cX9_lesserPart 27 = .ok (.goto 4, 3) := by decide +kernel
theorem dX9_lesserPart_30 : decode cX9_lesserPart 30 = .ok (.iconst 0, 1) := by decide +kernel
theorem dX9_lesserPart_31 : decode cX9_lesserPart 31 = .ok (.iadd, 1) := by decide +kernel
theorem dX9_lesserPart_32 : decode cX9_lesserPart 32 = .ok (.istore_n 2, 1) := by decide +kernel
theorem dX9_lesserPart_33 : decode cX9_lesserPart 33 = .ok (.iinc 3 1, 3) := by decide +kernel
theorem dX9_lesserPart_36 : decode cX9_lesserPart 36 = .ok (.goto (-32), 3) := by decide +kernel
theorem dX9_lesserPart_39 : decode cX9_lesserPart 39 = .ok (.iload_n 2, 1) := by decide +kernel
theorem dX9_lesserPart_40 : decode cX9_lesserPart 40 = .ok (.aload_n 0, 1) := by decide +kernel
theorem dX9_lesserPart_41 : decode cX9_lesserPart 41 = .ok (.getfield 25, 3) := by decide +kernel
theorem dX9_lesserPart_44 : decode cX9_lesserPart 44 = .ok (.iload_n 2, 1) := by decide +kernel
theorem dX9_lesserPart_45 : decode cX9_lesserPart 45 = .ok (.isub, 1) := by decide +kernel
theorem dX9_lesserPart_46 : decode cX9_lesserPart 46 = .ok (.invokestatic 58, 3) := by decide +kernel
theorem dX9_lesserPart_49 : decode cX9_lesserPart 49 = .ok (.ireturn, 1) := by decide +kernel
theorem dX9_rowThatPartsBest_0 : decode cX9_rowThatPartsBest 0 = .ok (.iconst (-1), 1) := by decide +kernel
theorem dX9_rowThatPartsBest_1 : decode cX9_rowThatPartsBest 1 = .ok (.istore_n 2, 1) := by decide +kernel
theorem dX9_rowThatPartsBest_2 : decode cX9_rowThatPartsBest 2 = .ok (.iconst (-1), 1) := by decide +kernel
theorem dX9_rowThatPartsBest_3 : decode cX9_rowThatPartsBest 3 = .ok (.istore_n 3, 1) := by decide +kernel
theorem dX9_rowThatPartsBest_4 : decode cX9_rowThatPartsBest 4 = .ok (.iconst 0, 1) := by decide +kernel
theorem dX9_rowThatPartsBest_5 : decode cX9_rowThatPartsBest 5 = .ok (.istore 4, 2) := by decide +kernel
theorem dX9_rowThatPartsBest_7 : decode cX9_rowThatPartsBest 7 = .ok (.aload_n 0, 1) := by decide +kernel
theorem dX9_rowThatPartsBest_8 : decode cX9_rowThatPartsBest 8 = .ok (.getfield 25, 3) := by decide +kernel
theorem dX9_rowThatPartsBest_11 : decode cX9_rowThatPartsBest 11 = .ok (.ifCond .le 53, 3) := by decide +kernel
theorem dX9_rowThatPartsBest_14 : decode cX9_rowThatPartsBest 14 = .ok (.iload 4, 2) := by decide +kernel
theorem dX9_rowThatPartsBest_16 : decode cX9_rowThatPartsBest 16 = .ok (.aload_n 1, 1) := by decide +kernel
theorem dX9_rowThatPartsBest_17 : decode cX9_rowThatPartsBest 17 = .ok (.getfield 35, 3) := by decide +kernel
theorem dX9_rowThatPartsBest_20 : decode cX9_rowThatPartsBest 20 = .ok (.if_icmp .ge 44, 3) := by decide +kernel
theorem dX9_rowThatPartsBest_23 : decode cX9_rowThatPartsBest 23 = .ok (.aload_n 1, 1) := by decide +kernel
theorem dX9_rowThatPartsBest_24 : decode cX9_rowThatPartsBest 24 = .ok (.getfield 36, 3) := by decide +kernel
theorem dX9_rowThatPartsBest_27 : decode cX9_rowThatPartsBest 27 = .ok (.iload 4, 2) := by decide +kernel
theorem dX9_rowThatPartsBest_29 : decode cX9_rowThatPartsBest 29 = .ok (.iaload, 1) := by decide +kernel
theorem dX9_rowThatPartsBest_30 : decode cX9_rowThatPartsBest 30 = .ok (.ifCond .ne 28, 3) := by decide +kernel
theorem dX9_rowThatPartsBest_33 : decode cX9_rowThatPartsBest 33 = .ok (.aload_n 0, 1) := by decide +kernel
theorem dX9_rowThatPartsBest_34 : decode cX9_rowThatPartsBest 34 = .ok (.aload_n 1, 1) := by decide +kernel
theorem dX9_rowThatPartsBest_35 : decode cX9_rowThatPartsBest 35 = .ok (.getfield 39, 3) := by decide +kernel
theorem dX9_rowThatPartsBest_38 : decode cX9_rowThatPartsBest 38 = .ok (.iload 4, 2) := by decide +kernel
theorem dX9_rowThatPartsBest_40 : decode cX9_rowThatPartsBest 40 = .ok (.iaload, 1) := by decide +kernel
theorem dX9_rowThatPartsBest_41 : decode cX9_rowThatPartsBest 41 = .ok (.invokevirtual 63, 3) := by decide +kernel
theorem dX9_rowThatPartsBest_44 : decode cX9_rowThatPartsBest 44 = .ok (.istore 5, 2) := by decide +kernel
theorem dX9_rowThatPartsBest_46 : decode cX9_rowThatPartsBest 46 = .ok (.iload 5, 2) := by decide +kernel
theorem dX9_rowThatPartsBest_48 : decode cX9_rowThatPartsBest 48 = .ok (.iload_n 3, 1) := by decide +kernel
theorem dX9_rowThatPartsBest_49 : decode cX9_rowThatPartsBest 49 = .ok (.if_icmp .le 9, 3) := by decide +kernel
theorem dX9_rowThatPartsBest_52 : decode cX9_rowThatPartsBest 52 = .ok (.iload 5, 2) := by decide +kernel
theorem dX9_rowThatPartsBest_54 : decode cX9_rowThatPartsBest 54 = .ok (.istore_n 3, 1) := by decide +kernel
theorem dX9_rowThatPartsBest_55 : decode cX9_rowThatPartsBest 55 = .ok (.iload 4, 2) := by decide +kernel
theorem dX9_rowThatPartsBest_57 : decode cX9_rowThatPartsBest 57 = .ok (.istore_n 2, 1) := by decide +kernel
theorem dX9_rowThatPartsBest_58 : decode cX9_rowThatPartsBest 58 = .ok (.iinc 4 1, 3) := by decide +kernel
theorem dX9_rowThatPartsBest_61 : decode cX9_rowThatPartsBest 61 = .ok (.goto (-54), 3) := by decide +kernel
theorem dX9_rowThatPartsBest_64 : decode cX9_rowThatPartsBest 64 = .ok (.iload_n 2, 1) := by decide +kernel
theorem dX9_rowThatPartsBest_65 : decode cX9_rowThatPartsBest 65 = .ok (.ireturn, 1) := by decide +kernel
theorem dX10_init_0 : decode cX10_init 0 = .ok (.aload_n 0, 1) := by decide +kernel
theorem dX10_init_1 : decode cX10_init 1 = .ok (.invokespecial 3, 3) := by decide +kernel
theorem dX10_init_4 : decode cX10_init 4 = .ok (.aload_n 0, 1) := by decide +kernel
theorem dX10_init_5 : decode cX10_init 5 = .ok (.sipush 200, 3) := by decide +kernel
theorem dX10_init_8 : decode cX10_init 8 = .ok (.newarray .int, 2) := by decide +kernel
theorem dX10_init_10 : decode cX10_init 10 = .ok (.putfield 9, 3) := by decide +kernel
theorem dX10_init_13 : decode cX10_init 13 = .ok (.return_, 1) := by decide +kernel
theorem dX10_put_0 : decode cX10_put 0 = .ok (.bipush 24, 2) := by decide +kernel
theorem dX10_put_2 : decode cX10_put 2 = .ok (.istore_n 2, 1) := by decide +kernel
theorem dX10_put_3 : decode cX10_put 3 = .ok (.iload_n 2, 1) := by decide +kernel
theorem dX10_put_4 : decode cX10_put 4 = .ok (.ifCond .lt 45, 3) := by decide +kernel
theorem dX10_put_7 : decode cX10_put 7 = .ok (.aload_n 0, 1) := by decide +kernel
theorem dX10_put_8 : decode cX10_put 8 = .ok (.getfield 15, 3) := by decide +kernel
theorem dX10_put_11 : decode cX10_put 11 = .ok (.sipush 200, 3) := by decide +kernel
theorem dX10_put_14 : decode cX10_put 14 = .ok (.if_icmp .ge 35, 3) := by decide +kernel
theorem dX10_put_17 : decode cX10_put 17 = .ok (.aload_n 0, 1) := by decide +kernel
theorem dX10_put_18 : decode cX10_put 18 = .ok (.getfield 9, 3) := by decide +kernel
theorem dX10_put_21 : decode cX10_put 21 = .ok (.aload_n 0, 1) := by decide +kernel
theorem dX10_put_22 : decode cX10_put 22 = .ok (.getfield 15, 3) := by decide +kernel
theorem dX10_put_25 : decode cX10_put 25 = .ok (.iload_n 1, 1) := by decide +kernel
theorem dX10_put_26 : decode cX10_put 26 = .ok (.iload_n 2, 1) := by decide +kernel
theorem dX10_put_27 : decode cX10_put 27 = .ok (.iushr, 1) := by decide +kernel
theorem dX10_put_28 : decode cX10_put 28 = .ok (.sipush 255, 3) := by decide +kernel
theorem dX10_put_31 : decode cX10_put 31 = .ok (.iand, 1) := by decide +kernel
theorem dX10_put_32 : decode cX10_put 32 = .ok (.iastore, 1) := by decide +kernel
theorem dX10_put_33 : decode cX10_put 33 = .ok (.aload_n 0, 1) := by decide +kernel
theorem dX10_put_34 : decode cX10_put 34 = .ok (.dup, 1) := by decide +kernel
theorem dX10_put_35 : decode cX10_put 35 = .ok (.getfield 15, 3) := by decide +kernel
theorem dX10_put_38 : decode cX10_put 38 = .ok (.iconst 1, 1) := by decide +kernel
theorem dX10_put_39 : decode cX10_put 39 = .ok (.iadd, 1) := by decide +kernel
theorem dX10_put_40 : decode cX10_put 40 = .ok (.putfield 15, 3) := by decide +kernel
theorem dX10_put_43 : decode cX10_put 43 = .ok (.iinc 2 (-8), 3) := by decide +kernel
theorem dX10_put_46 : decode cX10_put 46 = .ok (.goto (-43), 3) := by decide +kernel
theorem dX10_put_49 : decode cX10_put 49 = .ok (.return_, 1) := by decide +kernel
theorem dX11_init_0 : decode cX11_init 0 = .ok (.aload_n 0, 1) := by decide +kernel
theorem dX11_init_1 : decode cX11_init 1 = .ok (.invokespecial 1, 3) := by decide +kernel
theorem dX11_init_4 : decode cX11_init 4 = .ok (.aload_n 0, 1) := by decide +kernel
theorem dX11_init_5 : decode cX11_init 5 = .ok (.new 7, 3) := by decide +kernel
theorem dX11_init_8 : decode cX11_init 8 = .ok (.dup, 1) := by decide +kernel
theorem dX11_init_9 : decode cX11_init 9 = .ok (.invokespecial 9, 3) := by decide +kernel
theorem dX11_init_12 : decode cX11_init 12 = .ok (.putfield 10, 3) := by decide +kernel
theorem dX11_init_15 : decode cX11_init 15 = .ok (.aload_n 0, 1) := by decide +kernel
theorem dX11_init_16 : decode cX11_init 16 = .ok (.new 16, 3) := by decide +kernel
theorem dX11_init_19 : decode cX11_init 19 = .ok (.dup, 1) := by decide +kernel
theorem dX11_init_20 : decode cX11_init 20 = .ok (.invokespecial 18, 3) := by decide +kernel
theorem dX11_init_23 : decode cX11_init 23 = .ok (.putfield 19, 3) := by decide +kernel
theorem dX11_init_26 : decode cX11_init 26 = .ok (.aload_n 0, 1) := by decide +kernel
theorem dX11_init_27 : decode cX11_init 27 = .ok (.new 23, 3) := by decide +kernel
theorem dX11_init_30 : decode cX11_init 30 = .ok (.dup, 1) := by decide +kernel
theorem dX11_init_31 : decode cX11_init 31 = .ok (.invokespecial 25, 3) := by decide +kernel
theorem dX11_init_34 : decode cX11_init 34 = .ok (.putfield 26, 3) := by decide +kernel
theorem dX11_init_37 : decode cX11_init 37 = .ok (.aload_n 0, 1) := by decide +kernel
theorem dX11_init_38 : decode cX11_init 38 = .ok (.new 30, 3) := by decide +kernel
theorem dX11_init_41 : decode cX11_init 41 = .ok (.dup, 1) := by decide +kernel
theorem dX11_init_42 : decode cX11_init 42 = .ok (.invokespecial 32, 3) := by decide +kernel
theorem dX11_init_45 : decode cX11_init 45 = .ok (.putfield 33, 3) := by decide +kernel
theorem dX11_init_48 : decode cX11_init 48 = .ok (.aload_n 0, 1) := by decide +kernel
theorem dX11_init_49 : decode cX11_init 49 = .ok (.new 37, 3) := by decide +kernel
theorem dX11_init_52 : decode cX11_init 52 = .ok (.dup, 1) := by decide +kernel
theorem dX11_init_53 : decode cX11_init 53 = .ok (.invokespecial 39, 3) := by decide +kernel
theorem dX11_init_56 : decode cX11_init 56 = .ok (.putfield 40, 3) := by decide +kernel
theorem dX11_init_59 : decode cX11_init 59 = .ok (.aload_n 0, 1) := by decide +kernel
theorem dX11_init_60 : decode cX11_init 60 = .ok (.new 44, 3) := by decide +kernel
theorem dX11_init_63 : decode cX11_init 63 = .ok (.dup, 1) := by decide +kernel
theorem dX11_init_64 : decode cX11_init 64 = .ok (.invokespecial 46, 3) := by decide +kernel
theorem dX11_init_67 : decode cX11_init 67 = .ok (.putfield 47, 3) := by decide +kernel
theorem dX11_init_70 : decode cX11_init 70 = .ok (.aload_n 0, 1) := by decide +kernel
theorem dX11_init_71 : decode cX11_init 71 = .ok (.new 51, 3) := by decide +kernel
theorem dX11_init_74 : decode cX11_init 74 = .ok (.dup, 1) := by decide +kernel
theorem dX11_init_75 : decode cX11_init 75 = .ok (.invokespecial 53, 3) := by decide +kernel
theorem dX11_init_78 : decode cX11_init 78 = .ok (.putfield 54, 3) := by decide +kernel
theorem dX11_init_81 : decode cX11_init 81 = .ok (.aload_n 0, 1) := by decide +kernel
theorem dX11_init_82 : decode cX11_init 82 = .ok (.bipush 8, 2) := by decide +kernel
theorem dX11_init_84 : decode cX11_init 84 = .ok (.anewarray 23, 3) := by decide +kernel
theorem dX11_init_87 : decode cX11_init 87 = .ok (.putfield 58, 3) := by decide +kernel
theorem dX11_init_90 : decode cX11_init 90 = .ok (.aload_n 0, 1) := by decide +kernel
theorem dX11_init_91 : decode cX11_init 91 = .ok (.iconst 2, 1) := by decide +kernel
theorem dX11_init_92 : decode cX11_init 92 = .ok (.anewarray 23, 3) := by decide +kernel
theorem dX11_init_95 : decode cX11_init 95 = .ok (.putfield 62, 3) := by decide +kernel
theorem dX11_init_98 : decode cX11_init 98 = .ok (.iconst 0, 1) := by decide +kernel
theorem dX11_init_99 : decode cX11_init 99 = .ok (.istore_n 1, 1) := by decide +kernel
theorem dX11_init_100 : decode cX11_init 100 = .ok (.iload_n 1, 1) := by decide +kernel
theorem dX11_init_101 : decode cX11_init 101 = .ok (.bipush 8, 2) := by decide +kernel
theorem dX11_init_103 : decode cX11_init 103 = .ok (.if_icmp .ge 22, 3) := by decide +kernel
theorem dX11_init_106 : decode cX11_init 106 = .ok (.aload_n 0, 1) := by decide +kernel
theorem dX11_init_107 : decode cX11_init 107 = .ok (.getfield 58, 3) := by decide +kernel
theorem dX11_init_110 : decode cX11_init 110 = .ok (.iload_n 1, 1) := by decide +kernel
theorem dX11_init_111 : decode cX11_init 111 = .ok (.new 23, 3) := by decide +kernel
theorem dX11_init_114 : decode cX11_init 114 = .ok (.dup, 1) := by decide +kernel
theorem dX11_init_115 : decode cX11_init 115 = .ok (.invokespecial 25, 3) := by decide +kernel
theorem dX11_init_118 : decode cX11_init 118 = .ok (.aastore, 1) := by decide +kernel
theorem dX11_init_119 : decode cX11_init 119 = .ok (.iinc 1 1, 3) := by decide +kernel
theorem dX11_init_122 : decode cX11_init 122 = .ok (.goto (-22), 3) := by decide +kernel
theorem dX11_init_125 : decode cX11_init 125 = .ok (.iconst 0, 1) := by decide +kernel
theorem dX11_init_126 : decode cX11_init 126 = .ok (.istore_n 1, 1) := by decide +kernel
theorem dX11_init_127 : decode cX11_init 127 = .ok (.iload_n 1, 1) := by decide +kernel
theorem dX11_init_128 : decode cX11_init 128 = .ok (.iconst 2, 1) := by decide +kernel
theorem dX11_init_129 : decode cX11_init 129 = .ok (.if_icmp .ge 22, 3) := by decide +kernel
theorem dX11_init_132 : decode cX11_init 132 = .ok (.aload_n 0, 1) := by decide +kernel
theorem dX11_init_133 : decode cX11_init 133 = .ok (.getfield 62, 3) := by decide +kernel
theorem dX11_init_136 : decode cX11_init 136 = .ok (.iload_n 1, 1) := by decide +kernel
theorem dX11_init_137 : decode cX11_init 137 = .ok (.new 23, 3) := by decide +kernel
theorem dX11_init_140 : decode cX11_init 140 = .ok (.dup, 1) := by decide +kernel
theorem dX11_init_141 : decode cX11_init 141 = .ok (.invokespecial 25, 3) := by decide +kernel
theorem dX11_init_144 : decode cX11_init 144 = .ok (.aastore, 1) := by decide +kernel
theorem dX11_init_145 : decode cX11_init 145 = .ok (.iinc 1 1, 3) := by decide +kernel
theorem dX11_init_148 : decode cX11_init 148 = .ok (.goto (-21), 3) := by decide +kernel
theorem dX11_init_151 : decode cX11_init 151 = .ok (.return_, 1) := by decide +kernel
theorem dX11_feed_0 : decode cX11_feed 0 = .ok (.aload_n 0, 1) := by decide +kernel
theorem dX11_feed_1 : decode cX11_feed 1 = .ok (.getfield 10, 3) := by decide +kernel
theorem dX11_feed_4 : decode cX11_feed 4 = .ok (.getfield 65, 3) := by decide +kernel
theorem dX11_feed_7 : decode cX11_feed 7 = .ok (.bipush 20, 2) := by decide +kernel
theorem dX11_feed_9 : decode cX11_feed 9 = .ok (.iadd, 1) := by decide +kernel
theorem dX11_feed_10 : decode cX11_feed 10 = .ok (.sipush 200, 3) := by decide +kernel
theorem dX11_feed_13 : decode cX11_feed 13 = .ok (.if_icmp .le 5, 3) := by decide +kernel
theorem dX11_feed_16 : decode cX11_feed 16 = .ok (.iconst (-1), 1) := by decide +kernel
theorem dX11_feed_17 : decode cX11_feed 17 = .ok (.ireturn, 1) := by decide +kernel
theorem dX11_feed_18 : decode cX11_feed 18 = .ok (.aload_n 0, 1) := by decide +kernel
theorem dX11_feed_19 : decode cX11_feed 19 = .ok (.getfield 10, 3) := by decide +kernel
theorem dX11_feed_22 : decode cX11_feed 22 = .ok (.iload_n 1, 1) := by decide +kernel
theorem dX11_feed_23 : decode cX11_feed 23 = .ok (.invokevirtual 69, 3) := by decide +kernel
theorem dX11_feed_26 : decode cX11_feed 26 = .ok (.aload_n 0, 1) := by decide +kernel
theorem dX11_feed_27 : decode cX11_feed 27 = .ok (.getfield 10, 3) := by decide +kernel
theorem dX11_feed_30 : decode cX11_feed 30 = .ok (.iload_n 2, 1) := by decide +kernel
theorem dX11_feed_31 : decode cX11_feed 31 = .ok (.invokevirtual 69, 3) := by decide +kernel
theorem dX11_feed_34 : decode cX11_feed 34 = .ok (.aload_n 0, 1) := by decide +kernel
theorem dX11_feed_35 : decode cX11_feed 35 = .ok (.getfield 10, 3) := by decide +kernel
theorem dX11_feed_38 : decode cX11_feed 38 = .ok (.iload_n 3, 1) := by decide +kernel
theorem dX11_feed_39 : decode cX11_feed 39 = .ok (.invokevirtual 69, 3) := by decide +kernel
theorem dX11_feed_42 : decode cX11_feed 42 = .ok (.aload_n 0, 1) := by decide +kernel
theorem dX11_feed_43 : decode cX11_feed 43 = .ok (.getfield 10, 3) := by decide +kernel
theorem dX11_feed_46 : decode cX11_feed 46 = .ok (.iload 4, 2) := by decide +kernel
theorem dX11_feed_48 : decode cX11_feed 48 = .ok (.invokevirtual 69, 3) := by decide +kernel
theorem dX11_feed_51 : decode cX11_feed 51 = .ok (.aload_n 0, 1) := by decide +kernel
theorem dX11_feed_52 : decode cX11_feed 52 = .ok (.getfield 10, 3) := by decide +kernel
theorem dX11_feed_55 : decode cX11_feed 55 = .ok (.iload 5, 2) := by decide +kernel
theorem dX11_feed_57 : decode cX11_feed 57 = .ok (.invokevirtual 69, 3) := by decide +kernel
theorem dX11_feed_60 : decode cX11_feed 60 = .ok (.aload_n 0, 1) := by decide +kernel
theorem dX11_feed_61 : decode cX11_feed 61 = .ok (.getfield 10, 3) := by decide +kernel
theorem dX11_feed_64 : decode cX11_feed 64 = .ok (.getfield 65, 3) := by decide +kernel
theorem dX11_feed_67 : decode cX11_feed 67 = .ok (.ireturn, 1) := by decide +kernel
theorem dX11_end_0 : decode cX11_end 0 = .ok (.iload_n 1, 1) := by decide +kernel
theorem dX11_end_1 : decode cX11_end 1 = .ok (.ifCond .lt 14, 3) := by decide +kernel
theorem dX11_end_4 : decode cX11_end 4 = .ok (.iload_n 1, 1) := by decide +kernel
theorem dX11_end_5 : decode cX11_end 5 = .ok (.aload_n 0, 1) := by decide +kernel
theorem dX11_end_6 : decode cX11_end 6 = .ok (.getfield 10, 3) := by decide +kernel
theorem dX11_end_9 : decode cX11_end 9 = .ok (.getfield 65, 3) := by decide +kernel
theorem dX11_end_12 : decode cX11_end 12 = .ok (.if_icmp .le 5, 3) := by decide +kernel
theorem dX11_end_15 : decode cX11_end 15 = .ok (.iconst (-1), 1) := by decide +kernel
theorem dX11_end_16 : decode cX11_end 16 = .ok (.ireturn, 1) := by decide +kernel
theorem dX11_end_17 : decode cX11_end 17 = .ok (.aload_n 0, 1) := by decide +kernel
theorem dX11_end_18 : decode cX11_end 18 = .ok (.getfield 10, 3) := by decide +kernel
theorem dX11_end_21 : decode cX11_end 21 = .ok (.iload_n 1, 1) := by decide +kernel
theorem dX11_end_22 : decode cX11_end 22 = .ok (.putfield 65, 3) := by decide +kernel
theorem dX11_end_25 : decode cX11_end 25 = .ok (.iload_n 1, 1) := by decide +kernel
theorem dX11_end_26 : decode cX11_end 26 = .ok (.ireturn, 1) := by decide +kernel
theorem dX11_plan_0 : decode cX11_plan 0 = .ok (.aload_n 0, 1) := by decide +kernel
theorem dX11_plan_1 : decode cX11_plan 1 = .ok (.getfield 19, 3) := by decide +kernel
theorem dX11_plan_4 : decode cX11_plan 4 = .ok (.aload_n 0, 1) := by decide +kernel
theorem dX11_plan_5 : decode cX11_plan 5 = .ok (.getfield 10, 3) := by decide +kernel
theorem dX11_plan_8 : decode cX11_plan 8 = .ok (.invokevirtual 73, 3) := by decide +kernel
theorem dX11_plan_11 : decode cX11_plan 11 = .ok (.istore_n 1, 1) := by decide +kernel
theorem dX11_plan_12 : decode cX11_plan 12 = .ok (.aload_n 0, 1) := by decide +kernel
theorem dX11_plan_13 : decode cX11_plan 13 = .ok (.getfield 10, 3) := by decide +kernel
theorem dX11_plan_16 : decode cX11_plan 16 = .ok (.iconst 0, 1) := by decide +kernel
theorem dX11_plan_17 : decode cX11_plan 17 = .ok (.putfield 65, 3) := by decide +kernel
theorem dX11_plan_20 : decode cX11_plan 20 = .ok (.iload_n 1, 1) := by decide +kernel
theorem dX11_plan_21 : decode cX11_plan 21 = .ok (.iconst (-1), 1) := by decide +kernel
theorem dX11_plan_22 : decode cX11_plan 22 = .ok (.if_icmp .eq 8, 3) := by decide +kernel
theorem dX11_plan_25 : decode cX11_plan 25 = .ok (.bipush (-2), 2) := by decide +kernel
theorem dX11_plan_27 : decode cX11_plan 27 = .ok (.iload_n 1, 1) := by decide +kernel
theorem dX11_plan_28 : decode cX11_plan 28 = .ok (.isub, 1) := by decide +kernel
theorem dX11_plan_29 : decode cX11_plan 29 = .ok (.ireturn, 1) := by decide +kernel
theorem dX11_plan_30 : decode cX11_plan 30 = .ok (.aload_n 0, 1) := by decide +kernel
theorem dX11_plan_31 : decode cX11_plan 31 = .ok (.getfield 26, 3) := by decide +kernel
theorem dX11_plan_34 : decode cX11_plan 34 = .ok (.getfield 77, 3) := by decide +kernel
theorem dX11_plan_37 : decode cX11_plan 37 = .ok (.aload_n 0, 1) := by decide +kernel
theorem dX11_plan_38 : decode cX11_plan 38 = .ok (.getfield 19, 3) := by decide +kernel
theorem dX11_plan_41 : decode cX11_plan 41 = .ok (.getfield 81, 3) := by decide +kernel
theorem dX11_plan_44 : decode cX11_plan 44 = .ok (.invokevirtual 84, 3) := by decide +kernel
theorem dX11_plan_47 : decode cX11_plan 47 = .ok (.aload_n 0, 1) := by decide +kernel
theorem dX11_plan_48 : decode cX11_plan 48 = .ok (.getfield 26, 3) := by decide +kernel
theorem dX11_plan_51 : decode cX11_plan 51 = .ok (.getfield 90, 3) := by decide +kernel
theorem dX11_plan_54 : decode cX11_plan 54 = .ok (.iconst 0, 1) := by decide +kernel
theorem dX11_plan_55 : decode cX11_plan 55 = .ok (.putfield 94, 3) := by decide +kernel
theorem dX11_plan_58 : decode cX11_plan 58 = .ok (.aload_n 0, 1) := by decide +kernel
theorem dX11_plan_59 : decode cX11_plan 59 = .ok (.iconst 0, 1) := by decide +kernel
theorem dX11_plan_60 : decode cX11_plan 60 = .ok (.putfield 97, 3) := by decide +kernel
theorem dX11_plan_63 : decode cX11_plan 63 = .ok (.aload_n 0, 1) := by decide +kernel
theorem dX11_plan_64 : decode cX11_plan 64 = .ok (.invokevirtual 100, 3) := by decide +kernel
theorem dX11_plan_67 : decode cX11_plan 67 = .ok (.aload_n 0, 1) := by decide +kernel
theorem dX11_plan_68 : decode cX11_plan 68 = .ok (.getfield 33, 3) := by decide +kernel
theorem dX11_plan_71 : decode cX11_plan 71 = .ok (.invokevirtual 103, 3) := by decide +kernel
theorem dX11_plan_74 : decode cX11_plan 74 = .ok (.ireturn, 1) := by decide +kernel
theorem dX11_levels_0 : decode cX11_levels 0 = .ok (.aload_n 0, 1) := by decide +kernel
theorem dX11_levels_1 : decode cX11_levels 1 = .ok (.iload_n 1, 1) := by decide +kernel
theorem dX11_levels_2 : decode cX11_levels 2 = .ok (.invokevirtual 106, 3) := by decide +kernel
theorem dX11_levels_5 : decode cX11_levels 5 = .ok (.ifCond .eq 18, 3) := by decide +kernel
theorem dX11_levels_8 : decode cX11_levels 8 = .ok (.aload_n 0, 1) := by decide +kernel
theorem dX11_levels_9 : decode cX11_levels 9 = .ok (.getfield 26, 3) := by decide +kernel
theorem dX11_levels_12 : decode cX11_levels 12 = .ok (.getfield 77, 3) := by decide +kernel
theorem dX11_levels_15 : decode cX11_levels 15 = .ok (.getfield 110, 3) := by decide +kernel
theorem dX11_levels_18 : decode cX11_levels 18 = .ok (.iload_n 1, 1) := by decide +kernel
theorem dX11_levels_19 : decode cX11_levels 19 = .ok (.iaload, 1) := by decide +kernel
theorem dX11_levels_20 : decode cX11_levels 20 = .ok (.goto 4, 3) := by decide +kernel
theorem dX11_levels_23 : decode cX11_levels 23 = .ok (.iconst (-1), 1) := by decide +kernel
theorem dX11_levels_24 : decode cX11_levels 24 = .ok (.ireturn, 1) := by decide +kernel
theorem dX11_mix_0 : decode cX11_mix 0 = .ok (.iload_n 1, 1) := by decide +kernel
theorem dX11_mix_1 : decode cX11_mix 1 = .ok (.ifCond .lt 21, 3) := by decide +kernel
theorem dX11_mix_4 : decode cX11_mix 4 = .ok (.iload_n 1, 1) := by decide +kernel
theorem dX11_mix_5 : decode cX11_mix 5 = .ok (.aload_n 0, 1) := by decide +kernel
theorem dX11_mix_6 : decode cX11_mix 6 = .ok (.invokevirtual 114, 3) := by decide +kernel
theorem dX11_mix_9 : decode cX11_mix 9 = .ok (.if_icmp .ge 13, 3) := by decide +kernel
theorem dX11_mix_12 : decode cX11_mix 12 = .ok (.iload_n 2, 1) := by decide +kernel
theorem dX11_mix_13 : decode cX11_mix 13 = .ok (.ifCond .lt 9, 3) := by decide +kernel
theorem dX11_mix_16 : decode cX11_mix 16 = .ok (.iload_n 2, 1) := by decide +kernel
theorem dX11_mix_17 : decode cX11_mix 17 = .ok (.bipush 8, 2) := by decide +kernel
theorem dX11_mix_19 : decode cX11_mix 19 = .ok (.if_icmp .le 5, 3) := by decide +kernel
theorem dX11_mix_22 : decode cX11_mix 22 = .ok (.iconst (-1), 1) := by decide +kernel
theorem dX11_mix_23 : decode cX11_mix 23 = .ok (.ireturn, 1) := by decide +kernel
theorem dX11_mix_24 : decode cX11_mix 24 = .ok (.iload_n 2, 1) := by decide +kernel
theorem dX11_mix_25 : decode cX11_mix 25 = .ok (.iconst 3, 1) := by decide +kernel
theorem dX11_mix_26 : decode cX11_mix 26 = .ok (.if_icmp .ge 13, 3) := by decide +kernel
theorem dX11_mix_29 : decode cX11_mix 29 = .ok (.aload_n 0, 1) := by decide +kernel
theorem dX11_mix_30 : decode cX11_mix 30 = .ok (.getfield 33, 3) := by decide +kernel
theorem dX11_mix_33 : decode cX11_mix 33 = .ok (.iload_n 1, 1) := by decide +kernel
theorem dX11_mix_34 : decode cX11_mix 34 = .ok (.iload_n 2, 1) := by decide +kernel
theorem dX11_mix_35 : decode cX11_mix 35 = .ok (.invokevirtual 117, 3) := by decide +kernel
theorem dX11_mix_38 : decode cX11_mix 38 = .ok (.ireturn, 1) := by decide +kernel
theorem dX11_mix_39 : decode cX11_mix 39 = .ok (.iload_n 2, 1) := by decide +kernel
theorem dX11_mix_40 : decode cX11_mix 40 = .ok (.bipush 6, 2) := by decide +kernel
theorem dX11_mix_42 : decode cX11_mix 42 = .ok (.if_icmp .ge 15, 3) := by decide +kernel
theorem dX11_mix_45 : decode cX11_mix 45 = .ok (.aload_n 0, 1) := by decide +kernel
theorem dX11_mix_46 : decode cX11_mix 46 = .ok (.getfield 33, 3) := by decide +kernel
theorem dX11_mix_49 : decode cX11_mix 49 = .ok (.iload_n 1, 1) := by decide +kernel
theorem dX11_mix_50 : decode cX11_mix 50 = .ok (.iload_n 2, 1) := by decide +kernel
theorem dX11_mix_51 : decode cX11_mix 51 = .ok (.iconst 3, 1) := by decide +kernel
theorem dX11_mix_52 : decode cX11_mix 52 = .ok (.isub, 1) := by decide +kernel
theorem dX11_mix_53 : decode cX11_mix 53 = .ok (.invokevirtual 121, 3) := by decide +kernel
theorem dX11_mix_56 : decode cX11_mix 56 = .ok (.ireturn, 1) := by decide +kernel
theorem dX11_mix_57 : decode cX11_mix 57 = .ok (.iload_n 2, 1) := by decide +kernel
theorem dX11_mix_58 : decode cX11_mix 58 = .ok (.bipush 6, 2) := by decide +kernel
theorem dX11_mix_60 : decode cX11_mix 60 = .ok (.if_icmp .ne 21, 3) := by decide +kernel
theorem dX11_mix_63 : decode cX11_mix 63 = .ok (.aload_n 0, 1) := by decide +kernel
theorem dX11_mix_64 : decode cX11_mix 64 = .ok (.getfield 33, 3) := by decide +kernel
theorem dX11_mix_67 : decode cX11_mix 67 = .ok (.getfield 124, 3) := by decide +kernel
theorem dX11_mix_70 : decode cX11_mix 70 = .ok (.iload_n 1, 1) := by decide +kernel
theorem dX11_mix_71 : decode cX11_mix 71 = .ok (.iaload, 1) := by decide +kernel
theorem dX11_mix_72 : decode cX11_mix 72 = .ok (.ifCond .eq 7, 3) := by decide +kernel
theorem dX11_mix_75 : decode cX11_mix 75 = .ok (.iconst 1, 1) := by decide +kernel
theorem dX11_mix_76 : decode cX11_mix 76 = .ok (.goto 4, 3) := by decide +kernel
theorem dX11_mix_79 : decode cX11_mix 79 = .ok (.iconst 0, 1) := by decide +kernel
theorem dX11_mix_80 : decode cX11_mix 80 = .ok (.ireturn, 1) := by decide +kernel
theorem dX11_mix_81 : decode cX11_mix 81 = .ok (.iload_n 2, 1) := by decide +kernel
theorem dX11_mix_82 : decode cX11_mix 82 = .ok (.bipush 7, 2) := by decide +kernel
theorem dX11_mix_84 : decode cX11_mix 84 = .ok (.if_icmp .ne 15, 3) := by decide +kernel
theorem dX11_mix_87 : decode cX11_mix 87 = .ok (.aload_n 0, 1) := by decide +kernel
theorem dX11_mix_88 : decode cX11_mix 88 = .ok (.getfield 33, 3) := by decide +kernel
theorem dX11_mix_91 : decode cX11_mix 91 = .ok (.getfield 127, 3) := by decide +kernel
theorem dX11_mix_94 : decode cX11_mix 94 = .ok (.iload_n 1, 1) := by decide +kernel
theorem dX11_mix_95 : decode cX11_mix 95 = .ok (.iaload, 1) := by decide +kernel
theorem dX11_mix_96 : decode cX11_mix 96 = .ok (.goto 22, 3) := by decide +kernel
theorem dX11_mix_99 : decode cX11_mix 99 = .ok (.aload_n 0, 1) := by decide +kernel
theorem dX11_mix_100 : decode cX11_mix 100 = .ok (.getfield 26, 3) := by decide +kernel
theorem dX11_mix_103 : decode cX11_mix 103 = .ok (.getfield 90, 3) := by decide +kernel
theorem dX11_mix_106 : decode cX11_mix 106 = .ok (.aload_n 0, 1) := by decide +kernel
theorem dX11_mix_107 : decode cX11_mix 107 = .ok (.getfield 33, 3) := by decide +kernel
theorem dX11_mix_110 : decode cX11_mix 110 = .ok (.getfield 130, 3) := by decide +kernel
theorem dX11_mix_113 : decode cX11_mix 113 = .ok (.iload_n 1, 1) := by decide +kernel
theorem dX11_mix_114 : decode cX11_mix 114 = .ok (.iaload, 1) := by decide +kernel
theorem dX11_mix_115 : decode cX11_mix 115 = .ok (.invokevirtual 133, 3) := by decide +kernel
theorem dX11_mix_118 : decode cX11_mix 118 = .ok (.ireturn, 1) := by decide +kernel
theorem dX11_add_0 : decode cX11_add 0 = .ok (.aload_n 0, 1) := by decide +kernel
theorem dX11_add_1 : decode cX11_add 1 = .ok (.iload_n 1, 1) := by decide +kernel
theorem dX11_add_2 : decode cX11_add 2 = .ok (.invokevirtual 137, 3) := by decide +kernel
theorem dX11_add_5 : decode cX11_add 5 = .ok (.istore_n 2, 1) := by decide +kernel
theorem dX11_add_6 : decode cX11_add 6 = .ok (.iload_n 2, 1) := by decide +kernel
theorem dX11_add_7 : decode cX11_add 7 = .ok (.iconst (-1), 1) := by decide +kernel
theorem dX11_add_8 : decode cX11_add 8 = .ok (.if_icmp .eq 18, 3) := by decide +kernel
theorem dX11_add_11 : decode cX11_add 11 = .ok (.aload_n 0, 1) := by decide +kernel
theorem dX11_add_12 : decode cX11_add 12 = .ok (.getfield 26, 3) := by decide +kernel
theorem dX11_add_15 : decode cX11_add 15 = .ok (.getfield 90, 3) := by decide +kernel
theorem dX11_add_18 : decode cX11_add 18 = .ok (.getfield 94, 3) := by decide +kernel
theorem dX11_add_21 : decode cX11_add 21 = .ok (.bipush 64, 2) := by decide +kernel
theorem dX11_add_23 : decode cX11_add 23 = .ok (.if_icmp .lt 5, 3) := by decide +kernel
theorem dX11_add_26 : decode cX11_add 26 = .ok (.iconst (-1), 1) := by decide +kernel
theorem dX11_add_27 : decode cX11_add 27 = .ok (.ireturn, 1) := by decide +kernel
theorem dX11_add_28 : decode cX11_add 28 = .ok (.aload_n 0, 1) := by decide +kernel
theorem dX11_add_29 : decode cX11_add 29 = .ok (.getfield 26, 3) := by decide +kernel
theorem dX11_add_32 : decode cX11_add 32 = .ok (.getfield 77, 3) := by decide +kernel
theorem dX11_add_35 : decode cX11_add 35 = .ok (.iload_n 2, 1) := by decide +kernel
theorem dX11_add_36 : decode cX11_add 36 = .ok (.invokevirtual 140, 3) := by decide +kernel
theorem dX11_add_39 : decode cX11_add 39 = .ok (.ifCond .ne 6, 3) := by decide +kernel
theorem dX11_add_42 : decode cX11_add 42 = .ok (.bipush (-2), 2) := by decide +kernel
theorem dX11_add_44 : decode cX11_add 44 = .ok (.ireturn, 1) := by decide +kernel
theorem dX11_add_45 : decode cX11_add 45 = .ok (.aload_n 0, 1) := by decide +kernel
theorem dX11_add_46 : decode cX11_add 46 = .ok (.invokevirtual 143, 3) := by decide +kernel
theorem dX11_add_49 : decode cX11_add 49 = .ok (.aload_n 0, 1) := by decide +kernel
theorem dX11_add_50 : decode cX11_add 50 = .ok (.iload_n 2, 1) := by decide +kernel
theorem dX11_add_51 : decode cX11_add 51 = .ok (.invokevirtual 146, 3) := by decide +kernel
theorem dX11_add_54 : decode cX11_add 54 = .ok (.aload_n 0, 1) := by decide +kernel
theorem dX11_add_55 : decode cX11_add 55 = .ok (.getfield 26, 3) := by decide +kernel
theorem dX11_add_58 : decode cX11_add 58 = .ok (.getfield 90, 3) := by decide +kernel
theorem dX11_add_61 : decode cX11_add 61 = .ok (.getfield 94, 3) := by decide +kernel
theorem dX11_add_64 : decode cX11_add 64 = .ok (.ireturn, 1) := by decide +kernel
theorem dX11_tell_0 : decode cX11_tell 0 = .ok (.aload_n 0, 1) := by decide +kernel
theorem dX11_tell_1 : decode cX11_tell 1 = .ok (.iload_n 1, 1) := by decide +kernel
theorem dX11_tell_2 : decode cX11_tell 2 = .ok (.invokevirtual 149, 3) := by decide +kernel
theorem dX11_tell_5 : decode cX11_tell 5 = .ok (.ifCond .eq 32, 3) := by decide +kernel
theorem dX11_tell_8 : decode cX11_tell 8 = .ok (.aload_n 0, 1) := by decide +kernel
theorem dX11_tell_9 : decode cX11_tell 9 = .ok (.iload_n 2, 1) := by decide +kernel
theorem dX11_tell_10 : decode cX11_tell 10 = .ok (.invokevirtual 106, 3) := by decide +kernel
theorem dX11_tell_13 : decode cX11_tell 13 = .ok (.ifCond .eq 24, 3) := by decide +kernel
theorem dX11_tell_16 : decode cX11_tell 16 = .ok (.iload_n 3, 1) := by decide +kernel
theorem dX11_tell_17 : decode cX11_tell 17 = .ok (.iconst (-1), 1) := by decide +kernel
theorem dX11_tell_18 : decode cX11_tell 18 = .ok (.if_icmp .lt 19, 3) := by decide +kernel
theorem dX11_tell_21 : decode cX11_tell 21 = .ok (.iload_n 3, 1) := by decide +kernel
theorem dX11_tell_22 : decode cX11_tell 22 = .ok (.aload_n 0, 1) := by decide +kernel
theorem dX11_tell_23 : decode cX11_tell 23 = .ok (.getfield 26, 3) := by decide +kernel
theorem dX11_tell_26 : decode cX11_tell 26 = .ok (.getfield 77, 3) := by decide +kernel
theorem dX11_tell_29 : decode cX11_tell 29 = .ok (.getfield 110, 3) := by decide +kernel
theorem dX11_tell_32 : decode cX11_tell 32 = .ok (.iload_n 2, 1) := by decide +kernel
theorem dX11_tell_33 : decode cX11_tell 33 = .ok (.iaload, 1) := by decide +kernel
theorem dX11_tell_34 : decode cX11_tell 34 = .ok (.if_icmp .lt 6, 3) := by decide +kernel
theorem dX11_tell_37 : decode cX11_tell 37 = .ok (.bipush (-4), 2) := by decide +kernel
theorem dX11_tell_39 : decode cX11_tell 39 = .ok (.ireturn, 1) := by decide +kernel
theorem dX11_tell_40 : decode cX11_tell 40 = .ok (.aload_n 0, 1) := by decide +kernel
theorem dX11_tell_41 : decode cX11_tell 41 = .ok (.getfield 26, 3) := by decide +kernel
theorem dX11_tell_44 : decode cX11_tell 44 = .ok (.getfield 90, 3) := by decide +kernel
theorem dX11_tell_47 : decode cX11_tell 47 = .ok (.getfield 152, 3) := by decide +kernel
theorem dX11_tell_50 : decode cX11_tell 50 = .ok (.iload_n 1, 1) := by decide +kernel
theorem dX11_tell_51 : decode cX11_tell 51 = .ok (.iaload, 1) := by decide +kernel
theorem dX11_tell_52 : decode cX11_tell 52 = .ok (.istore 4, 2) := by decide +kernel
theorem dX11_tell_54 : decode cX11_tell 54 = .ok (.iload 4, 2) := by decide +kernel
theorem dX11_tell_56 : decode cX11_tell 56 = .ok (.iload_n 2, 1) := by decide +kernel
theorem dX11_tell_57 : decode cX11_tell 57 = .ok (.invokestatic 155, 3) := by decide +kernel
theorem dX11_tell_60 : decode cX11_tell 60 = .ok (.istore 5, 2) := by decide +kernel
theorem dX11_tell_62 : decode cX11_tell 62 = .ok (.iload 5, 2) := by decide +kernel
theorem dX11_tell_64 : decode cX11_tell 64 = .ok (.iload_n 3, 1) := by decide +kernel
theorem dX11_tell_65 : decode cX11_tell 65 = .ok (.if_icmp .ne 6, 3) := by decide +kernel
theorem dX11_tell_68 : decode cX11_tell 68 = .ok (.bipush (-3), 2) := by decide +kernel
theorem dX11_tell_70 : decode cX11_tell 70 = .ok (.ireturn, 1) := by decide +kernel
theorem dX11_tell_71 : decode cX11_tell 71 = .ok (.iload 4, 2) := by decide +kernel
theorem dX11_tell_73 : decode cX11_tell 73 = .ok (.bipush 15, 2) := by decide +kernel
theorem dX11_tell_75 : decode cX11_tell 75 = .ok (.iconst 4, 1) := by decide +kernel
theorem dX11_tell_76 : decode cX11_tell 76 = .ok (.iload_n 2, 1) := by decide +kernel
theorem dX11_tell_77 : decode cX11_tell 77 = .ok (.imul, 1) := by decide +kernel
theorem dX11_tell_78 : decode cX11_tell 78 = .ok (.ishl, 1) := by decide +kernel
theorem dX11_tell_79 : decode cX11_tell 79 = .ok (.iconst (-1), 1) := by decide +kernel
theorem dX11_tell_80 : decode cX11_tell 80 = .ok (.ixor, 1) := by decide +kernel
theorem dX11_tell_81 : decode cX11_tell 81 = .ok (.iand, 1) := by decide +kernel
theorem dX11_tell_82 : decode cX11_tell 82 = .ok (.istore 6, 2) := by decide +kernel
theorem dX11_tell_84 : decode cX11_tell 84 = .ok (.iload_n 3, 1) := by decide +kernel
theorem dX11_tell_85 : decode cX11_tell 85 = .ok (.iconst (-1), 1) := by decide +kernel
theorem dX11_tell_86 : decode cX11_tell 86 = .ok (.if_icmp .eq 15, 3) := by decide +kernel
theorem dX11_tell_89 : decode cX11_tell 89 = .ok (.iload 6, 2) := by decide +kernel
theorem dX11_tell_91 : decode cX11_tell 91 = .ok (.iconst 1, 1) := by decide +kernel
theorem dX11_tell_92 : decode cX11_tell 92 = .ok (.iconst 4, 1) := by decide +kernel
theorem dX11_tell_93 : decode cX11_tell 93 = .ok (.iload_n 2, 1) := by decide +kernel
theorem dX11_tell_94 : decode cX11_tell 94 = .ok (.imul, 1) := by decide +kernel
theorem dX11_tell_95 : decode cX11_tell 95 = .ok (.iload_n 3, 1) := by decide +kernel
theorem dX11_tell_96 : decode cX11_tell 96 = .ok (.iadd, 1) := by decide +kernel
theorem dX11_tell_97 : decode cX11_tell 97 = .ok (.ishl, 1) := by decide +kernel
theorem dX11_tell_98 : decode cX11_tell 98 = .ok (.ior, 1) := by decide +kernel
theorem dX11_tell_99 : decode cX11_tell 99 = .ok (.istore 6, 2) := by decide +kernel
theorem dX11_tell_101 : decode cX11_tell 101 = .ok (.aload_n 0, 1) := by decide +kernel
theorem dX11_tell_102 : decode cX11_tell 102 = .ok (.getfield 26, 3) := by decide +kernel
theorem dX11_tell_105 : decode cX11_tell 105 = .ok (.getfield 77, 3) := by decide +kernel
theorem dX11_tell_108 : decode cX11_tell 108 = .ok (.iload 6, 2) := by decide +kernel
theorem dX11_tell_110 : decode cX11_tell 110 = .ok (.invokevirtual 140, 3) := by decide +kernel
theorem dX11_tell_113 : decode cX11_tell 113 = .ok (.ifCond .ne 6, 3) := by decide +kernel
theorem dX11_tell_116 : decode cX11_tell 116 = .ok (.bipush (-2), 2) := by decide +kernel
theorem dX11_tell_118 : decode cX11_tell 118 = .ok (.ireturn, 1) := by decide +kernel
theorem dX11_tell_119 : decode cX11_tell 119 = .ok (.aload_n 0, 1) := by decide +kernel
theorem dX11_tell_120 : decode cX11_tell 120 = .ok (.invokevirtual 143, 3) := by decide +kernel
theorem dX11_tell_123 : decode cX11_tell 123 = .ok (.aload_n 0, 1) := by decide +kernel
theorem dX11_tell_124 : decode cX11_tell 124 = .ok (.getfield 33, 3) := by decide +kernel
theorem dX11_tell_127 : decode cX11_tell 127 = .ok (.iload 4, 2) := by decide +kernel
theorem dX11_tell_129 : decode cX11_tell 129 = .ok (.iload 6, 2) := by decide +kernel
theorem dX11_tell_131 : decode cX11_tell 131 = .ok (.invokevirtual 158, 3) := by decide +kernel
theorem dX11_tell_134 : decode cX11_tell 134 = .ok (.aload_n 0, 1) := by decide +kernel
theorem dX11_tell_135 : decode cX11_tell 135 = .ok (.getfield 26, 3) := by decide +kernel
theorem dX11_tell_138 : decode cX11_tell 138 = .ok (.getfield 90, 3) := by decide +kernel
theorem dX11_tell_141 : decode cX11_tell 141 = .ok (.getfield 152, 3) := by decide +kernel
theorem dX11_tell_144 : decode cX11_tell 144 = .ok (.iload_n 1, 1) := by decide +kernel
theorem dX11_tell_145 : decode cX11_tell 145 = .ok (.iload 6, 2) := by decide +kernel
theorem dX11_tell_147 : decode cX11_tell 147 = .ok (.iastore, 1) := by decide +kernel
theorem dX11_tell_148 : decode cX11_tell 148 = .ok (.iload 5, 2) := by decide +kernel
theorem dX11_tell_150 : decode cX11_tell 150 = .ok (.ireturn, 1) := by decide +kernel
theorem dX11_cell_0 : decode cX11_cell 0 = .ok (.aload_n 0, 1) := by decide +kernel
theorem dX11_cell_1 : decode cX11_cell 1 = .ok (.iload_n 1, 1) := by decide +kernel
theorem dX11_cell_2 : decode cX11_cell 2 = .ok (.invokevirtual 149, 3) := by decide +kernel
theorem dX11_cell_5 : decode cX11_cell 5 = .ok (.ifCond .eq 30, 3) := by decide +kernel
theorem dX11_cell_8 : decode cX11_cell 8 = .ok (.aload_n 0, 1) := by decide +kernel
theorem dX11_cell_9 : decode cX11_cell 9 = .ok (.iload_n 2, 1) := by decide +kernel
theorem dX11_cell_10 : decode cX11_cell 10 = .ok (.invokevirtual 106, 3) := by decide +kernel
theorem dX11_cell_13 : decode cX11_cell 13 = .ok (.ifCond .eq 22, 3) := by decide +kernel
theorem dX11_cell_16 : decode cX11_cell 16 = .ok (.aload_n 0, 1) := by decide +kernel
theorem dX11_cell_17 : decode cX11_cell 17 = .ok (.getfield 26, 3) := by decide +kernel
theorem dX11_cell_20 : decode cX11_cell 20 = .ok (.getfield 90, 3) := by decide +kernel
theorem dX11_cell_23 : decode cX11_cell 23 = .ok (.getfield 152, 3) := by decide +kernel
theorem dX11_cell_26 : decode cX11_cell 26 = .ok (.iload_n 1, 1) := by decide +kernel
theorem dX11_cell_27 : decode cX11_cell 27 = .ok (.iaload, 1) := by decide +kernel
theorem dX11_cell_28 : decode cX11_cell 28 = .ok (.iload_n 2, 1) := by decide +kernel
theorem dX11_cell_29 : decode cX11_cell 29 = .ok (.invokestatic 155, 3) := by decide +kernel
theorem dX11_cell_32 : decode cX11_cell 32 = .ok (.goto 5, 3) := by decide +kernel
theorem dX11_cell_35 : decode cX11_cell 35 = .ok (.bipush (-2), 2) := by decide +kernel
theorem dX11_cell_37 : decode cX11_cell 37 = .ok (.ireturn, 1) := by decide +kernel
theorem dX11_drop_0 : decode cX11_drop 0 = .ok (.aload_n 0, 1) := by decide +kernel
theorem dX11_drop_1 : decode cX11_drop 1 = .ok (.iload_n 1, 1) := by decide +kernel
theorem dX11_drop_2 : decode cX11_drop 2 = .ok (.invokevirtual 149, 3) := by decide +kernel
theorem dX11_drop_5 : decode cX11_drop 5 = .ok (.ifCond .ne 5, 3) := by decide +kernel
theorem dX11_drop_8 : decode cX11_drop 8 = .ok (.iconst (-1), 1) := by decide +kernel
theorem dX11_drop_9 : decode cX11_drop 9 = .ok (.ireturn, 1) := by decide +kernel
theorem dX11_drop_10 : decode cX11_drop 10 = .ok (.aload_n 0, 1) := by decide +kernel
theorem dX11_drop_11 : decode cX11_drop 11 = .ok (.invokevirtual 143, 3) := by decide +kernel
theorem dX11_drop_14 : decode cX11_drop 14 = .ok (.aload_n 0, 1) := by decide +kernel
theorem dX11_drop_15 : decode cX11_drop 15 = .ok (.iload_n 1, 1) := by decide +kernel
theorem dX11_drop_16 : decode cX11_drop 16 = .ok (.invokevirtual 162, 3) := by decide +kernel
theorem dX11_drop_19 : decode cX11_drop 19 = .ok (.aload_n 0, 1) := by decide +kernel
theorem dX11_drop_20 : decode cX11_drop 20 = .ok (.getfield 26, 3) := by decide +kernel
theorem dX11_drop_23 : decode cX11_drop 23 = .ok (.getfield 90, 3) := by decide +kernel
theorem dX11_drop_26 : decode cX11_drop 26 = .ok (.getfield 94, 3) := by decide +kernel
theorem dX11_drop_29 : decode cX11_drop 29 = .ok (.ireturn, 1) := by decide +kernel
theorem dX11_open_0 : decode cX11_open 0 = .ok (.aload_n 0, 1) := by decide +kernel
theorem dX11_open_1 : decode cX11_open 1 = .ok (.invokevirtual 165, 3) := by decide +kernel
theorem dX11_open_4 : decode cX11_open 4 = .ok (.ifCond .eq 13, 3) := by decide +kernel
theorem dX11_open_7 : decode cX11_open 7 = .ok (.aload_n 0, 1) := by decide +kernel
theorem dX11_open_8 : decode cX11_open 8 = .ok (.getfield 33, 3) := by decide +kernel
theorem dX11_open_11 : decode cX11_open 11 = .ok (.invokevirtual 169, 3) := by decide +kernel
theorem dX11_open_14 : decode cX11_open 14 = .ok (.goto 4, 3) := by decide +kernel
theorem dX11_open_17 : decode cX11_open 17 = .ok (.iconst (-1), 1) := by decide +kernel
theorem dX11_open_18 : decode cX11_open 18 = .ok (.ireturn, 1) := by decide +kernel
theorem dX11_openMix_0 : decode cX11_openMix 0 = .ok (.aload_n 0, 1) := by decide +kernel
theorem dX11_openMix_1 : decode cX11_openMix 1 = .ok (.invokevirtual 165, 3) := by decide +kernel
theorem dX11_openMix_4 : decode cX11_openMix 4 = .ok (.ifCond .eq 18, 3) := by decide +kernel
theorem dX11_openMix_7 : decode cX11_openMix 7 = .ok (.iload_n 1, 1) := by decide +kernel
theorem dX11_openMix_8 : decode cX11_openMix 8 = .ok (.ifCond .lt 14, 3) := by decide +kernel
theorem dX11_openMix_11 : decode cX11_openMix 11 = .ok (.aload_n 0, 1) := by decide +kernel
theorem dX11_openMix_12 : decode cX11_openMix 12 = .ok (.getfield 33, 3) := by decide +kernel
theorem dX11_openMix_15 : decode cX11_openMix 15 = .ok (.iload_n 1, 1) := by decide +kernel
theorem dX11_openMix_16 : decode cX11_openMix 16 = .ok (.invokevirtual 172, 3) := by decide +kernel
theorem dX11_openMix_19 : decode cX11_openMix 19 = .ok (.goto 4, 3) := by decide +kernel
theorem dX11_openMix_22 : decode cX11_openMix 22 = .ok (.iconst (-1), 1) := by decide +kernel
theorem dX11_openMix_23 : decode cX11_openMix 23 = .ok (.ireturn, 1) := by decide +kernel
theorem dX11_hope_0 : decode cX11_hope 0 = .ok (.aload_n 0, 1) := by decide +kernel
theorem dX11_hope_1 : decode cX11_hope 1 = .ok (.iload_n 1, 1) := by decide +kernel
theorem dX11_hope_2 : decode cX11_hope 2 = .ok (.invokevirtual 137, 3) := by decide +kernel
theorem dX11_hope_5 : decode cX11_hope 5 = .ok (.istore_n 2, 1) := by decide +kernel
theorem dX11_hope_6 : decode cX11_hope 6 = .ok (.iload_n 2, 1) := by decide +kernel
theorem dX11_hope_7 : decode cX11_hope 7 = .ok (.iconst (-1), 1) := by decide +kernel
theorem dX11_hope_8 : decode cX11_hope 8 = .ok (.if_icmp .ne 9, 3) := by decide +kernel
theorem dX11_hope_11 : decode cX11_hope 11 = .ok (.ldc2_w 175, 3) := by decide +kernel
theorem dX11_hope_14 : decode cX11_hope 14 = .ok (.goto 22, 3) := by decide +kernel
theorem dX11_hope_17 : decode cX11_hope 17 = .ok (.aload_n 0, 1) := by decide +kernel
theorem dX11_hope_18 : decode cX11_hope 18 = .ok (.getfield 40, 3) := by decide +kernel
theorem dX11_hope_21 : decode cX11_hope 21 = .ok (.iload_n 2, 1) := by decide +kernel
theorem dX11_hope_22 : decode cX11_hope 22 = .ok (.aload_n 0, 1) := by decide +kernel
theorem dX11_hope_23 : decode cX11_hope 23 = .ok (.getfield 26, 3) := by decide +kernel
theorem dX11_hope_26 : decode cX11_hope 26 = .ok (.getfield 77, 3) := by decide +kernel
theorem dX11_hope_29 : decode cX11_hope 29 = .ok (.aload_n 0, 1) := by decide +kernel
theorem dX11_hope_30 : decode cX11_hope 30 = .ok (.getfield 33, 3) := by decide +kernel
theorem dX11_hope_33 : decode cX11_hope 33 = .ok (.invokevirtual 177, 3) := by decide +kernel
theorem dX11_hope_36 : decode cX11_hope 36 = .ok (.lreturn, 1) := by decide +kernel
theorem dX11_greed_0 : decode cX11_greed 0 = .ok (.aload_n 0, 1) := by decide +kernel
theorem dX11_greed_1 : decode cX11_greed 1 = .ok (.invokevirtual 165, 3) := by decide +kernel
theorem dX11_greed_4 : decode cX11_greed 4 = .ok (.ifCond .eq 18, 3) := by decide +kernel
theorem dX11_greed_7 : decode cX11_greed 7 = .ok (.aload_n 0, 1) := by decide +kernel
theorem dX11_greed_8 : decode cX11_greed 8 = .ok (.getfield 26, 3) := by decide +kernel
theorem dX11_greed_11 : decode cX11_greed 11 = .ok (.getfield 90, 3) := by decide +kernel
theorem dX11_greed_14 : decode cX11_greed 14 = .ok (.getfield 94, 3) := by decide +kernel
theorem dX11_greed_17 : decode cX11_greed 17 = .ok (.bipush 64, 2) := by decide +kernel
theorem dX11_greed_19 : decode cX11_greed 19 = .ok (.if_icmp .lt 5, 3) := by decide +kernel
theorem dX11_greed_22 : decode cX11_greed 22 = .ok (.iconst (-1), 1) := by decide +kernel
theorem dX11_greed_23 : decode cX11_greed 23 = .ok (.ireturn, 1) := by decide +kernel
theorem dX11_greed_24 : decode cX11_greed 24 = .ok (.aload_n 0, 1) := by decide +kernel
theorem dX11_greed_25 : decode cX11_greed 25 = .ok (.getfield 33, 3) := by decide +kernel
theorem dX11_greed_28 : decode cX11_greed 28 = .ok (.invokevirtual 169, 3) := by decide +kernel
theorem dX11_greed_31 : decode cX11_greed 31 = .ok (.ifCond .ne 6, 3) := by decide +kernel
theorem dX11_greed_34 : decode cX11_greed 34 = .ok (.bipush (-2), 2) := by decide +kernel
theorem dX11_greed_36 : decode cX11_greed 36 = .ok (.ireturn, 1) := by decide +kernel
theorem dX11_greed_37 : decode cX11_greed 37 = .ok (.aload_n 0, 1) := by decide +kernel
theorem dX11_greed_38 : decode cX11_greed 38 = .ok (.invokevirtual 143, 3) := by decide +kernel
theorem dX11_greed_41 : decode cX11_greed 41 = .ok (.aload_n 0, 1) := by decide +kernel
theorem dX11_greed_42 : decode cX11_greed 42 = .ok (.aload_n 0, 1) := by decide +kernel
theorem dX11_greed_43 : decode cX11_greed 43 = .ok (.getfield 40, 3) := by decide +kernel
theorem dX11_greed_46 : decode cX11_greed 46 = .ok (.aload_n 0, 1) := by decide +kernel
theorem dX11_greed_47 : decode cX11_greed 47 = .ok (.getfield 26, 3) := by decide +kernel
theorem dX11_greed_50 : decode cX11_greed 50 = .ok (.getfield 77, 3) := by decide +kernel
theorem dX11_greed_53 : decode cX11_greed 53 = .ok (.aload_n 0, 1) := by decide +kernel
theorem dX11_greed_54 : decode cX11_greed 54 = .ok (.getfield 33, 3) := by decide +kernel
theorem dX11_greed_57 : decode cX11_greed 57 = .ok (.invokevirtual 181, 3) := by decide +kernel
theorem dX11_greed_60 : decode cX11_greed 60 = .ok (.invokevirtual 146, 3) := by decide +kernel
theorem dX11_greed_63 : decode cX11_greed 63 = .ok (.aload_n 0, 1) := by decide +kernel
theorem dX11_greed_64 : decode cX11_greed 64 = .ok (.getfield 33, 3) := by decide +kernel
theorem dX11_greed_67 : decode cX11_greed 67 = .ok (.aload_n 0, 1) := by decide +kernel
theorem dX11_greed_68 : decode cX11_greed 68 = .ok (.getfield 26, 3) := by decide +kernel
theorem dX11_greed_71 : decode cX11_greed 71 = .ok (.getfield 90, 3) := by decide +kernel
theorem dX11_greed_74 : decode cX11_greed 74 = .ok (.aload_n 0, 1) := by decide +kernel
theorem dX11_greed_75 : decode cX11_greed 75 = .ok (.getfield 26, 3) := by decide +kernel
theorem dX11_greed_78 : decode cX11_greed 78 = .ok (.getfield 90, 3) := by decide +kernel
theorem dX11_greed_81 : decode cX11_greed 81 = .ok (.getfield 94, 3) := by decide +kernel
theorem dX11_greed_84 : decode cX11_greed 84 = .ok (.iconst 1, 1) := by decide +kernel
theorem dX11_greed_85 : decode cX11_greed 85 = .ok (.isub, 1) := by decide +kernel
theorem dX11_greed_86 : decode cX11_greed 86 = .ok (.invokevirtual 185, 3) := by decide +kernel
theorem dX11_greed_89 : decode cX11_greed 89 = .ok (.ireturn, 1) := by decide +kernel
theorem dX11_fill_0 : decode cX11_fill 0 = .ok (.aload_n 0, 1) := by decide +kernel
theorem dX11_fill_1 : decode cX11_fill 1 = .ok (.invokevirtual 165, 3) := by decide +kernel
theorem dX11_fill_4 : decode cX11_fill 4 = .ok (.ifCond .ne 5, 3) := by decide +kernel
theorem dX11_fill_7 : decode cX11_fill 7 = .ok (.iconst (-1), 1) := by decide +kernel
theorem dX11_fill_8 : decode cX11_fill 8 = .ok (.ireturn, 1) := by decide +kernel
theorem dX11_fill_9 : decode cX11_fill 9 = .ok (.aload_n 0, 1) := by decide +kernel
theorem dX11_fill_10 : decode cX11_fill 10 = .ok (.getfield 26, 3) := by decide +kernel
theorem dX11_fill_13 : decode cX11_fill 13 = .ok (.getfield 90, 3) := by decide +kernel
theorem dX11_fill_16 : decode cX11_fill 16 = .ok (.getfield 94, 3) := by decide +kernel
theorem dX11_fill_19 : decode cX11_fill 19 = .ok (.istore_n 1, 1) := by decide +kernel
theorem dX11_fill_20 : decode cX11_fill 20 = .ok (.iload_n 1, 1) := by decide +kernel
theorem dX11_fill_21 : decode cX11_fill 21 = .ok (.bipush 64, 2) := by decide +kernel
theorem dX11_fill_23 : decode cX11_fill 23 = .ok (.if_icmp .ge 13, 3) := by decide +kernel
theorem dX11_fill_26 : decode cX11_fill 26 = .ok (.aload_n 0, 1) := by decide +kernel
theorem dX11_fill_27 : decode cX11_fill 27 = .ok (.getfield 33, 3) := by decide +kernel
theorem dX11_fill_30 : decode cX11_fill 30 = .ok (.invokevirtual 169, 3) := by decide +kernel
theorem dX11_fill_33 : decode cX11_fill 33 = .ok (.ifCond .ne 5, 3) := by decide +kernel
theorem dX11_fill_36 : decode cX11_fill 36 = .ok (.iconst 0, 1) := by decide +kernel
theorem dX11_fill_37 : decode cX11_fill 37 = .ok (.ireturn, 1) := by decide +kernel
theorem dX11_fill_38 : decode cX11_fill 38 = .ok (.aload_n 0, 1) := by decide +kernel
theorem dX11_fill_39 : decode cX11_fill 39 = .ok (.invokevirtual 143, 3) := by decide +kernel
theorem dX11_fill_42 : decode cX11_fill 42 = .ok (.iload_n 1, 1) := by decide +kernel
theorem dX11_fill_43 : decode cX11_fill 43 = .ok (.istore_n 2, 1) := by decide +kernel
theorem dX11_fill_44 : decode cX11_fill 44 = .ok (.iload_n 2, 1) := by decide +kernel
theorem dX11_fill_45 : decode cX11_fill 45 = .ok (.bipush 64, 2) := by decide +kernel
theorem dX11_fill_47 : decode cX11_fill 47 = .ok (.if_icmp .ge 41, 3) := by decide +kernel
theorem dX11_fill_50 : decode cX11_fill 50 = .ok (.aload_n 0, 1) := by decide +kernel
theorem dX11_fill_51 : decode cX11_fill 51 = .ok (.getfield 33, 3) := by decide +kernel
theorem dX11_fill_54 : decode cX11_fill 54 = .ok (.invokevirtual 169, 3) := by decide +kernel
theorem dX11_fill_57 : decode cX11_fill 57 = .ok (.ifCond .le 31, 3) := by decide +kernel
theorem dX11_fill_60 : decode cX11_fill 60 = .ok (.aload_n 0, 1) := by decide +kernel
theorem dX11_fill_61 : decode cX11_fill 61 = .ok (.aload_n 0, 1) := by decide +kernel
theorem dX11_fill_62 : decode cX11_fill 62 = .ok (.getfield 40, 3) := by decide +kernel
theorem dX11_fill_65 : decode cX11_fill 65 = .ok (.aload_n 0, 1) := by decide +kernel
theorem dX11_fill_66 : decode cX11_fill 66 = .ok (.getfield 26, 3) := by decide +kernel
theorem dX11_fill_69 : decode cX11_fill 69 = .ok (.getfield 77, 3) := by decide +kernel
theorem dX11_fill_72 : decode cX11_fill 72 = .ok (.aload_n 0, 1) := by decide +kernel
theorem dX11_fill_73 : decode cX11_fill 73 = .ok (.getfield 33, 3) := by decide +kernel
theorem dX11_fill_76 : decode cX11_fill 76 = .ok (.invokevirtual 181, 3) := by decide +kernel
theorem dX11_fill_79 : decode cX11_fill 79 = .ok (.invokevirtual 146, 3) := by decide +kernel
theorem dX11_fill_82 : decode cX11_fill 82 = .ok (.iinc 2 1, 3) := by decide +kernel
theorem dX11_fill_85 : decode cX11_fill 85 = .ok (.goto (-41), 3) := by decide +kernel
theorem dX11_fill_88 : decode cX11_fill 88 = .ok (.aload_n 0, 1) := by decide +kernel
theorem dX11_fill_89 : decode cX11_fill 89 = .ok (.getfield 26, 3) := by decide +kernel
theorem dX11_fill_92 : decode cX11_fill 92 = .ok (.getfield 90, 3) := by decide +kernel
theorem dX11_fill_95 : decode cX11_fill 95 = .ok (.getfield 94, 3) := by decide +kernel
theorem dX11_fill_98 : decode cX11_fill 98 = .ok (.iload_n 1, 1) := by decide +kernel
theorem dX11_fill_99 : decode cX11_fill 99 = .ok (.isub, 1) := by decide +kernel
theorem dX11_fill_100 : decode cX11_fill 100 = .ok (.ireturn, 1) := by decide +kernel
theorem dX11_field_0 : decode cX11_field 0 = .ok (.aload_n 0, 1) := by decide +kernel
theorem dX11_field_1 : decode cX11_field 1 = .ok (.invokevirtual 165, 3) := by decide +kernel
theorem dX11_field_4 : decode cX11_field 4 = .ok (.ifCond .ne 5, 3) := by decide +kernel
theorem dX11_field_7 : decode cX11_field 7 = .ok (.iconst (-1), 1) := by decide +kernel
theorem dX11_field_8 : decode cX11_field 8 = .ok (.ireturn, 1) := by decide +kernel
theorem dX11_field_9 : decode cX11_field 9 = .ok (.aload_n 0, 1) := by decide +kernel
theorem dX11_field_10 : decode cX11_field 10 = .ok (.getfield 26, 3) := by decide +kernel
theorem dX11_field_13 : decode cX11_field 13 = .ok (.getfield 77, 3) := by decide +kernel
theorem dX11_field_16 : decode cX11_field 16 = .ok (.invokevirtual 189, 3) := by decide +kernel
theorem dX11_field_19 : decode cX11_field 19 = .ok (.istore_n 1, 1) := by decide +kernel
theorem dX11_field_20 : decode cX11_field 20 = .ok (.iload_n 1, 1) := by decide +kernel
theorem dX11_field_21 : decode cX11_field 21 = .ok (.aload_n 0, 1) := by decide +kernel
theorem dX11_field_22 : decode cX11_field 22 = .ok (.getfield 26, 3) := by decide +kernel
theorem dX11_field_25 : decode cX11_field 25 = .ok (.getfield 77, 3) := by decide +kernel
theorem dX11_field_28 : decode cX11_field 28 = .ok (.getfield 192, 3) := by decide +kernel
theorem dX11_field_31 : decode cX11_field 31 = .ok (.invokestatic 195, 3) := by decide +kernel
theorem dX11_field_34 : decode cX11_field 34 = .ok (.istore_n 2, 1) := by decide +kernel
theorem dX11_field_35 : decode cX11_field 35 = .ok (.iload_n 1, 1) := by decide +kernel
theorem dX11_field_36 : decode cX11_field 36 = .ok (.ifCond .eq 9, 3) := by decide +kernel
theorem dX11_field_39 : decode cX11_field 39 = .ok (.iload_n 2, 1) := by decide +kernel
theorem dX11_field_40 : decode cX11_field 40 = .ok (.bipush 64, 2) := by decide +kernel
theorem dX11_field_42 : decode cX11_field 42 = .ok (.if_icmp .le 6, 3) := by decide +kernel
theorem dX11_field_45 : decode cX11_field 45 = .ok (.bipush (-2), 2) := by decide +kernel
theorem dX11_field_47 : decode cX11_field 47 = .ok (.ireturn, 1) := by decide +kernel
theorem dX11_field_48 : decode cX11_field 48 = .ok (.iconst 0, 1) := by decide +kernel
theorem dX11_field_49 : decode cX11_field 49 = .ok (.istore_n 3, 1) := by decide +kernel
theorem dX11_field_50 : decode cX11_field 50 = .ok (.iload_n 3, 1) := by decide +kernel
theorem dX11_field_51 : decode cX11_field 51 = .ok (.iload_n 2, 1) := by decide +kernel
theorem dX11_field_52 : decode cX11_field 52 = .ok (.if_icmp .ge 37, 3) := by decide +kernel
theorem dX11_field_55 : decode cX11_field 55 = .ok (.aload_n 0, 1) := by decide +kernel
theorem dX11_field_56 : decode cX11_field 56 = .ok (.getfield 26, 3) := by decide +kernel
theorem dX11_field_59 : decode cX11_field 59 = .ok (.getfield 77, 3) := by decide +kernel
theorem dX11_field_62 : decode cX11_field 62 = .ok (.aload_n 0, 1) := by decide +kernel
theorem dX11_field_63 : decode cX11_field 63 = .ok (.getfield 26, 3) := by decide +kernel
theorem dX11_field_66 : decode cX11_field 66 = .ok (.getfield 77, 3) := by decide +kernel
theorem dX11_field_69 : decode cX11_field 69 = .ok (.iload_n 3, 1) := by decide +kernel
theorem dX11_field_70 : decode cX11_field 70 = .ok (.iload_n 1, 1) := by decide +kernel
theorem dX11_field_71 : decode cX11_field 71 = .ok (.invokevirtual 200, 3) := by decide +kernel
theorem dX11_field_74 : decode cX11_field 74 = .ok (.invokevirtual 140, 3) := by decide +kernel
theorem dX11_field_77 : decode cX11_field 77 = .ok (.ifCond .ne 6, 3) := by decide +kernel
theorem dX11_field_80 : decode cX11_field 80 = .ok (.bipush (-2), 2) := by decide +kernel
theorem dX11_field_82 : decode cX11_field 82 = .ok (.ireturn, 1) := by decide +kernel
theorem dX11_field_83 : decode cX11_field 83 = .ok (.iinc 3 1, 3) := by decide +kernel
theorem dX11_field_86 : decode cX11_field 86 = .ok (.goto (-36), 3) := by decide +kernel
theorem dX11_field_89 : decode cX11_field 89 = .ok (.aload_n 0, 1) := by decide +kernel
theorem dX11_field_90 : decode cX11_field 90 = .ok (.invokevirtual 143, 3) := by decide +kernel
theorem dX11_field_93 : decode cX11_field 93 = .ok (.aload_n 0, 1) := by decide +kernel
theorem dX11_field_94 : decode cX11_field 94 = .ok (.getfield 26, 3) := by decide +kernel
theorem dX11_field_97 : decode cX11_field 97 = .ok (.getfield 90, 3) := by decide +kernel
theorem dX11_field_100 : decode cX11_field 100 = .ok (.iconst 0, 1) := by decide +kernel
theorem dX11_field_101 : decode cX11_field 101 = .ok (.putfield 94, 3) := by decide +kernel
theorem dX11_field_104 : decode cX11_field 104 = .ok (.iconst 0, 1) := by decide +kernel
theorem dX11_field_105 : decode cX11_field 105 = .ok (.istore_n 3, 1) := by decide +kernel
theorem dX11_field_106 : decode cX11_field 106 = .ok (.iload_n 3, 1) := by decide +kernel
theorem dX11_field_107 : decode cX11_field 107 = .ok (.iload_n 2, 1) := by decide +kernel
theorem dX11_field_108 : decode cX11_field 108 = .ok (.if_icmp .ge 31, 3) := by decide +kernel
theorem dX11_field_111 : decode cX11_field 111 = .ok (.aload_n 0, 1) := by decide +kernel
theorem dX11_field_112 : decode cX11_field 112 = .ok (.getfield 26, 3) := by decide +kernel
theorem dX11_field_115 : decode cX11_field 115 = .ok (.getfield 90, 3) := by decide +kernel
theorem dX11_field_118 : decode cX11_field 118 = .ok (.aload_n 0, 1) := by decide +kernel
theorem dX11_field_119 : decode cX11_field 119 = .ok (.getfield 26, 3) := by decide +kernel
theorem dX11_field_122 : decode cX11_field 122 = .ok (.getfield 77, 3) := by decide +kernel
theorem dX11_field_125 : decode cX11_field 125 = .ok (.iload_n 3, 1) := by decide +kernel
theorem dX11_field_126 : decode cX11_field 126 = .ok (.iload_n 1, 1) := by decide +kernel
theorem dX11_field_127 : decode cX11_field 127 = .ok (.invokevirtual 200, 3) := by decide +kernel
theorem dX11_field_130 : decode cX11_field 130 = .ok (.invokevirtual 203, 3) := by decide +kernel
theorem dX11_field_133 : decode cX11_field 133 = .ok (.iinc 3 1, 3) := by decide +kernel
theorem dX11_field_136 : decode cX11_field 136 = .ok (.goto (-30), 3) := by decide +kernel
theorem dX11_field_139 : decode cX11_field 139 = .ok (.aload_n 0, 1) := by decide +kernel
theorem dX11_field_140 : decode cX11_field 140 = .ok (.getfield 33, 3) := by decide +kernel
theorem dX11_field_143 : decode cX11_field 143 = .ok (.aload_n 0, 1) := by decide +kernel
theorem dX11_field_144 : decode cX11_field 144 = .ok (.getfield 26, 3) := by decide +kernel
theorem dX11_field_147 : decode cX11_field 147 = .ok (.getfield 90, 3) := by decide +kernel
theorem dX11_field_150 : decode cX11_field 150 = .ok (.invokevirtual 204, 3) := by decide +kernel
theorem dX11_field_153 : decode cX11_field 153 = .ok (.iload_n 1, 1) := by decide +kernel
theorem dX11_field_154 : decode cX11_field 154 = .ok (.ireturn, 1) := by decide +kernel
theorem dX11_widen_0 : decode cX11_widen 0 = .ok (.aload_n 0, 1) := by decide +kernel
theorem dX11_widen_1 : decode cX11_widen 1 = .ok (.invokevirtual 165, 3) := by decide +kernel
theorem dX11_widen_4 : decode cX11_widen 4 = .ok (.ifCond .eq 49, 3) := by decide +kernel
theorem dX11_widen_7 : decode cX11_widen 7 = .ok (.iload_n 1, 1) := by decide +kernel
theorem dX11_widen_8 : decode cX11_widen 8 = .ok (.iconst 2, 1) := by decide +kernel
theorem dX11_widen_9 : decode cX11_widen 9 = .ok (.if_icmp .lt 44, 3) := by decide +kernel
theorem dX11_widen_12 : decode cX11_widen 12 = .ok (.iload_n 1, 1) := by decide +kernel
theorem dX11_widen_13 : decode cX11_widen 13 = .ok (.iconst 4, 1) := by decide +kernel
theorem dX11_widen_14 : decode cX11_widen 14 = .ok (.if_icmp .gt 39, 3) := by decide +kernel
theorem dX11_widen_17 : decode cX11_widen 17 = .ok (.aload_n 0, 1) := by decide +kernel
theorem dX11_widen_18 : decode cX11_widen 18 = .ok (.getfield 26, 3) := by decide +kernel
theorem dX11_widen_21 : decode cX11_widen 21 = .ok (.getfield 77, 3) := by decide +kernel
theorem dX11_widen_24 : decode cX11_widen 24 = .ok (.getfield 208, 3) := by decide +kernel
theorem dX11_widen_27 : decode cX11_widen 27 = .ok (.bipush 8, 2) := by decide +kernel
theorem dX11_widen_29 : decode cX11_widen 29 = .ok (.if_icmp .ge 24, 3) := by decide +kernel
theorem dX11_widen_32 : decode cX11_widen 32 = .ok (.aload_n 0, 1) := by decide +kernel
theorem dX11_widen_33 : decode cX11_widen 33 = .ok (.getfield 19, 3) := by decide +kernel
theorem dX11_widen_36 : decode cX11_widen 36 = .ok (.aload_n 0, 1) := by decide +kernel
theorem dX11_widen_37 : decode cX11_widen 37 = .ok (.getfield 26, 3) := by decide +kernel
theorem dX11_widen_40 : decode cX11_widen 40 = .ok (.getfield 77, 3) := by decide +kernel
theorem dX11_widen_43 : decode cX11_widen 43 = .ok (.iload_n 1, 1) := by decide +kernel
theorem dX11_widen_44 : decode cX11_widen 44 = .ok (.invokevirtual 211, 3) := by decide +kernel
theorem dX11_widen_47 : decode cX11_widen 47 = .ok (.sipush 1200, 3) := by decide +kernel
theorem dX11_widen_50 : decode cX11_widen 50 = .ok (.if_icmp .le 5, 3) := by decide +kernel
theorem dX11_widen_53 : decode cX11_widen 53 = .ok (.iconst (-1), 1) := by decide +kernel
theorem dX11_widen_54 : decode cX11_widen 54 = .ok (.ireturn, 1) := by decide +kernel
theorem dX11_widen_55 : decode cX11_widen 55 = .ok (.aload_n 0, 1) := by decide +kernel
theorem dX11_widen_56 : decode cX11_widen 56 = .ok (.invokevirtual 143, 3) := by decide +kernel
theorem dX11_widen_59 : decode cX11_widen 59 = .ok (.aload_n 0, 1) := by decide +kernel
theorem dX11_widen_60 : decode cX11_widen 60 = .ok (.getfield 26, 3) := by decide +kernel
theorem dX11_widen_63 : decode cX11_widen 63 = .ok (.getfield 77, 3) := by decide +kernel
theorem dX11_widen_66 : decode cX11_widen 66 = .ok (.iload_n 1, 1) := by decide +kernel
theorem dX11_widen_67 : decode cX11_widen 67 = .ok (.invokevirtual 215, 3) := by decide +kernel
theorem dX11_widen_70 : decode cX11_widen 70 = .ok (.aload_n 0, 1) := by decide +kernel
theorem dX11_widen_71 : decode cX11_widen 71 = .ok (.invokevirtual 100, 3) := by decide +kernel
theorem dX11_widen_74 : decode cX11_widen 74 = .ok (.aload_n 0, 1) := by decide +kernel
theorem dX11_widen_75 : decode cX11_widen 75 = .ok (.getfield 33, 3) := by decide +kernel
theorem dX11_widen_78 : decode cX11_widen 78 = .ok (.invokevirtual 103, 3) := by decide +kernel
theorem dX11_widen_81 : decode cX11_widen 81 = .ok (.ireturn, 1) := by decide +kernel
theorem dX11_settle_0 : decode cX11_settle 0 = .ok (.aload_n 0, 1) := by decide +kernel
theorem dX11_settle_1 : decode cX11_settle 1 = .ok (.invokevirtual 165, 3) := by decide +kernel
theorem dX11_settle_4 : decode cX11_settle 4 = .ok (.ifCond .ne 5, 3) := by decide +kernel
theorem dX11_settle_7 : decode cX11_settle 7 = .ok (.iconst (-1), 1) := by decide +kernel
theorem dX11_settle_8 : decode cX11_settle 8 = .ok (.ireturn, 1) := by decide +kernel
theorem dX11_settle_9 : decode cX11_settle 9 = .ok (.aload_n 0, 1) := by decide +kernel
theorem dX11_settle_10 : decode cX11_settle 10 = .ok (.invokevirtual 143, 3) := by decide +kernel
theorem dX11_settle_13 : decode cX11_settle 13 = .ok (.iconst 0, 1) := by decide +kernel
theorem dX11_settle_14 : decode cX11_settle 14 = .ok (.istore_n 1, 1) := by decide +kernel
theorem dX11_settle_15 : decode cX11_settle 15 = .ok (.iconst 0, 1) := by decide +kernel
theorem dX11_settle_16 : decode cX11_settle 16 = .ok (.istore_n 2, 1) := by decide +kernel
theorem dX11_settle_17 : decode cX11_settle 17 = .ok (.iload_n 2, 1) := by decide +kernel
theorem dX11_settle_18 : decode cX11_settle 18 = .ok (.aload_n 0, 1) := by decide +kernel
theorem dX11_settle_19 : decode cX11_settle 19 = .ok (.getfield 26, 3) := by decide +kernel
theorem dX11_settle_22 : decode cX11_settle 22 = .ok (.getfield 90, 3) := by decide +kernel
theorem dX11_settle_25 : decode cX11_settle 25 = .ok (.getfield 94, 3) := by decide +kernel
theorem dX11_settle_28 : decode cX11_settle 28 = .ok (.if_icmp .ge 60, 3) := by decide +kernel
theorem dX11_settle_31 : decode cX11_settle 31 = .ok (.iconst 0, 1) := by decide +kernel
theorem dX11_settle_32 : decode cX11_settle 32 = .ok (.istore_n 3, 1) := by decide +kernel
theorem dX11_settle_33 : decode cX11_settle 33 = .ok (.iload_n 3, 1) := by decide +kernel
theorem dX11_settle_34 : decode cX11_settle 34 = .ok (.aload_n 0, 1) := by decide +kernel
theorem dX11_settle_35 : decode cX11_settle 35 = .ok (.getfield 26, 3) := by decide +kernel
theorem dX11_settle_38 : decode cX11_settle 38 = .ok (.getfield 77, 3) := by decide +kernel
theorem dX11_settle_41 : decode cX11_settle 41 = .ok (.getfield 208, 3) := by decide +kernel
theorem dX11_settle_44 : decode cX11_settle 44 = .ok (.if_icmp .ge 38, 3) := by decide +kernel
theorem dX11_settle_47 : decode cX11_settle 47 = .ok (.aload_n 0, 1) := by decide +kernel
theorem dX11_settle_48 : decode cX11_settle 48 = .ok (.getfield 26, 3) := by decide +kernel
theorem dX11_settle_51 : decode cX11_settle 51 = .ok (.getfield 90, 3) := by decide +kernel
theorem dX11_settle_54 : decode cX11_settle 54 = .ok (.getfield 152, 3) := by decide +kernel
theorem dX11_settle_57 : decode cX11_settle 57 = .ok (.iload_n 2, 1) := by decide +kernel
theorem dX11_settle_58 : decode cX11_settle 58 = .ok (.iaload, 1) := by decide +kernel
theorem dX11_settle_59 : decode cX11_settle 59 = .ok (.iload_n 3, 1) := by decide +kernel
theorem dX11_settle_60 : decode cX11_settle 60 = .ok (.invokestatic 155, 3) := by decide +kernel
theorem dX11_settle_63 : decode cX11_settle 63 = .ok (.iconst (-1), 1) := by decide +kernel
theorem dX11_settle_64 : decode cX11_settle 64 = .ok (.if_icmp .ne 12, 3) := by decide +kernel
theorem dX11_settle_67 : decode cX11_settle 67 = .ok (.aload_n 0, 1) := by decide +kernel
theorem dX11_settle_68 : decode cX11_settle 68 = .ok (.iload_n 2, 1) := by decide +kernel
theorem dX11_settle_69 : decode cX11_settle 69 = .ok (.iload_n 3, 1) := by decide +kernel
theorem dX11_settle_70 : decode cX11_settle 70 = .ok (.invokevirtual 218, 3) := by decide +kernel
theorem dX11_settle_73 : decode cX11_settle 73 = .ok (.iinc 1 1, 3) := by decide +kernel
theorem dX11_settle_76 : decode cX11_settle 76 = .ok (.iinc 3 1, 3) := by decide +kernel
theorem dX11_settle_79 : decode cX11_settle 79 = .ok (.goto (-46), 3) := by decide +kernel
theorem dX11_settle_82 : decode cX11_settle 82 = .ok (.iinc 2 1, 3) := by decide +kernel
theorem dX11_settle_85 : decode cX11_settle 85 = .ok (.goto (-68), 3) := by decide +kernel
theorem dX11_settle_88 : decode cX11_settle 88 = .ok (.iload_n 1, 1) := by decide +kernel
theorem dX11_settle_89 : decode cX11_settle 89 = .ok (.ireturn, 1) := by decide +kernel
theorem dX11_thin_0 : decode cX11_thin 0 = .ok (.aload_n 0, 1) := by decide +kernel
theorem dX11_thin_1 : decode cX11_thin 1 = .ok (.invokevirtual 165, 3) := by decide +kernel
theorem dX11_thin_4 : decode cX11_thin 4 = .ok (.ifCond .ne 5, 3) := by decide +kernel
theorem dX11_thin_7 : decode cX11_thin 7 = .ok (.iconst (-1), 1) := by decide +kernel
theorem dX11_thin_8 : decode cX11_thin 8 = .ok (.ireturn, 1) := by decide +kernel
theorem dX11_thin_9 : decode cX11_thin 9 = .ok (.aload_n 0, 1) := by decide +kernel
theorem dX11_thin_10 : decode cX11_thin 10 = .ok (.invokevirtual 143, 3) := by decide +kernel
theorem dX11_thin_13 : decode cX11_thin 13 = .ok (.aload_n 0, 1) := by decide +kernel
theorem dX11_thin_14 : decode cX11_thin 14 = .ok (.getfield 26, 3) := by decide +kernel
theorem dX11_thin_17 : decode cX11_thin 17 = .ok (.getfield 90, 3) := by decide +kernel
theorem dX11_thin_20 : decode cX11_thin 20 = .ok (.getfield 94, 3) := by decide +kernel
theorem dX11_thin_23 : decode cX11_thin 23 = .ok (.istore_n 1, 1) := by decide +kernel
theorem dX11_thin_24 : decode cX11_thin 24 = .ok (.iload_n 1, 1) := by decide +kernel
theorem dX11_thin_25 : decode cX11_thin 25 = .ok (.iconst 1, 1) := by decide +kernel
theorem dX11_thin_26 : decode cX11_thin 26 = .ok (.isub, 1) := by decide +kernel
theorem dX11_thin_27 : decode cX11_thin 27 = .ok (.istore_n 2, 1) := by decide +kernel
theorem dX11_thin_28 : decode cX11_thin 28 = .ok (.iload_n 2, 1) := by decide +kernel
theorem dX11_thin_29 : decode cX11_thin 29 = .ok (.ifCond .lt 36, 3) := by decide +kernel
theorem dX11_thin_32 : decode cX11_thin 32 = .ok (.aload_n 0, 1) := by decide +kernel
theorem dX11_thin_33 : decode cX11_thin 33 = .ok (.getfield 33, 3) := by decide +kernel
theorem dX11_thin_36 : decode cX11_thin 36 = .ok (.aload_n 0, 1) := by decide +kernel
theorem dX11_thin_37 : decode cX11_thin 37 = .ok (.getfield 26, 3) := by decide +kernel
theorem dX11_thin_40 : decode cX11_thin 40 = .ok (.getfield 90, 3) := by decide +kernel
theorem dX11_thin_43 : decode cX11_thin 43 = .ok (.getfield 152, 3) := by decide +kernel
theorem dX11_thin_46 : decode cX11_thin 46 = .ok (.iload_n 2, 1) := by decide +kernel
theorem dX11_thin_47 : decode cX11_thin 47 = .ok (.iaload, 1) := by decide +kernel
theorem dX11_thin_48 : decode cX11_thin 48 = .ok (.invokevirtual 221, 3) := by decide +kernel
theorem dX11_thin_51 : decode cX11_thin 51 = .ok (.ifCond .eq 8, 3) := by decide +kernel
theorem dX11_thin_54 : decode cX11_thin 54 = .ok (.aload_n 0, 1) := by decide +kernel
theorem dX11_thin_55 : decode cX11_thin 55 = .ok (.iload_n 2, 1) := by decide +kernel
theorem dX11_thin_56 : decode cX11_thin 56 = .ok (.invokevirtual 162, 3) := by decide +kernel
theorem dX11_thin_59 : decode cX11_thin 59 = .ok (.iinc 2 (-1), 3) := by decide +kernel
theorem dX11_thin_62 : decode cX11_thin 62 = .ok (.goto (-34), 3) := by decide +kernel
theorem dX11_thin_65 : decode cX11_thin 65 = .ok (.iload_n 1, 1) := by decide +kernel
theorem dX11_thin_66 : decode cX11_thin 66 = .ok (.aload_n 0, 1) := by decide +kernel
theorem dX11_thin_67 : decode cX11_thin 67 = .ok (.getfield 26, 3) := by decide +kernel
theorem dX11_thin_70 : decode cX11_thin 70 = .ok (.getfield 90, 3) := by decide +kernel
theorem dX11_thin_73 : decode cX11_thin 73 = .ok (.getfield 94, 3) := by decide +kernel
theorem dX11_thin_76 : decode cX11_thin 76 = .ok (.isub, 1) := by decide +kernel
theorem dX11_thin_77 : decode cX11_thin 77 = .ok (.ireturn, 1) := by decide +kernel
theorem dX11_order_0 : decode cX11_order 0 = .ok (.aload_n 0, 1) := by decide +kernel
theorem dX11_order_1 : decode cX11_order 1 = .ok (.invokevirtual 165, 3) := by decide +kernel
theorem dX11_order_4 : decode cX11_order 4 = .ok (.ifCond .ne 5, 3) := by decide +kernel
theorem dX11_order_7 : decode cX11_order 7 = .ok (.iconst (-1), 1) := by decide +kernel
theorem dX11_order_8 : decode cX11_order 8 = .ok (.ireturn, 1) := by decide +kernel
theorem dX11_order_9 : decode cX11_order 9 = .ok (.aload_n 0, 1) := by decide +kernel
theorem dX11_order_10 : decode cX11_order 10 = .ok (.invokevirtual 143, 3) := by decide +kernel
theorem dX11_order_13 : decode cX11_order 13 = .ok (.aload_n 0, 1) := by decide +kernel
theorem dX11_order_14 : decode cX11_order 14 = .ok (.getfield 47, 3) := by decide +kernel
theorem dX11_order_17 : decode cX11_order 17 = .ok (.aload_n 0, 1) := by decide +kernel
theorem dX11_order_18 : decode cX11_order 18 = .ok (.getfield 26, 3) := by decide +kernel
theorem dX11_order_21 : decode cX11_order 21 = .ok (.getfield 90, 3) := by decide +kernel
theorem dX11_order_24 : decode cX11_order 24 = .ok (.aload_n 0, 1) := by decide +kernel
theorem dX11_order_25 : decode cX11_order 25 = .ok (.getfield 33, 3) := by decide +kernel
theorem dX11_order_28 : decode cX11_order 28 = .ok (.invokevirtual 224, 3) := by decide +kernel
theorem dX11_order_31 : decode cX11_order 31 = .ok (.ireturn, 1) := by decide +kernel
theorem dX11_drawn_0 : decode cX11_drawn 0 = .ok (.aload_n 0, 1) := by decide +kernel
theorem dX11_drawn_1 : decode cX11_drawn 1 = .ok (.invokevirtual 165, 3) := by decide +kernel
theorem dX11_drawn_4 : decode cX11_drawn 4 = .ok (.ifCond .eq 18, 3) := by decide +kernel
theorem dX11_drawn_7 : decode cX11_drawn 7 = .ok (.aload_n 0, 1) := by decide +kernel
theorem dX11_drawn_8 : decode cX11_drawn 8 = .ok (.getfield 26, 3) := by decide +kernel
theorem dX11_drawn_11 : decode cX11_drawn 11 = .ok (.getfield 90, 3) := by decide +kernel
theorem dX11_drawn_14 : decode cX11_drawn 14 = .ok (.getfield 94, 3) := by decide +kernel
theorem dX11_drawn_17 : decode cX11_drawn 17 = .ok (.bipush 64, 2) := by decide +kernel
theorem dX11_drawn_19 : decode cX11_drawn 19 = .ok (.if_icmp .lt 5, 3) := by decide +kernel
theorem dX11_drawn_22 : decode cX11_drawn 22 = .ok (.iconst (-1), 1) := by decide +kernel
theorem dX11_drawn_23 : decode cX11_drawn 23 = .ok (.ireturn, 1) := by decide +kernel
theorem dX11_drawn_24 : decode cX11_drawn 24 = .ok (.aload_n 0, 1) := by decide +kernel
theorem dX11_drawn_25 : decode cX11_drawn 25 = .ok (.invokevirtual 143, 3) := by decide +kernel
theorem dX11_drawn_28 : decode cX11_drawn 28 = .ok (.iconst 0, 1) := by decide +kernel
theorem dX11_drawn_29 : decode cX11_drawn 29 = .ok (.istore_n 1, 1) := by decide +kernel
theorem dX11_drawn_30 : decode cX11_drawn 30 = .ok (.iconst 0, 1) := by decide +kernel
theorem dX11_drawn_31 : decode cX11_drawn 31 = .ok (.istore_n 2, 1) := by decide +kernel
theorem dX11_drawn_32 : decode cX11_drawn 32 = .ok (.iload_n 2, 1) := by decide +kernel
theorem dX11_drawn_33 : decode cX11_drawn 33 = .ok (.aload_n 0, 1) := by decide +kernel
theorem dX11_drawn_34 : decode cX11_drawn 34 = .ok (.getfield 26, 3) := by decide +kernel
theorem dX11_drawn_37 : decode cX11_drawn 37 = .ok (.getfield 77, 3) := by decide +kernel
theorem dX11_drawn_40 : decode cX11_drawn 40 = .ok (.getfield 208, 3) := by decide +kernel
theorem dX11_drawn_43 : decode cX11_drawn 43 = .ok (.if_icmp .ge 65, 3) := by decide +kernel
theorem dX11_drawn_46 : decode cX11_drawn 46 = .ok (.aload_n 0, 1) := by decide +kernel
theorem dX11_drawn_47 : decode cX11_drawn 47 = .ok (.getfield 26, 3) := by decide +kernel
theorem dX11_drawn_50 : decode cX11_drawn 50 = .ok (.getfield 77, 3) := by decide +kernel
theorem dX11_drawn_53 : decode cX11_drawn 53 = .ok (.iload_n 1, 1) := by decide +kernel
theorem dX11_drawn_54 : decode cX11_drawn 54 = .ok (.iload_n 2, 1) := by decide +kernel
theorem dX11_drawn_55 : decode cX11_drawn 55 = .ok (.invokevirtual 228, 3) := by decide +kernel
theorem dX11_drawn_58 : decode cX11_drawn 58 = .ok (.istore_n 3, 1) := by decide +kernel
theorem dX11_drawn_59 : decode cX11_drawn 59 = .ok (.aload_n 0, 1) := by decide +kernel
theorem dX11_drawn_60 : decode cX11_drawn 60 = .ok (.iload_n 3, 1) := by decide +kernel
theorem dX11_drawn_61 : decode cX11_drawn 61 = .ok (.invokestatic 231, 3) := by decide +kernel
theorem dX11_drawn_64 : decode cX11_drawn 64 = .ok (.invokevirtual 236, 3) := by decide +kernel
theorem dX11_drawn_67 : decode cX11_drawn 67 = .ok (.istore 4, 2) := by decide +kernel
theorem dX11_drawn_69 : decode cX11_drawn 69 = .ok (.iconst 0, 1) := by decide +kernel
theorem dX11_drawn_70 : decode cX11_drawn 70 = .ok (.istore 5, 2) := by decide +kernel
theorem dX11_drawn_72 : decode cX11_drawn 72 = .ok (.iload 5, 2) := by decide +kernel
theorem dX11_drawn_74 : decode cX11_drawn 74 = .ok (.iload 4, 2) := by decide +kernel
theorem dX11_drawn_76 : decode cX11_drawn 76 = .ok (.if_icmp .ge 15, 3) := by decide +kernel
theorem dX11_drawn_79 : decode cX11_drawn 79 = .ok (.iload_n 3, 1) := by decide +kernel
theorem dX11_drawn_80 : decode cX11_drawn 80 = .ok (.iload_n 3, 1) := by decide +kernel
theorem dX11_drawn_81 : decode cX11_drawn 81 = .ok (.iconst 1, 1) := by decide +kernel
theorem dX11_drawn_82 : decode cX11_drawn 82 = .ok (.isub, 1) := by decide +kernel
theorem dX11_drawn_83 : decode cX11_drawn 83 = .ok (.iand, 1) := by decide +kernel
theorem dX11_drawn_84 : decode cX11_drawn 84 = .ok (.istore_n 3, 1) := by decide +kernel
theorem dX11_drawn_85 : decode cX11_drawn 85 = .ok (.iinc 5 1, 3) := by decide +kernel
theorem dX11_drawn_88 : decode cX11_drawn 88 = .ok (.goto (-16), 3) := by decide +kernel
theorem dX11_drawn_91 : decode cX11_drawn 91 = .ok (.iload_n 1, 1) := by decide +kernel
theorem dX11_drawn_92 : decode cX11_drawn 92 = .ok (.iload_n 3, 1) := by decide +kernel
theorem dX11_drawn_93 : decode cX11_drawn 93 = .ok (.iload_n 3, 1) := by decide +kernel
theorem dX11_drawn_94 : decode cX11_drawn 94 = .ok (.ineg, 1) := by decide +kernel
theorem dX11_drawn_95 : decode cX11_drawn 95 = .ok (.iand, 1) := by decide +kernel
theorem dX11_drawn_96 : decode cX11_drawn 96 = .ok (.iconst 4, 1) := by decide +kernel
theorem dX11_drawn_97 : decode cX11_drawn 97 = .ok (.iload_n 2, 1) := by decide +kernel
theorem dX11_drawn_98 : decode cX11_drawn 98 = .ok (.imul, 1) := by decide +kernel
theorem dX11_drawn_99 : decode cX11_drawn 99 = .ok (.ishl, 1) := by decide +kernel
theorem dX11_drawn_100 : decode cX11_drawn 100 = .ok (.ior, 1) := by decide +kernel
theorem dX11_drawn_101 : decode cX11_drawn 101 = .ok (.istore_n 1, 1) := by decide +kernel
theorem dX11_drawn_102 : decode cX11_drawn 102 = .ok (.iinc 2 1, 3) := by decide +kernel
theorem dX11_drawn_105 : decode cX11_drawn 105 = .ok (.goto (-73), 3) := by decide +kernel
theorem dX11_drawn_108 : decode cX11_drawn 108 = .ok (.aload_n 0, 1) := by decide +kernel
theorem dX11_drawn_109 : decode cX11_drawn 109 = .ok (.iload_n 1, 1) := by decide +kernel
theorem dX11_drawn_110 : decode cX11_drawn 110 = .ok (.invokevirtual 146, 3) := by decide +kernel
theorem dX11_drawn_113 : decode cX11_drawn 113 = .ok (.aload_n 0, 1) := by decide +kernel
theorem dX11_drawn_114 : decode cX11_drawn 114 = .ok (.getfield 26, 3) := by decide +kernel
theorem dX11_drawn_117 : decode cX11_drawn 117 = .ok (.getfield 77, 3) := by decide +kernel
theorem dX11_drawn_120 : decode cX11_drawn 120 = .ok (.iload_n 1, 1) := by decide +kernel
theorem dX11_drawn_121 : decode cX11_drawn 121 = .ok (.invokevirtual 239, 3) := by decide +kernel
theorem dX11_drawn_124 : decode cX11_drawn 124 = .ok (.ireturn, 1) := by decide +kernel
theorem dX11_draws_0 : decode cX11_draws 0 = .ok (.iload_n 1, 1) := by decide +kernel
theorem dX11_draws_1 : decode cX11_draws 1 = .ok (.ifCond .ge 5, 3) := by decide +kernel
theorem dX11_draws_4 : decode cX11_draws 4 = .ok (.iconst (-1), 1) := by decide +kernel
theorem dX11_draws_5 : decode cX11_draws 5 = .ok (.ireturn, 1) := by decide +kernel
theorem dX11_draws_6 : decode cX11_draws 6 = .ok (.aload_n 0, 1) := by decide +kernel
theorem dX11_draws_7 : decode cX11_draws 7 = .ok (.getfield 26, 3) := by decide +kernel
theorem dX11_draws_10 : decode cX11_draws 10 = .ok (.getfield 242, 3) := by decide +kernel
theorem dX11_draws_13 : decode cX11_draws 13 = .ok (.istore_n 2, 1) := by decide +kernel
theorem dX11_draws_14 : decode cX11_draws 14 = .ok (.aload_n 0, 1) := by decide +kernel
theorem dX11_draws_15 : decode cX11_draws 15 = .ok (.getfield 26, 3) := by decide +kernel
theorem dX11_draws_18 : decode cX11_draws 18 = .ok (.iload_n 1, 1) := by decide +kernel
theorem dX11_draws_19 : decode cX11_draws 19 = .ok (.putfield 242, 3) := by decide +kernel
theorem dX11_draws_22 : decode cX11_draws 22 = .ok (.iload_n 2, 1) := by decide +kernel
theorem dX11_draws_23 : decode cX11_draws 23 = .ok (.ireturn, 1) := by decide +kernel
theorem dX11_gain_0 : decode cX11_gain 0 = .ok (.aload_n 0, 1) := by decide +kernel
theorem dX11_gain_1 : decode cX11_gain 1 = .ok (.iload_n 1, 1) := by decide +kernel
theorem dX11_gain_2 : decode cX11_gain 2 = .ok (.invokevirtual 149, 3) := by decide +kernel
theorem dX11_gain_5 : decode cX11_gain 5 = .ok (.ifCond .eq 21, 3) := by decide +kernel
theorem dX11_gain_8 : decode cX11_gain 8 = .ok (.aload_n 0, 1) := by decide +kernel
theorem dX11_gain_9 : decode cX11_gain 9 = .ok (.getfield 33, 3) := by decide +kernel
theorem dX11_gain_12 : decode cX11_gain 12 = .ok (.aload_n 0, 1) := by decide +kernel
theorem dX11_gain_13 : decode cX11_gain 13 = .ok (.getfield 26, 3) := by decide +kernel
theorem dX11_gain_16 : decode cX11_gain 16 = .ok (.getfield 90, 3) := by decide +kernel
theorem dX11_gain_19 : decode cX11_gain 19 = .ok (.iload_n 1, 1) := by decide +kernel
theorem dX11_gain_20 : decode cX11_gain 20 = .ok (.invokevirtual 185, 3) := by decide +kernel
theorem dX11_gain_23 : decode cX11_gain 23 = .ok (.goto 4, 3) := by decide +kernel
theorem dX11_gain_26 : decode cX11_gain 26 = .ok (.iconst (-1), 1) := by decide +kernel
theorem dX11_gain_27 : decode cX11_gain 27 = .ok (.ireturn, 1) := by decide +kernel
theorem dX11_least_0 : decode cX11_least 0 = .ok (.aload_n 0, 1) := by decide +kernel
theorem dX11_least_1 : decode cX11_least 1 = .ok (.invokevirtual 165, 3) := by decide +kernel
theorem dX11_least_4 : decode cX11_least 4 = .ok (.ifCond .eq 13, 3) := by decide +kernel
theorem dX11_least_7 : decode cX11_least 7 = .ok (.aload_n 0, 1) := by decide +kernel
theorem dX11_least_8 : decode cX11_least 8 = .ok (.getfield 33, 3) := by decide +kernel
theorem dX11_least_11 : decode cX11_least 11 = .ok (.invokevirtual 245, 3) := by decide +kernel
theorem dX11_least_14 : decode cX11_least 14 = .ok (.goto 4, 3) := by decide +kernel
theorem dX11_least_17 : decode cX11_least 17 = .ok (.iconst (-1), 1) := by decide +kernel
theorem dX11_least_18 : decode cX11_least 18 = .ok (.ireturn, 1) := by decide +kernel
theorem dX11_lawful_0 : decode cX11_lawful 0 = .ok (.aload_n 0, 1) := by decide +kernel
theorem dX11_lawful_1 : decode cX11_lawful 1 = .ok (.iload_n 1, 1) := by decide +kernel
theorem dX11_lawful_2 : decode cX11_lawful 2 = .ok (.invokevirtual 137, 3) := by decide +kernel
theorem dX11_lawful_5 : decode cX11_lawful 5 = .ok (.istore_n 2, 1) := by decide +kernel
theorem dX11_lawful_6 : decode cX11_lawful 6 = .ok (.iload_n 2, 1) := by decide +kernel
theorem dX11_lawful_7 : decode cX11_lawful 7 = .ok (.iconst (-1), 1) := by decide +kernel
theorem dX11_lawful_8 : decode cX11_lawful 8 = .ok (.if_icmp .ne 7, 3) := by decide +kernel
theorem dX11_lawful_11 : decode cX11_lawful 11 = .ok (.iconst (-1), 1) := by decide +kernel
theorem dX11_lawful_12 : decode cX11_lawful 12 = .ok (.goto 25, 3) := by decide +kernel
theorem dX11_lawful_15 : decode cX11_lawful 15 = .ok (.aload_n 0, 1) := by decide +kernel
theorem dX11_lawful_16 : decode cX11_lawful 16 = .ok (.getfield 26, 3) := by decide +kernel
theorem dX11_lawful_19 : decode cX11_lawful 19 = .ok (.getfield 77, 3) := by decide +kernel
theorem dX11_lawful_22 : decode cX11_lawful 22 = .ok (.aload_n 0, 1) := by decide +kernel
theorem dX11_lawful_23 : decode cX11_lawful 23 = .ok (.getfield 26, 3) := by decide +kernel
theorem dX11_lawful_26 : decode cX11_lawful 26 = .ok (.getfield 77, 3) := by decide +kernel
theorem dX11_lawful_29 : decode cX11_lawful 29 = .ok (.iload_n 2, 1) := by decide +kernel
theorem dX11_lawful_30 : decode cX11_lawful 30 = .ok (.invokevirtual 248, 3) := by decide +kernel
theorem dX11_lawful_33 : decode cX11_lawful 33 = .ok (.iconst 0, 1) := by decide +kernel
theorem dX11_lawful_34 : decode cX11_lawful 34 = .ok (.invokestatic 251, 3) := by decide +kernel
theorem dX11_lawful_37 : decode cX11_lawful 37 = .ok (.ireturn, 1) := by decide +kernel
theorem dX11_result_0 : decode cX11_result 0 = .ok (.aload_n 0, 1) := by decide +kernel
theorem dX11_result_1 : decode cX11_result 1 = .ok (.iload_n 1, 1) := by decide +kernel
theorem dX11_result_2 : decode cX11_result 2 = .ok (.invokevirtual 149, 3) := by decide +kernel
theorem dX11_result_5 : decode cX11_result 5 = .ok (.ifCond .eq 12, 3) := by decide +kernel
theorem dX11_result_8 : decode cX11_result 8 = .ok (.iload_n 2, 1) := by decide +kernel
theorem dX11_result_9 : decode cX11_result 9 = .ok (.ifCond .lt 8, 3) := by decide +kernel
theorem dX11_result_12 : decode cX11_result 12 = .ok (.iload_n 2, 1) := by decide +kernel
theorem dX11_result_13 : decode cX11_result 13 = .ok (.iconst 2, 1) := by decide +kernel
theorem dX11_result_14 : decode cX11_result 14 = .ok (.if_icmp .le 5, 3) := by decide +kernel
theorem dX11_result_17 : decode cX11_result 17 = .ok (.iconst (-1), 1) := by decide +kernel
theorem dX11_result_18 : decode cX11_result 18 = .ok (.ireturn, 1) := by decide +kernel
theorem dX11_result_19 : decode cX11_result 19 = .ok (.aload_n 0, 1) := by decide +kernel
theorem dX11_result_20 : decode cX11_result 20 = .ok (.getfield 26, 3) := by decide +kernel
theorem dX11_result_23 : decode cX11_result 23 = .ok (.getfield 90, 3) := by decide +kernel
theorem dX11_result_26 : decode cX11_result 26 = .ok (.getfield 255, 3) := by decide +kernel
theorem dX11_result_29 : decode cX11_result 29 = .ok (.iload_n 1, 1) := by decide +kernel
theorem dX11_result_30 : decode cX11_result 30 = .ok (.iaload, 1) := by decide +kernel
theorem dX11_result_31 : decode cX11_result 31 = .ok (.istore_n 3, 1) := by decide +kernel
theorem dX11_result_32 : decode cX11_result 32 = .ok (.iload_n 3, 1) := by decide +kernel
theorem dX11_result_33 : decode cX11_result 33 = .ok (.iload_n 2, 1) := by decide +kernel
theorem dX11_result_34 : decode cX11_result 34 = .ok (.if_icmp .ne 6, 3) := by decide +kernel
theorem dX11_result_37 : decode cX11_result 37 = .ok (.bipush (-2), 2) := by decide +kernel
theorem dX11_result_39 : decode cX11_result 39 = .ok (.ireturn, 1) := by decide +kernel
theorem dX11_result_40 : decode cX11_result 40 = .ok (.aload_n 0, 1) := by decide +kernel
theorem dX11_result_41 : decode cX11_result 41 = .ok (.invokevirtual 143, 3) := by decide +kernel
theorem dX11_result_44 : decode cX11_result 44 = .ok (.aload_n 0, 1) := by decide +kernel
theorem dX11_result_45 : decode cX11_result 45 = .ok (.getfield 26, 3) := by decide +kernel
theorem dX11_result_48 : decode cX11_result 48 = .ok (.getfield 90, 3) := by decide +kernel
theorem dX11_result_51 : decode cX11_result 51 = .ok (.getfield 255, 3) := by decide +kernel
theorem dX11_result_54 : decode cX11_result 54 = .ok (.iload_n 1, 1) := by decide +kernel
theorem dX11_result_55 : decode cX11_result 55 = .ok (.iload_n 2, 1) := by decide +kernel
theorem dX11_result_56 : decode cX11_result 56 = .ok (.iastore, 1) := by decide +kernel
theorem dX11_result_57 : decode cX11_result 57 = .ok (.iload_n 3, 1) := by decide +kernel
theorem dX11_result_58 : decode cX11_result 58 = .ok (.ireturn, 1) := by decide +kernel
theorem dX11_guilty_0 : decode cX11_guilty 0 = .ok (.aload_n 0, 1) := by decide +kernel
theorem dX11_guilty_1 : decode cX11_guilty 1 = .ok (.invokevirtual 165, 3) := by decide +kernel
theorem dX11_guilty_4 : decode cX11_guilty 4 = .ok (.ifCond .eq 27, 3) := by decide +kernel
theorem dX11_guilty_7 : decode cX11_guilty 7 = .ok (.iload_n 1, 1) := by decide +kernel
theorem dX11_guilty_8 : decode cX11_guilty 8 = .ok (.iconst 1, 1) := by decide +kernel
theorem dX11_guilty_9 : decode cX11_guilty 9 = .ok (.if_icmp .lt 22, 3) := by decide +kernel
theorem dX11_guilty_12 : decode cX11_guilty 12 = .ok (.iload_n 1, 1) := by decide +kernel
theorem dX11_guilty_13 : decode cX11_guilty 13 = .ok (.aload_n 0, 1) := by decide +kernel
theorem dX11_guilty_14 : decode cX11_guilty 14 = .ok (.getfield 26, 3) := by decide +kernel
theorem dX11_guilty_17 : decode cX11_guilty 17 = .ok (.getfield 77, 3) := by decide +kernel
theorem dX11_guilty_20 : decode cX11_guilty 20 = .ok (.getfield 192, 3) := by decide +kernel
theorem dX11_guilty_23 : decode cX11_guilty 23 = .ok (.if_icmp .gt 8, 3) := by decide +kernel
theorem dX11_guilty_26 : decode cX11_guilty 26 = .ok (.iload_n 2, 1) := by decide +kernel
theorem dX11_guilty_27 : decode cX11_guilty 27 = .ok (.iconst (-1), 1) := by decide +kernel
theorem dX11_guilty_28 : decode cX11_guilty 28 = .ok (.if_icmp .ge 5, 3) := by decide +kernel
theorem dX11_guilty_31 : decode cX11_guilty 31 = .ok (.iconst (-1), 1) := by decide +kernel
theorem dX11_guilty_32 : decode cX11_guilty 32 = .ok (.ireturn, 1) := by decide +kernel
theorem dX11_guilty_33 : decode cX11_guilty 33 = .ok (.aload_n 0, 1) := by decide +kernel
theorem dX11_guilty_34 : decode cX11_guilty 34 = .ok (.getfield 54, 3) := by decide +kernel
theorem dX11_guilty_37 : decode cX11_guilty 37 = .ok (.aload_n 0, 1) := by decide +kernel
theorem dX11_guilty_38 : decode cX11_guilty 38 = .ok (.getfield 26, 3) := by decide +kernel
theorem dX11_guilty_41 : decode cX11_guilty 41 = .ok (.getfield 77, 3) := by decide +kernel
theorem dX11_guilty_44 : decode cX11_guilty 44 = .ok (.aload_n 0, 1) := by decide +kernel
theorem dX11_guilty_45 : decode cX11_guilty 45 = .ok (.getfield 26, 3) := by decide +kernel
theorem dX11_guilty_48 : decode cX11_guilty 48 = .ok (.getfield 90, 3) := by decide +kernel
theorem dX11_guilty_51 : decode cX11_guilty 51 = .ok (.iload_n 1, 1) := by decide +kernel
theorem dX11_guilty_52 : decode cX11_guilty 52 = .ok (.invokevirtual 258, 3) := by decide +kernel
theorem dX11_guilty_55 : decode cX11_guilty 55 = .ok (.iload_n 2, 1) := by decide +kernel
theorem dX11_guilty_56 : decode cX11_guilty 56 = .ok (.iconst (-1), 1) := by decide +kernel
theorem dX11_guilty_57 : decode cX11_guilty 57 = .ok (.if_icmp .ne 11, 3) := by decide +kernel
theorem dX11_guilty_60 : decode cX11_guilty 60 = .ok (.aload_n 0, 1) := by decide +kernel
theorem dX11_guilty_61 : decode cX11_guilty 61 = .ok (.getfield 54, 3) := by decide +kernel
theorem dX11_guilty_64 : decode cX11_guilty 64 = .ok (.getfield 262, 3) := by decide +kernel
theorem dX11_guilty_67 : decode cX11_guilty 67 = .ok (.ireturn, 1) := by decide +kernel
theorem dX11_guilty_68 : decode cX11_guilty 68 = .ok (.iload_n 2, 1) := by decide +kernel
theorem dX11_guilty_69 : decode cX11_guilty 69 = .ok (.aload_n 0, 1) := by decide +kernel
theorem dX11_guilty_70 : decode cX11_guilty 70 = .ok (.getfield 54, 3) := by decide +kernel
theorem dX11_guilty_73 : decode cX11_guilty 73 = .ok (.getfield 262, 3) := by decide +kernel
theorem dX11_guilty_76 : decode cX11_guilty 76 = .ok (.if_icmp .ge 15, 3) := by decide +kernel
theorem dX11_guilty_79 : decode cX11_guilty 79 = .ok (.aload_n 0, 1) := by decide +kernel
theorem dX11_guilty_80 : decode cX11_guilty 80 = .ok (.getfield 54, 3) := by decide +kernel
theorem dX11_guilty_83 : decode cX11_guilty 83 = .ok (.getfield 263, 3) := by decide +kernel
theorem dX11_guilty_86 : decode cX11_guilty 86 = .ok (.iload_n 2, 1) := by decide +kernel
theorem dX11_guilty_87 : decode cX11_guilty 87 = .ok (.iaload, 1) := by decide +kernel
theorem dX11_guilty_88 : decode cX11_guilty 88 = .ok (.goto 5, 3) := by decide +kernel
theorem dX11_guilty_91 : decode cX11_guilty 91 = .ok (.bipush (-2), 2) := by decide +kernel
theorem dX11_guilty_93 : decode cX11_guilty 93 = .ok (.ireturn, 1) := by decide +kernel
theorem dX11_ask_0 : decode cX11_ask 0 = .ok (.aload_n 0, 1) := by decide +kernel
theorem dX11_ask_1 : decode cX11_ask 1 = .ok (.invokevirtual 165, 3) := by decide +kernel
theorem dX11_ask_4 : decode cX11_ask 4 = .ok (.ifCond .eq 12, 3) := by decide +kernel
theorem dX11_ask_7 : decode cX11_ask 7 = .ok (.iload_n 1, 1) := by decide +kernel
theorem dX11_ask_8 : decode cX11_ask 8 = .ok (.ifCond .lt 8, 3) := by decide +kernel
theorem dX11_ask_11 : decode cX11_ask 11 = .ok (.iload_n 1, 1) := by decide +kernel
theorem dX11_ask_12 : decode cX11_ask 12 = .ok (.iconst 1, 1) := by decide +kernel
theorem dX11_ask_13 : decode cX11_ask 13 = .ok (.if_icmp .le 5, 3) := by decide +kernel
theorem dX11_ask_16 : decode cX11_ask 16 = .ok (.iconst (-1), 1) := by decide +kernel
theorem dX11_ask_17 : decode cX11_ask 17 = .ok (.ireturn, 1) := by decide +kernel
theorem dX11_ask_18 : decode cX11_ask 18 = .ok (.aload_n 0, 1) := by decide +kernel
theorem dX11_ask_19 : decode cX11_ask 19 = .ok (.getfield 54, 3) := by decide +kernel
theorem dX11_ask_22 : decode cX11_ask 22 = .ok (.aload_n 0, 1) := by decide +kernel
theorem dX11_ask_23 : decode cX11_ask 23 = .ok (.getfield 26, 3) := by decide +kernel
theorem dX11_ask_26 : decode cX11_ask 26 = .ok (.getfield 77, 3) := by decide +kernel
theorem dX11_ask_29 : decode cX11_ask 29 = .ok (.aload_n 0, 1) := by decide +kernel
theorem dX11_ask_30 : decode cX11_ask 30 = .ok (.getfield 26, 3) := by decide +kernel
theorem dX11_ask_33 : decode cX11_ask 33 = .ok (.getfield 90, 3) := by decide +kernel
theorem dX11_ask_36 : decode cX11_ask 36 = .ok (.aload_n 0, 1) := by decide +kernel
theorem dX11_ask_37 : decode cX11_ask 37 = .ok (.getfield 26, 3) := by decide +kernel
theorem dX11_ask_40 : decode cX11_ask 40 = .ok (.getfield 77, 3) := by decide +kernel
theorem dX11_ask_43 : decode cX11_ask 43 = .ok (.getfield 192, 3) := by decide +kernel
theorem dX11_ask_46 : decode cX11_ask 46 = .ok (.invokevirtual 258, 3) := by decide +kernel
theorem dX11_ask_49 : decode cX11_ask 49 = .ok (.aload_n 0, 1) := by decide +kernel
theorem dX11_ask_50 : decode cX11_ask 50 = .ok (.getfield 54, 3) := by decide +kernel
theorem dX11_ask_53 : decode cX11_ask 53 = .ok (.aload_n 0, 1) := by decide +kernel
theorem dX11_ask_54 : decode cX11_ask 54 = .ok (.getfield 26, 3) := by decide +kernel
theorem dX11_ask_57 : decode cX11_ask 57 = .ok (.getfield 90, 3) := by decide +kernel
theorem dX11_ask_60 : decode cX11_ask 60 = .ok (.invokevirtual 266, 3) := by decide +kernel
theorem dX11_ask_63 : decode cX11_ask 63 = .ok (.istore_n 2, 1) := by decide +kernel
theorem dX11_ask_64 : decode cX11_ask 64 = .ok (.iload_n 2, 1) := by decide +kernel
theorem dX11_ask_65 : decode cX11_ask 65 = .ok (.iconst (-1), 1) := by decide +kernel
theorem dX11_ask_66 : decode cX11_ask 66 = .ok (.if_icmp .ne 6, 3) := by decide +kernel
theorem dX11_ask_69 : decode cX11_ask 69 = .ok (.bipush (-2), 2) := by decide +kernel
theorem dX11_ask_71 : decode cX11_ask 71 = .ok (.ireturn, 1) := by decide +kernel
theorem dX11_ask_72 : decode cX11_ask 72 = .ok (.iload_n 1, 1) := by decide +kernel
theorem dX11_ask_73 : decode cX11_ask 73 = .ok (.ifCond .ne 7, 3) := by decide +kernel
theorem dX11_ask_76 : decode cX11_ask 76 = .ok (.iload_n 2, 1) := by decide +kernel
theorem dX11_ask_77 : decode cX11_ask 77 = .ok (.goto 22, 3) := by decide +kernel
theorem dX11_ask_80 : decode cX11_ask 80 = .ok (.aload_n 0, 1) := by decide +kernel
theorem dX11_ask_81 : decode cX11_ask 81 = .ok (.getfield 54, 3) := by decide +kernel
theorem dX11_ask_84 : decode cX11_ask 84 = .ok (.aload_n 0, 1) := by decide +kernel
theorem dX11_ask_85 : decode cX11_ask 85 = .ok (.getfield 26, 3) := by decide +kernel
theorem dX11_ask_88 : decode cX11_ask 88 = .ok (.getfield 90, 3) := by decide +kernel
theorem dX11_ask_91 : decode cX11_ask 91 = .ok (.getfield 152, 3) := by decide +kernel
theorem dX11_ask_94 : decode cX11_ask 94 = .ok (.iload_n 2, 1) := by decide +kernel
theorem dX11_ask_95 : decode cX11_ask 95 = .ok (.iaload, 1) := by decide +kernel
theorem dX11_ask_96 : decode cX11_ask 96 = .ok (.invokevirtual 270, 3) := by decide +kernel
theorem dX11_ask_99 : decode cX11_ask 99 = .ok (.ireturn, 1) := by decide +kernel
theorem dX11_undo_0 : decode cX11_undo 0 = .ok (.aload_n 0, 1) := by decide +kernel
theorem dX11_undo_1 : decode cX11_undo 1 = .ok (.getfield 97, 3) := by decide +kernel
theorem dX11_undo_4 : decode cX11_undo 4 = .ok (.ifCond .ne 5, 3) := by decide +kernel
theorem dX11_undo_7 : decode cX11_undo 7 = .ok (.iconst (-1), 1) := by decide +kernel
theorem dX11_undo_8 : decode cX11_undo 8 = .ok (.ireturn, 1) := by decide +kernel
theorem dX11_undo_9 : decode cX11_undo 9 = .ok (.aload_n 0, 1) := by decide +kernel
theorem dX11_undo_10 : decode cX11_undo 10 = .ok (.aload_n 0, 1) := by decide +kernel
theorem dX11_undo_11 : decode cX11_undo 11 = .ok (.getfield 273, 3) := by decide +kernel
theorem dX11_undo_14 : decode cX11_undo 14 = .ok (.bipush 8, 2) := by decide +kernel
theorem dX11_undo_16 : decode cX11_undo 16 = .ok (.iadd, 1) := by decide +kernel
theorem dX11_undo_17 : decode cX11_undo 17 = .ok (.iconst 1, 1) := by decide +kernel
theorem dX11_undo_18 : decode cX11_undo 18 = .ok (.isub, 1) := by decide +kernel
theorem dX11_undo_19 : decode cX11_undo 19 = .ok (.bipush 8, 2) := by decide +kernel
theorem dX11_undo_21 : decode cX11_undo 21 = .ok (.irem, 1) := by decide +kernel
theorem dX11_undo_22 : decode cX11_undo 22 = .ok (.putfield 273, 3) := by decide +kernel
theorem dX11_undo_25 : decode cX11_undo 25 = .ok (.aload_n 0, 1) := by decide +kernel
theorem dX11_undo_26 : decode cX11_undo 26 = .ok (.dup, 1) := by decide +kernel
theorem dX11_undo_27 : decode cX11_undo 27 = .ok (.getfield 97, 3) := by decide +kernel
theorem dX11_undo_30 : decode cX11_undo 30 = .ok (.iconst 1, 1) := by decide +kernel
theorem dX11_undo_31 : decode cX11_undo 31 = .ok (.isub, 1) := by decide +kernel
theorem dX11_undo_32 : decode cX11_undo 32 = .ok (.putfield 97, 3) := by decide +kernel
theorem dX11_undo_35 : decode cX11_undo 35 = .ok (.aload_n 0, 1) := by decide +kernel
theorem dX11_undo_36 : decode cX11_undo 36 = .ok (.aload_n 0, 1) := by decide +kernel
theorem dX11_undo_37 : decode cX11_undo 37 = .ok (.getfield 58, 3) := by decide +kernel
theorem dX11_undo_40 : decode cX11_undo 40 = .ok (.aload_n 0, 1) := by decide +kernel
theorem dX11_undo_41 : decode cX11_undo 41 = .ok (.getfield 273, 3) := by decide +kernel
theorem dX11_undo_44 : decode cX11_undo 44 = .ok (.aaload, 1) := by decide +kernel
theorem dX11_undo_45 : decode cX11_undo 45 = .ok (.invokevirtual 276, 3) := by decide +kernel
theorem dX11_undo_48 : decode cX11_undo 48 = .ok (.aload_n 0, 1) := by decide +kernel
theorem dX11_undo_49 : decode cX11_undo 49 = .ok (.getfield 97, 3) := by decide +kernel
theorem dX11_undo_52 : decode cX11_undo 52 = .ok (.ireturn, 1) := by decide +kernel
theorem dX11_keep_0 : decode cX11_keep 0 = .ok (.iload_n 1, 1) := by decide +kernel
theorem dX11_keep_1 : decode cX11_keep 1 = .ok (.ifCond .lt 15, 3) := by decide +kernel
theorem dX11_keep_4 : decode cX11_keep 4 = .ok (.iload_n 1, 1) := by decide +kernel
theorem dX11_keep_5 : decode cX11_keep 5 = .ok (.iconst 2, 1) := by decide +kernel
theorem dX11_keep_6 : decode cX11_keep 6 = .ok (.if_icmp .ge 10, 3) := by decide +kernel
theorem dX11_keep_9 : decode cX11_keep 9 = .ok (.aload_n 0, 1) := by decide +kernel
theorem dX11_keep_10 : decode cX11_keep 10 = .ok (.invokevirtual 165, 3) := by decide +kernel
theorem dX11_keep_13 : decode cX11_keep 13 = .ok (.ifCond .ne 5, 3) := by decide +kernel
theorem dX11_keep_16 : decode cX11_keep 16 = .ok (.iconst (-1), 1) := by decide +kernel
theorem dX11_keep_17 : decode cX11_keep 17 = .ok (.ireturn, 1) := by decide +kernel
theorem dX11_keep_18 : decode cX11_keep 18 = .ok (.aload_n 0, 1) := by decide +kernel
theorem dX11_keep_19 : decode cX11_keep 19 = .ok (.getfield 62, 3) := by decide +kernel
theorem dX11_keep_22 : decode cX11_keep 22 = .ok (.iload_n 1, 1) := by decide +kernel
theorem dX11_keep_23 : decode cX11_keep 23 = .ok (.aaload, 1) := by decide +kernel
theorem dX11_keep_24 : decode cX11_keep 24 = .ok (.aload_n 0, 1) := by decide +kernel
theorem dX11_keep_25 : decode cX11_keep 25 = .ok (.getfield 26, 3) := by decide +kernel
theorem dX11_keep_28 : decode cX11_keep 28 = .ok (.invokevirtual 280, 3) := by decide +kernel
theorem dX11_keep_31 : decode cX11_keep 31 = .ok (.aload_n 0, 1) := by decide +kernel
theorem dX11_keep_32 : decode cX11_keep 32 = .ok (.getfield 26, 3) := by decide +kernel
theorem dX11_keep_35 : decode cX11_keep 35 = .ok (.getfield 90, 3) := by decide +kernel
theorem dX11_keep_38 : decode cX11_keep 38 = .ok (.getfield 94, 3) := by decide +kernel
theorem dX11_keep_41 : decode cX11_keep 41 = .ok (.ireturn, 1) := by decide +kernel
theorem dX11_back_0 : decode cX11_back 0 = .ok (.iload_n 1, 1) := by decide +kernel
theorem dX11_back_1 : decode cX11_back 1 = .ok (.ifCond .lt 8, 3) := by decide +kernel
theorem dX11_back_4 : decode cX11_back 4 = .ok (.iload_n 1, 1) := by decide +kernel
theorem dX11_back_5 : decode cX11_back 5 = .ok (.iconst 2, 1) := by decide +kernel
theorem dX11_back_6 : decode cX11_back 6 = .ok (.if_icmp .lt 5, 3) := by decide +kernel
theorem dX11_back_9 : decode cX11_back 9 = .ok (.iconst (-1), 1) := by decide +kernel
theorem dX11_back_10 : decode cX11_back 10 = .ok (.ireturn, 1) := by decide +kernel
theorem dX11_back_11 : decode cX11_back 11 = .ok (.aload_n 0, 1) := by decide +kernel
theorem dX11_back_12 : decode cX11_back 12 = .ok (.getfield 62, 3) := by decide +kernel
theorem dX11_back_15 : decode cX11_back 15 = .ok (.iload_n 1, 1) := by decide +kernel
theorem dX11_back_16 : decode cX11_back 16 = .ok (.aaload, 1) := by decide +kernel
theorem dX11_back_17 : decode cX11_back 17 = .ok (.getfield 77, 3) := by decide +kernel
theorem dX11_back_20 : decode cX11_back 20 = .ok (.getfield 208, 3) := by decide +kernel
theorem dX11_back_23 : decode cX11_back 23 = .ok (.ifCond .ne 6, 3) := by decide +kernel
theorem dX11_back_26 : decode cX11_back 26 = .ok (.bipush (-2), 2) := by decide +kernel
theorem dX11_back_28 : decode cX11_back 28 = .ok (.ireturn, 1) := by decide +kernel
theorem dX11_back_29 : decode cX11_back 29 = .ok (.aload_n 0, 1) := by decide +kernel
theorem dX11_back_30 : decode cX11_back 30 = .ok (.aload_n 0, 1) := by decide +kernel
theorem dX11_back_31 : decode cX11_back 31 = .ok (.getfield 62, 3) := by decide +kernel
theorem dX11_back_34 : decode cX11_back 34 = .ok (.iload_n 1, 1) := by decide +kernel
theorem dX11_back_35 : decode cX11_back 35 = .ok (.aaload, 1) := by decide +kernel
theorem dX11_back_36 : decode cX11_back 36 = .ok (.invokevirtual 276, 3) := by decide +kernel
theorem dX11_back_39 : decode cX11_back 39 = .ok (.aload_n 0, 1) := by decide +kernel
theorem dX11_back_40 : decode cX11_back 40 = .ok (.iconst 0, 1) := by decide +kernel
theorem dX11_back_41 : decode cX11_back 41 = .ok (.putfield 97, 3) := by decide +kernel
theorem dX11_back_44 : decode cX11_back 44 = .ok (.aload_n 0, 1) := by decide +kernel
theorem dX11_back_45 : decode cX11_back 45 = .ok (.getfield 26, 3) := by decide +kernel
theorem dX11_back_48 : decode cX11_back 48 = .ok (.getfield 90, 3) := by decide +kernel
theorem dX11_back_51 : decode cX11_back 51 = .ok (.getfield 94, 3) := by decide +kernel
theorem dX11_back_54 : decode cX11_back 54 = .ok (.ireturn, 1) := by decide +kernel
theorem dX11_count_0 : decode cX11_count 0 = .ok (.iload_n 1, 1) := by decide +kernel
theorem dX11_count_1 : decode cX11_count 1 = .ok (.tableswitch 233 0 12 #[67, 78, 100, 105, 124, 135, 146, 167, 188, 200, 212, 217, 225], 67) := by decide +kernel
theorem dX11_count_68 : decode cX11_count 68 = .ok (.aload_n 0, 1) := by decide +kernel
theorem dX11_count_69 : decode cX11_count 69 = .ok (.getfield 26, 3) := by decide +kernel
theorem dX11_count_72 : decode cX11_count 72 = .ok (.getfield 77, 3) := by decide +kernel
theorem dX11_count_75 : decode cX11_count 75 = .ok (.getfield 208, 3) := by decide +kernel
theorem dX11_count_78 : decode cX11_count 78 = .ok (.ireturn, 1) := by decide +kernel
theorem dX11_count_79 : decode cX11_count 79 = .ok (.aload_n 0, 1) := by decide +kernel
theorem dX11_count_80 : decode cX11_count 80 = .ok (.invokevirtual 165, 3) := by decide +kernel
theorem dX11_count_83 : decode cX11_count 83 = .ok (.ifCond .eq 16, 3) := by decide +kernel
theorem dX11_count_86 : decode cX11_count 86 = .ok (.aload_n 0, 1) := by decide +kernel
theorem dX11_count_87 : decode cX11_count 87 = .ok (.getfield 26, 3) := by decide +kernel
theorem dX11_count_90 : decode cX11_count 90 = .ok (.getfield 77, 3) := by decide +kernel
theorem dX11_count_93 : decode cX11_count 93 = .ok (.getfield 192, 3) := by decide +kernel
theorem dX11_count_96 : decode cX11_count 96 = .ok (.goto 4, 3) := by decide +kernel
theorem dX11_count_99 : decode cX11_count 99 = .ok (.iconst 0, 1) := by decide +kernel
theorem dX11_count_100 : decode cX11_count 100 = .ok (.ireturn, 1) := by decide +kernel
theorem dX11_count_101 : decode cX11_count 101 = .ok (.aload_n 0, 1) := by decide +kernel
theorem dX11_count_102 : decode cX11_count 102 = .ok (.invokevirtual 114, 3) := by decide +kernel
theorem dX11_count_105 : decode cX11_count 105 = .ok (.ireturn, 1) := by decide +kernel
theorem dX11_count_106 : decode cX11_count 106 = .ok (.aload_n 0, 1) := by decide +kernel
theorem dX11_count_107 : decode cX11_count 107 = .ok (.invokevirtual 165, 3) := by decide +kernel
theorem dX11_count_110 : decode cX11_count 110 = .ok (.ifCond .eq 13, 3) := by decide +kernel
theorem dX11_count_113 : decode cX11_count 113 = .ok (.aload_n 0, 1) := by decide +kernel
theorem dX11_count_114 : decode cX11_count 114 = .ok (.getfield 33, 3) := by decide +kernel
theorem dX11_count_117 : decode cX11_count 117 = .ok (.getfield 282, 3) := by decide +kernel
theorem dX11_count_120 : decode cX11_count 120 = .ok (.goto 4, 3) := by decide +kernel
theorem dX11_count_123 : decode cX11_count 123 = .ok (.iconst 0, 1) := by decide +kernel
theorem dX11_count_124 : decode cX11_count 124 = .ok (.ireturn, 1) := by decide +kernel
theorem dX11_count_125 : decode cX11_count 125 = .ok (.aload_n 0, 1) := by decide +kernel
theorem dX11_count_126 : decode cX11_count 126 = .ok (.getfield 26, 3) := by decide +kernel
theorem dX11_count_129 : decode cX11_count 129 = .ok (.getfield 77, 3) := by decide +kernel
theorem dX11_count_132 : decode cX11_count 132 = .ok (.getfield 285, 3) := by decide +kernel
theorem dX11_count_135 : decode cX11_count 135 = .ok (.ireturn, 1) := by decide +kernel
theorem dX11_count_136 : decode cX11_count 136 = .ok (.aload_n 0, 1) := by decide +kernel
theorem dX11_count_137 : decode cX11_count 137 = .ok (.getfield 26, 3) := by decide +kernel
theorem dX11_count_140 : decode cX11_count 140 = .ok (.getfield 90, 3) := by decide +kernel
theorem dX11_count_143 : decode cX11_count 143 = .ok (.getfield 94, 3) := by decide +kernel
theorem dX11_count_146 : decode cX11_count 146 = .ok (.ireturn, 1) := by decide +kernel
theorem dX11_count_147 : decode cX11_count 147 = .ok (.aload_n 0, 1) := by decide +kernel
theorem dX11_count_148 : decode cX11_count 148 = .ok (.getfield 26, 3) := by decide +kernel
theorem dX11_count_151 : decode cX11_count 151 = .ok (.getfield 90, 3) := by decide +kernel
theorem dX11_count_154 : decode cX11_count 154 = .ok (.aload_n 0, 1) := by decide +kernel
theorem dX11_count_155 : decode cX11_count 155 = .ok (.getfield 26, 3) := by decide +kernel
theorem dX11_count_158 : decode cX11_count 158 = .ok (.getfield 77, 3) := by decide +kernel
theorem dX11_count_161 : decode cX11_count 161 = .ok (.getfield 208, 3) := by decide +kernel
theorem dX11_count_164 : decode cX11_count 164 = .ok (.invokevirtual 288, 3) := by decide +kernel
theorem dX11_count_167 : decode cX11_count 167 = .ok (.ireturn, 1) := by decide +kernel
theorem dX11_count_168 : decode cX11_count 168 = .ok (.aload_n 0, 1) := by decide +kernel
theorem dX11_count_169 : decode cX11_count 169 = .ok (.getfield 26, 3) := by decide +kernel
theorem dX11_count_172 : decode cX11_count 172 = .ok (.getfield 90, 3) := by decide +kernel
theorem dX11_count_175 : decode cX11_count 175 = .ok (.aload_n 0, 1) := by decide +kernel
theorem dX11_count_176 : decode cX11_count 176 = .ok (.getfield 26, 3) := by decide +kernel
theorem dX11_count_179 : decode cX11_count 179 = .ok (.getfield 77, 3) := by decide +kernel
theorem dX11_count_182 : decode cX11_count 182 = .ok (.getfield 208, 3) := by decide +kernel
theorem dX11_count_185 : decode cX11_count 185 = .ok (.invokevirtual 291, 3) := by decide +kernel
theorem dX11_count_188 : decode cX11_count 188 = .ok (.ireturn, 1) := by decide +kernel
theorem dX11_count_189 : decode cX11_count 189 = .ok (.aload_n 0, 1) := by decide +kernel
theorem dX11_count_190 : decode cX11_count 190 = .ok (.getfield 26, 3) := by decide +kernel
theorem dX11_count_193 : decode cX11_count 193 = .ok (.getfield 90, 3) := by decide +kernel
theorem dX11_count_196 : decode cX11_count 196 = .ok (.iconst 1, 1) := by decide +kernel
theorem dX11_count_197 : decode cX11_count 197 = .ok (.invokevirtual 294, 3) := by decide +kernel
theorem dX11_count_200 : decode cX11_count 200 = .ok (.ireturn, 1) := by decide +kernel
theorem dX11_count_201 : decode cX11_count 201 = .ok (.aload_n 0, 1) := by decide +kernel
theorem dX11_count_202 : decode cX11_count 202 = .ok (.getfield 26, 3) := by decide +kernel
theorem dX11_count_205 : decode cX11_count 205 = .ok (.getfield 90, 3) := by decide +kernel
theorem dX11_count_208 : decode cX11_count 208 = .ok (.iconst 2, 1) := by decide +kernel
theorem dX11_count_209 : decode cX11_count 209 = .ok (.invokevirtual 294, 3) := by decide +kernel
theorem dX11_count_212 : decode cX11_count 212 = .ok (.ireturn, 1) := by decide +kernel
theorem dX11_count_213 : decode cX11_count 213 = .ok (.aload_n 0, 1) := by decide +kernel
theorem dX11_count_214 : decode cX11_count 214 = .ok (.getfield 97, 3) := by decide +kernel
theorem dX11_count_217 : decode cX11_count 217 = .ok (.ireturn, 1) := by decide +kernel
theorem dX11_count_218 : decode cX11_count 218 = .ok (.aload_n 0, 1) := by decide +kernel
theorem dX11_count_219 : decode cX11_count 219 = .ok (.getfield 26, 3) := by decide +kernel
theorem dX11_count_222 : decode cX11_count 222 = .ok (.getfield 242, 3) := by decide +kernel
theorem dX11_count_225 : decode cX11_count 225 = .ok (.ireturn, 1) := by decide +kernel
theorem dX11_count_226 : decode cX11_count 226 = .ok (.aload_n 0, 1) := by decide +kernel
theorem dX11_count_227 : decode cX11_count 227 = .ok (.getfield 10, 3) := by decide +kernel
theorem dX11_count_230 : decode cX11_count 230 = .ok (.getfield 65, 3) := by decide +kernel
theorem dX11_count_233 : decode cX11_count 233 = .ok (.ireturn, 1) := by decide +kernel
theorem dX11_count_234 : decode cX11_count 234 = .ok (.iconst (-1), 1) := by decide +kernel
theorem dX11_count_235 : decode cX11_count 235 = .ok (.ireturn, 1) := by decide +kernel
theorem dX11_hasPlan_0 : decode cX11_hasPlan 0 = .ok (.aload_n 0, 1) := by decide +kernel
theorem dX11_hasPlan_1 : decode cX11_hasPlan 1 = .ok (.getfield 26, 3) := by decide +kernel
theorem dX11_hasPlan_4 : decode cX11_hasPlan 4 = .ok (.getfield 77, 3) := by decide +kernel
theorem dX11_hasPlan_7 : decode cX11_hasPlan 7 = .ok (.getfield 208, 3) := by decide +kernel
theorem dX11_hasPlan_10 : decode cX11_hasPlan 10 = .ok (.ifCond .le 7, 3) := by decide +kernel
theorem dX11_hasPlan_13 : decode cX11_hasPlan 13 = .ok (.iconst 1, 1) := by decide +kernel
theorem dX11_hasPlan_14 : decode cX11_hasPlan 14 = .ok (.goto 4, 3) := by decide +kernel
theorem dX11_hasPlan_17 : decode cX11_hasPlan 17 = .ok (.iconst 0, 1) := by decide +kernel
theorem dX11_hasPlan_18 : decode cX11_hasPlan 18 = .ok (.ireturn, 1) := by decide +kernel
theorem dX11_isRow_0 : decode cX11_isRow 0 = .ok (.iload_n 1, 1) := by decide +kernel
theorem dX11_isRow_1 : decode cX11_isRow 1 = .ok (.ifCond .lt 21, 3) := by decide +kernel
theorem dX11_isRow_4 : decode cX11_isRow 4 = .ok (.iload_n 1, 1) := by decide +kernel
theorem dX11_isRow_5 : decode cX11_isRow 5 = .ok (.aload_n 0, 1) := by decide +kernel
theorem dX11_isRow_6 : decode cX11_isRow 6 = .ok (.getfield 26, 3) := by decide +kernel
theorem dX11_isRow_9 : decode cX11_isRow 9 = .ok (.getfield 90, 3) := by decide +kernel
theorem dX11_isRow_12 : decode cX11_isRow 12 = .ok (.getfield 94, 3) := by decide +kernel
theorem dX11_isRow_15 : decode cX11_isRow 15 = .ok (.if_icmp .ge 7, 3) := by decide +kernel
theorem dX11_isRow_18 : decode cX11_isRow 18 = .ok (.iconst 1, 1) := by decide +kernel
theorem dX11_isRow_19 : decode cX11_isRow 19 = .ok (.goto 4, 3) := by decide +kernel
theorem dX11_isRow_22 : decode cX11_isRow 22 = .ok (.iconst 0, 1) := by decide +kernel
theorem dX11_isRow_23 : decode cX11_isRow 23 = .ok (.ireturn, 1) := by decide +kernel
theorem dX11_isColumn_0 : decode cX11_isColumn 0 = .ok (.iload_n 1, 1) := by decide +kernel
theorem dX11_isColumn_1 : decode cX11_isColumn 1 = .ok (.ifCond .lt 21, 3) := by decide +kernel
theorem dX11_isColumn_4 : decode cX11_isColumn 4 = .ok (.iload_n 1, 1) := by decide +kernel
theorem dX11_isColumn_5 : decode cX11_isColumn 5 = .ok (.aload_n 0, 1) := by decide +kernel
theorem dX11_isColumn_6 : decode cX11_isColumn 6 = .ok (.getfield 26, 3) := by decide +kernel
theorem dX11_isColumn_9 : decode cX11_isColumn 9 = .ok (.getfield 77, 3) := by decide +kernel
theorem dX11_isColumn_12 : decode cX11_isColumn 12 = .ok (.getfield 208, 3) := by decide +kernel
theorem dX11_isColumn_15 : decode cX11_isColumn 15 = .ok (.if_icmp .ge 7, 3) := by decide +kernel
theorem dX11_isColumn_18 : decode cX11_isColumn 18 = .ok (.iconst 1, 1) := by decide +kernel
theorem dX11_isColumn_19 : decode cX11_isColumn 19 = .ok (.goto 4, 3) := by decide +kernel
theorem dX11_isColumn_22 : decode cX11_isColumn 22 = .ok (.iconst 0, 1) := by decide +kernel
theorem dX11_isColumn_23 : decode cX11_isColumn 23 = .ok (.ireturn, 1) := by decide +kernel
theorem dX11_mixCount_0 : decode cX11_mixCount 0 = .ok (.aload_n 0, 1) := by decide +kernel
theorem dX11_mixCount_1 : decode cX11_mixCount 1 = .ok (.invokevirtual 165, 3) := by decide +kernel
theorem dX11_mixCount_4 : decode cX11_mixCount 4 = .ok (.ifCond .eq 13, 3) := by decide +kernel
theorem dX11_mixCount_7 : decode cX11_mixCount 7 = .ok (.aload_n 0, 1) := by decide +kernel
theorem dX11_mixCount_8 : decode cX11_mixCount 8 = .ok (.getfield 33, 3) := by decide +kernel
theorem dX11_mixCount_11 : decode cX11_mixCount 11 = .ok (.invokevirtual 103, 3) := by decide +kernel
theorem dX11_mixCount_14 : decode cX11_mixCount 14 = .ok (.goto 4, 3) := by decide +kernel
theorem dX11_mixCount_17 : decode cX11_mixCount 17 = .ok (.iconst 0, 1) := by decide +kernel
theorem dX11_mixCount_18 : decode cX11_mixCount 18 = .ok (.ireturn, 1) := by decide +kernel
theorem dX11_rowBy_0 : decode cX11_rowBy 0 = .ok (.aload_n 0, 1) := by decide +kernel
theorem dX11_rowBy_1 : decode cX11_rowBy 1 = .ok (.invokevirtual 165, 3) := by decide +kernel
theorem dX11_rowBy_4 : decode cX11_rowBy 4 = .ok (.ifCond .eq 17, 3) := by decide +kernel
theorem dX11_rowBy_7 : decode cX11_rowBy 7 = .ok (.aload_n 0, 1) := by decide +kernel
theorem dX11_rowBy_8 : decode cX11_rowBy 8 = .ok (.getfield 26, 3) := by decide +kernel
theorem dX11_rowBy_11 : decode cX11_rowBy 11 = .ok (.getfield 77, 3) := by decide +kernel
theorem dX11_rowBy_14 : decode cX11_rowBy 14 = .ok (.iload_n 1, 1) := by decide +kernel
theorem dX11_rowBy_15 : decode cX11_rowBy 15 = .ok (.invokevirtual 297, 3) := by decide +kernel
theorem dX11_rowBy_18 : decode cX11_rowBy 18 = .ok (.goto 4, 3) := by decide +kernel
theorem dX11_rowBy_21 : decode cX11_rowBy 21 = .ok (.iconst (-1), 1) := by decide +kernel
theorem dX11_rowBy_22 : decode cX11_rowBy 22 = .ok (.ireturn, 1) := by decide +kernel
theorem dX11_append_0 : decode cX11_append 0 = .ok (.aload_n 0, 1) := by decide +kernel
theorem dX11_append_1 : decode cX11_append 1 = .ok (.getfield 26, 3) := by decide +kernel
theorem dX11_append_4 : decode cX11_append 4 = .ok (.getfield 90, 3) := by decide +kernel
theorem dX11_append_7 : decode cX11_append 7 = .ok (.iload_n 1, 1) := by decide +kernel
theorem dX11_append_8 : decode cX11_append 8 = .ok (.invokevirtual 203, 3) := by decide +kernel
theorem dX11_append_11 : decode cX11_append 11 = .ok (.aload_n 0, 1) := by decide +kernel
theorem dX11_append_12 : decode cX11_append 12 = .ok (.getfield 33, 3) := by decide +kernel
theorem dX11_append_15 : decode cX11_append 15 = .ok (.iconst 0, 1) := by decide +kernel
theorem dX11_append_16 : decode cX11_append 16 = .ok (.iload_n 1, 1) := by decide +kernel
theorem dX11_append_17 : decode cX11_append 17 = .ok (.invokevirtual 158, 3) := by decide +kernel
theorem dX11_append_20 : decode cX11_append 20 = .ok (.return_, 1) := by decide +kernel
theorem dX11_takeAway_0 : decode cX11_takeAway 0 = .ok (.aload_n 0, 1) := by decide +kernel
theorem dX11_takeAway_1 : decode cX11_takeAway 1 = .ok (.getfield 33, 3) := by decide +kernel
theorem dX11_takeAway_4 : decode cX11_takeAway 4 = .ok (.aload_n 0, 1) := by decide +kernel
theorem dX11_takeAway_5 : decode cX11_takeAway 5 = .ok (.getfield 26, 3) := by decide +kernel
theorem dX11_takeAway_8 : decode cX11_takeAway 8 = .ok (.getfield 90, 3) := by decide +kernel
theorem dX11_takeAway_11 : decode cX11_takeAway 11 = .ok (.getfield 152, 3) := by decide +kernel
theorem dX11_takeAway_14 : decode cX11_takeAway 14 = .ok (.iload_n 1, 1) := by decide +kernel
theorem dX11_takeAway_15 : decode cX11_takeAway 15 = .ok (.iaload, 1) := by decide +kernel
theorem dX11_takeAway_16 : decode cX11_takeAway 16 = .ok (.iconst 0, 1) := by decide +kernel
theorem dX11_takeAway_17 : decode cX11_takeAway 17 = .ok (.invokevirtual 158, 3) := by decide +kernel
theorem dX11_takeAway_20 : decode cX11_takeAway 20 = .ok (.aload_n 0, 1) := by decide +kernel
theorem dX11_takeAway_21 : decode cX11_takeAway 21 = .ok (.getfield 26, 3) := by decide +kernel
theorem dX11_takeAway_24 : decode cX11_takeAway 24 = .ok (.getfield 90, 3) := by decide +kernel
theorem dX11_takeAway_27 : decode cX11_takeAway 27 = .ok (.iload_n 1, 1) := by decide +kernel
theorem dX11_takeAway_28 : decode cX11_takeAway 28 = .ok (.invokevirtual 300, 3) := by decide +kernel
theorem dX11_takeAway_31 : decode cX11_takeAway 31 = .ok (.return_, 1) := by decide +kernel
theorem dX11_settleCell_0 : decode cX11_settleCell 0 = .ok (.aload_n 0, 1) := by decide +kernel
theorem dX11_settleCell_1 : decode cX11_settleCell 1 = .ok (.getfield 26, 3) := by decide +kernel
theorem dX11_settleCell_4 : decode cX11_settleCell 4 = .ok (.getfield 90, 3) := by decide +kernel
theorem dX11_settleCell_7 : decode cX11_settleCell 7 = .ok (.getfield 152, 3) := by decide +kernel
theorem dX11_settleCell_10 : decode cX11_settleCell 10 = .ok (.iload_n 1, 1) := by decide +kernel
theorem dX11_settleCell_11 : decode cX11_settleCell 11 = .ok (.iaload, 1) := by decide +kernel
theorem dX11_settleCell_12 : decode cX11_settleCell 12 = .ok (.istore_n 3, 1) := by decide +kernel
theorem dX11_settleCell_13 : decode cX11_settleCell 13 = .ok (.aload_n 0, 1) := by decide +kernel
theorem dX11_settleCell_14 : decode cX11_settleCell 14 = .ok (.getfield 26, 3) := by decide +kernel
theorem dX11_settleCell_17 : decode cX11_settleCell 17 = .ok (.getfield 77, 3) := by decide +kernel
theorem dX11_settleCell_20 : decode cX11_settleCell 20 = .ok (.iload_n 3, 1) := by decide +kernel
theorem dX11_settleCell_21 : decode cX11_settleCell 21 = .ok (.iload_n 2, 1) := by decide +kernel
theorem dX11_settleCell_22 : decode cX11_settleCell 22 = .ok (.invokevirtual 228, 3) := by decide +kernel
theorem dX11_settleCell_25 : decode cX11_settleCell 25 = .ok (.istore 4, 2) := by decide +kernel
theorem dX11_settleCell_27 : decode cX11_settleCell 27 = .ok (.iload_n 3, 1) := by decide +kernel
theorem dX11_settleCell_28 : decode cX11_settleCell 28 = .ok (.istore 5, 2) := by decide +kernel
theorem dX11_settleCell_30 : decode cX11_settleCell 30 = .ok (.iconst (-1), 1) := by decide +kernel
theorem dX11_settleCell_31 : decode cX11_settleCell 31 = .ok (.istore 6, 2) := by decide +kernel
theorem dX11_settleCell_33 : decode cX11_settleCell 33 = .ok (.iconst 0, 1) := by decide +kernel
theorem dX11_settleCell_34 : decode cX11_settleCell 34 = .ok (.istore 7, 2) := by decide +kernel
theorem dX11_settleCell_36 : decode cX11_settleCell 36 = .ok (.iload 7, 2) := by decide +kernel
theorem dX11_settleCell_38 : decode cX11_settleCell 38 = .ok (.iconst 4, 1) := by decide +kernel
theorem dX11_settleCell_39 : decode cX11_settleCell 39 = .ok (.if_icmp .ge 57, 3) := by decide +kernel
theorem dX11_settleCell_42 : decode cX11_settleCell 42 = .ok (.iload 4, 2) := by decide +kernel
theorem dX11_settleCell_44 : decode cX11_settleCell 44 = .ok (.iconst 1, 1) := by decide +kernel
theorem dX11_settleCell_45 : decode cX11_settleCell 45 = .ok (.iload 7, 2) := by decide +kernel
theorem dX11_settleCell_47 : decode cX11_settleCell 47 = .ok (.ishl, 1) := by decide +kernel
theorem dX11_settleCell_48 : decode cX11_settleCell 48 = .ok (.iand, 1) := by decide +kernel
theorem dX11_settleCell_49 : decode cX11_settleCell 49 = .ok (.ifCond .eq 41, 3) := by decide +kernel
theorem dX11_settleCell_52 : decode cX11_settleCell 52 = .ok (.iload_n 3, 1) := by decide +kernel
theorem dX11_settleCell_53 : decode cX11_settleCell 53 = .ok (.iconst 1, 1) := by decide +kernel
theorem dX11_settleCell_54 : decode cX11_settleCell 54 = .ok (.iconst 4, 1) := by decide +kernel
theorem dX11_settleCell_55 : decode cX11_settleCell 55 = .ok (.iload_n 2, 1) := by decide +kernel
theorem dX11_settleCell_56 : decode cX11_settleCell 56 = .ok (.imul, 1) := by decide +kernel
theorem dX11_settleCell_57 : decode cX11_settleCell 57 = .ok (.iload 7, 2) := by decide +kernel
theorem dX11_settleCell_59 : decode cX11_settleCell 59 = .ok (.iadd, 1) := by decide +kernel
theorem dX11_settleCell_60 : decode cX11_settleCell 60 = .ok (.ishl, 1) := by decide +kernel
theorem dX11_settleCell_61 : decode cX11_settleCell 61 = .ok (.ior, 1) := by decide +kernel
theorem dX11_settleCell_62 : decode cX11_settleCell 62 = .ok (.istore 8, 2) := by decide +kernel
theorem dX11_settleCell_64 : decode cX11_settleCell 64 = .ok (.aload_n 0, 1) := by decide +kernel
theorem dX11_settleCell_65 : decode cX11_settleCell 65 = .ok (.getfield 33, 3) := by decide +kernel
theorem dX11_settleCell_68 : decode cX11_settleCell 68 = .ok (.iload 8, 2) := by decide +kernel
theorem dX11_settleCell_70 : decode cX11_settleCell 70 = .ok (.invokevirtual 303, 3) := by decide +kernel
theorem dX11_settleCell_73 : decode cX11_settleCell 73 = .ok (.istore 9, 2) := by decide +kernel
theorem dX11_settleCell_75 : decode cX11_settleCell 75 = .ok (.iload 9, 2) := by decide +kernel
theorem dX11_settleCell_77 : decode cX11_settleCell 77 = .ok (.iload 6, 2) := by decide +kernel
theorem dX11_settleCell_79 : decode cX11_settleCell 79 = .ok (.if_icmp .le 11, 3) := by decide +kernel
theorem dX11_settleCell_82 : decode cX11_settleCell 82 = .ok (.iload 9, 2) := by decide +kernel
theorem dX11_settleCell_84 : decode cX11_settleCell 84 = .ok (.istore 6, 2) := by decide +kernel
theorem dX11_settleCell_86 : decode cX11_settleCell 86 = .ok (.iload 8, 2) := by decide +kernel
theorem dX11_settleCell_88 : decode cX11_settleCell 88 = .ok (.istore 5, 2) := by decide +kernel
theorem dX11_settleCell_90 : decode cX11_settleCell 90 = .ok (.iinc 7 1, 3) := by decide +kernel
theorem dX11_settleCell_93 : decode cX11_settleCell 93 = .ok (.goto (-57), 3) := by decide +kernel
theorem dX11_settleCell_96 : decode cX11_settleCell 96 = .ok (.aload_n 0, 1) := by decide +kernel
theorem dX11_settleCell_97 : decode cX11_settleCell 97 = .ok (.getfield 33, 3) := by decide +kernel
theorem dX11_settleCell_100 : decode cX11_settleCell 100 = .ok (.iload_n 3, 1) := by decide +kernel
theorem dX11_settleCell_101 : decode cX11_settleCell 101 = .ok (.iload 5, 2) := by decide +kernel
theorem dX11_settleCell_103 : decode cX11_settleCell 103 = .ok (.invokevirtual 158, 3) := by decide +kernel
theorem dX11_settleCell_106 : decode cX11_settleCell 106 = .ok (.aload_n 0, 1) := by decide +kernel
theorem dX11_settleCell_107 : decode cX11_settleCell 107 = .ok (.getfield 26, 3) := by decide +kernel
theorem dX11_settleCell_110 : decode cX11_settleCell 110 = .ok (.getfield 90, 3) := by decide +kernel
theorem dX11_settleCell_113 : decode cX11_settleCell 113 = .ok (.getfield 152, 3) := by decide +kernel
theorem dX11_settleCell_116 : decode cX11_settleCell 116 = .ok (.iload_n 1, 1) := by decide +kernel
theorem dX11_settleCell_117 : decode cX11_settleCell 117 = .ok (.iload 5, 2) := by decide +kernel
theorem dX11_settleCell_119 : decode cX11_settleCell 119 = .ok (.iastore, 1) := by decide +kernel
theorem dX11_settleCell_120 : decode cX11_settleCell 120 = .ok (.return_, 1) := by decide +kernel
theorem dX11_drawOf_0 : decode cX11_drawOf 0 = .ok (.aload_n 0, 1) := by decide +kernel
theorem dX11_drawOf_1 : decode cX11_drawOf 1 = .ok (.getfield 26, 3) := by decide +kernel
theorem dX11_drawOf_4 : decode cX11_drawOf 4 = .ok (.aload_n 0, 1) := by decide +kernel
theorem dX11_drawOf_5 : decode cX11_drawOf 5 = .ok (.getfield 26, 3) := by decide +kernel
theorem dX11_drawOf_8 : decode cX11_drawOf 8 = .ok (.getfield 242, 3) := by decide +kernel
theorem dX11_drawOf_11 : decode cX11_drawOf 11 = .ok (.ldc_w 306, 3) := by decide +kernel
theorem dX11_drawOf_14 : decode cX11_drawOf 14 = .ok (.imul, 1) := by decide +kernel
theorem dX11_drawOf_15 : decode cX11_drawOf 15 = .ok (.sipush 12345, 3) := by decide +kernel
theorem dX11_drawOf_18 : decode cX11_drawOf 18 = .ok (.iadd, 1) := by decide +kernel
theorem dX11_drawOf_19 : decode cX11_drawOf 19 = .ok (.ldc_w 307, 3) := by decide +kernel
theorem dX11_drawOf_22 : decode cX11_drawOf 22 = .ok (.iand, 1) := by decide +kernel
theorem dX11_drawOf_23 : decode cX11_drawOf 23 = .ok (.putfield 242, 3) := by decide +kernel
theorem dX11_drawOf_26 : decode cX11_drawOf 26 = .ok (.iload_n 1, 1) := by decide +kernel
theorem dX11_drawOf_27 : decode cX11_drawOf 27 = .ok (.ifCond .le 19, 3) := by decide +kernel
theorem dX11_drawOf_30 : decode cX11_drawOf 30 = .ok (.aload_n 0, 1) := by decide +kernel
theorem dX11_drawOf_31 : decode cX11_drawOf 31 = .ok (.getfield 26, 3) := by decide +kernel
theorem dX11_drawOf_34 : decode cX11_drawOf 34 = .ok (.getfield 242, 3) := by decide +kernel
theorem dX11_drawOf_37 : decode cX11_drawOf 37 = .ok (.ldc_w 308, 3) := by decide +kernel
theorem dX11_drawOf_40 : decode cX11_drawOf 40 = .ok (.idiv, 1) := by decide +kernel
theorem dX11_drawOf_41 : decode cX11_drawOf 41 = .ok (.iload_n 1, 1) := by decide +kernel
theorem dX11_drawOf_42 : decode cX11_drawOf 42 = .ok (.irem, 1) := by decide +kernel
theorem dX11_drawOf_43 : decode cX11_drawOf 43 = .ok (.goto 4, 3) := by decide +kernel
theorem dX11_drawOf_46 : decode cX11_drawOf 46 = .ok (.iconst 0, 1) := by decide +kernel
theorem dX11_drawOf_47 : decode cX11_drawOf 47 = .ok (.ireturn, 1) := by decide +kernel
theorem dX11_remember_0 : decode cX11_remember 0 = .ok (.aload_n 0, 1) := by decide +kernel
theorem dX11_remember_1 : decode cX11_remember 1 = .ok (.getfield 58, 3) := by decide +kernel
theorem dX11_remember_4 : decode cX11_remember 4 = .ok (.aload_n 0, 1) := by decide +kernel
theorem dX11_remember_5 : decode cX11_remember 5 = .ok (.getfield 273, 3) := by decide +kernel
theorem dX11_remember_8 : decode cX11_remember 8 = .ok (.aaload, 1) := by decide +kernel
theorem dX11_remember_9 : decode cX11_remember 9 = .ok (.aload_n 0, 1) := by decide +kernel
theorem dX11_remember_10 : decode cX11_remember 10 = .ok (.getfield 26, 3) := by decide +kernel
theorem dX11_remember_13 : decode cX11_remember 13 = .ok (.invokevirtual 280, 3) := by decide +kernel
theorem dX11_remember_16 : decode cX11_remember 16 = .ok (.aload_n 0, 1) := by decide +kernel
theorem dX11_remember_17 : decode cX11_remember 17 = .ok (.aload_n 0, 1) := by decide +kernel
theorem dX11_remember_18 : decode cX11_remember 18 = .ok (.getfield 273, 3) := by decide +kernel
theorem dX11_remember_21 : decode cX11_remember 21 = .ok (.iconst 1, 1) := by decide +kernel
theorem dX11_remember_22 : decode cX11_remember 22 = .ok (.iadd, 1) := by decide +kernel
theorem dX11_remember_23 : decode cX11_remember 23 = .ok (.bipush 8, 2) := by decide +kernel
theorem dX11_remember_25 : decode cX11_remember 25 = .ok (.irem, 1) := by decide +kernel
theorem dX11_remember_26 : decode cX11_remember 26 = .ok (.putfield 273, 3) := by decide +kernel
theorem dX11_remember_29 : decode cX11_remember 29 = .ok (.aload_n 0, 1) := by decide +kernel
theorem dX11_remember_30 : decode cX11_remember 30 = .ok (.aload_n 0, 1) := by decide +kernel
theorem dX11_remember_31 : decode cX11_remember 31 = .ok (.getfield 97, 3) := by decide +kernel
theorem dX11_remember_34 : decode cX11_remember 34 = .ok (.iconst 1, 1) := by decide +kernel
theorem dX11_remember_35 : decode cX11_remember 35 = .ok (.iadd, 1) := by decide +kernel
theorem dX11_remember_36 : decode cX11_remember 36 = .ok (.bipush 8, 2) := by decide +kernel
theorem dX11_remember_38 : decode cX11_remember 38 = .ok (.invokestatic 309, 3) := by decide +kernel
theorem dX11_remember_41 : decode cX11_remember 41 = .ok (.putfield 97, 3) := by decide +kernel
theorem dX11_remember_44 : decode cX11_remember 44 = .ok (.return_, 1) := by decide +kernel
theorem dX11_restore_0 : decode cX11_restore 0 = .ok (.aload_n 0, 1) := by decide +kernel
theorem dX11_restore_1 : decode cX11_restore 1 = .ok (.getfield 26, 3) := by decide +kernel
theorem dX11_restore_4 : decode cX11_restore 4 = .ok (.getfield 77, 3) := by decide +kernel
theorem dX11_restore_7 : decode cX11_restore 7 = .ok (.aload_n 1, 1) := by decide +kernel
theorem dX11_restore_8 : decode cX11_restore 8 = .ok (.getfield 77, 3) := by decide +kernel
theorem dX11_restore_11 : decode cX11_restore 11 = .ok (.invokevirtual 314, 3) := by decide +kernel
theorem dX11_restore_14 : decode cX11_restore 14 = .ok (.istore_n 2, 1) := by decide +kernel
theorem dX11_restore_15 : decode cX11_restore 15 = .ok (.aload_n 0, 1) := by decide +kernel
theorem dX11_restore_16 : decode cX11_restore 16 = .ok (.getfield 26, 3) := by decide +kernel
theorem dX11_restore_19 : decode cX11_restore 19 = .ok (.aload_n 1, 1) := by decide +kernel
theorem dX11_restore_20 : decode cX11_restore 20 = .ok (.invokevirtual 280, 3) := by decide +kernel
theorem dX11_restore_23 : decode cX11_restore 23 = .ok (.iload_n 2, 1) := by decide +kernel
theorem dX11_restore_24 : decode cX11_restore 24 = .ok (.ifCond .eq 20, 3) := by decide +kernel
theorem dX11_restore_27 : decode cX11_restore 27 = .ok (.aload_n 0, 1) := by decide +kernel
theorem dX11_restore_28 : decode cX11_restore 28 = .ok (.getfield 33, 3) := by decide +kernel
theorem dX11_restore_31 : decode cX11_restore 31 = .ok (.aload_n 0, 1) := by decide +kernel
theorem dX11_restore_32 : decode cX11_restore 32 = .ok (.getfield 26, 3) := by decide +kernel
theorem dX11_restore_35 : decode cX11_restore 35 = .ok (.getfield 90, 3) := by decide +kernel
theorem dX11_restore_38 : decode cX11_restore 38 = .ok (.invokevirtual 204, 3) := by decide +kernel
theorem dX11_restore_41 : decode cX11_restore 41 = .ok (.goto 7, 3) := by decide +kernel
theorem dX11_restore_44 : decode cX11_restore 44 = .ok (.aload_n 0, 1) := by decide +kernel
theorem dX11_restore_45 : decode cX11_restore 45 = .ok (.invokevirtual 100, 3) := by decide +kernel
theorem dX11_restore_48 : decode cX11_restore 48 = .ok (.return_, 1) := by decide +kernel
theorem dX11_rebuild_0 : decode cX11_rebuild 0 = .ok (.aload_n 0, 1) := by decide +kernel
theorem dX11_rebuild_1 : decode cX11_rebuild 1 = .ok (.getfield 33, 3) := by decide +kernel
theorem dX11_rebuild_4 : decode cX11_rebuild 4 = .ok (.aload_n 0, 1) := by decide +kernel
theorem dX11_rebuild_5 : decode cX11_rebuild 5 = .ok (.getfield 26, 3) := by decide +kernel
theorem dX11_rebuild_8 : decode cX11_rebuild 8 = .ok (.getfield 77, 3) := by decide +kernel
theorem dX11_rebuild_11 : decode cX11_rebuild 11 = .ok (.invokevirtual 318, 3) := by decide +kernel
theorem dX11_rebuild_14 : decode cX11_rebuild 14 = .ok (.aload_n 0, 1) := by decide +kernel
theorem dX11_rebuild_15 : decode cX11_rebuild 15 = .ok (.getfield 33, 3) := by decide +kernel
theorem dX11_rebuild_18 : decode cX11_rebuild 18 = .ok (.aload_n 0, 1) := by decide +kernel
theorem dX11_rebuild_19 : decode cX11_rebuild 19 = .ok (.getfield 26, 3) := by decide +kernel
theorem dX11_rebuild_22 : decode cX11_rebuild 22 = .ok (.getfield 90, 3) := by decide +kernel
theorem dX11_rebuild_25 : decode cX11_rebuild 25 = .ok (.invokevirtual 204, 3) := by decide +kernel
theorem dX11_rebuild_28 : decode cX11_rebuild 28 = .ok (.return_, 1) := by decide +kernel
theorem dX11_levelIn_0 : decode cX11_levelIn 0 = .ok (.iload_n 0, 1) := by decide +kernel
theorem dX11_levelIn_1 : decode cX11_levelIn 1 = .ok (.iconst 4, 1) := by decide +kernel
theorem dX11_levelIn_2 : decode cX11_levelIn 2 = .ok (.iload_n 1, 1) := by decide +kernel
theorem dX11_levelIn_3 : decode cX11_levelIn 3 = .ok (.imul, 1) := by decide +kernel
theorem dX11_levelIn_4 : decode cX11_levelIn 4 = .ok (.iushr, 1) := by decide +kernel
theorem dX11_levelIn_5 : decode cX11_levelIn 5 = .ok (.bipush 15, 2) := by decide +kernel
theorem dX11_levelIn_7 : decode cX11_levelIn 7 = .ok (.iand, 1) := by decide +kernel
theorem dX11_levelIn_8 : decode cX11_levelIn 8 = .ok (.istore_n 2, 1) := by decide +kernel
theorem dX11_levelIn_9 : decode cX11_levelIn 9 = .ok (.iload_n 2, 1) := by decide +kernel
theorem dX11_levelIn_10 : decode cX11_levelIn 10 = .ok (.ifCond .ne 7, 3) := by decide +kernel
theorem dX11_levelIn_13 : decode cX11_levelIn 13 = .ok (.iconst (-1), 1) := by decide +kernel
theorem dX11_levelIn_14 : decode cX11_levelIn 14 = .ok (.goto 10, 3) := by decide +kernel
theorem dX11_levelIn_17 : decode cX11_levelIn 17 = .ok (.iload_n 2, 1) := by decide +kernel
theorem dX11_levelIn_18 : decode cX11_levelIn 18 = .ok (.iconst 1, 1) := by decide +kernel
theorem dX11_levelIn_19 : decode cX11_levelIn 19 = .ok (.ishr, 1) := by decide +kernel
theorem dX11_levelIn_20 : decode cX11_levelIn 20 = .ok (.iload_n 2, 1) := by decide +kernel
theorem dX11_levelIn_21 : decode cX11_levelIn 21 = .ok (.iconst 3, 1) := by decide +kernel
theorem dX11_levelIn_22 : decode cX11_levelIn 22 = .ok (.ishr, 1) := by decide +kernel
theorem dX11_levelIn_23 : decode cX11_levelIn 23 = .ok (.isub, 1) := by decide +kernel
theorem dX11_levelIn_24 : decode cX11_levelIn 24 = .ok (.ireturn, 1) := by decide +kernel
theorem dX11_columnsOf_0 : decode cX11_columnsOf 0 = .ok (.iload_n 0, 1) := by decide +kernel
theorem dX11_columnsOf_1 : decode cX11_columnsOf 1 = .ok (.iload_n 0, 1) := by decide +kernel
theorem dX11_columnsOf_2 : decode cX11_columnsOf 2 = .ok (.iconst 1, 1) := by decide +kernel
theorem dX11_columnsOf_3 : decode cX11_columnsOf 3 = .ok (.iushr, 1) := by decide +kernel
theorem dX11_columnsOf_4 : decode cX11_columnsOf 4 = .ok (.ior, 1) := by decide +kernel
theorem dX11_columnsOf_5 : decode cX11_columnsOf 5 = .ok (.iload_n 0, 1) := by decide +kernel
theorem dX11_columnsOf_6 : decode cX11_columnsOf 6 = .ok (.iconst 2, 1) := by decide +kernel
theorem dX11_columnsOf_7 : decode cX11_columnsOf 7 = .ok (.iushr, 1) := by decide +kernel
theorem dX11_columnsOf_8 : decode cX11_columnsOf 8 = .ok (.ior, 1) := by decide +kernel
theorem dX11_columnsOf_9 : decode cX11_columnsOf 9 = .ok (.iload_n 0, 1) := by decide +kernel
theorem dX11_columnsOf_10 : decode cX11_columnsOf 10 = .ok (.iconst 3, 1) := by decide +kernel
theorem dX11_columnsOf_11 : decode cX11_columnsOf 11 = .ok (.iushr, 1) := by decide +kernel
theorem dX11_columnsOf_12 : decode cX11_columnsOf 12 = .ok (.ior, 1) := by decide +kernel
theorem dX11_columnsOf_13 : decode cX11_columnsOf 13 = .ok (.ldc_w 321, 3) := by decide +kernel
theorem dX11_columnsOf_16 : decode cX11_columnsOf 16 = .ok (.iand, 1) := by decide +kernel
theorem dX11_columnsOf_17 : decode cX11_columnsOf 17 = .ok (.istore_n 1, 1) := by decide +kernel
theorem dX11_columnsOf_18 : decode cX11_columnsOf 18 = .ok (.iload_n 1, 1) := by decide +kernel
theorem dX11_columnsOf_19 : decode cX11_columnsOf 19 = .ok (.bipush 15, 2) := by decide +kernel
theorem dX11_columnsOf_21 : decode cX11_columnsOf 21 = .ok (.imul, 1) := by decide +kernel
theorem dX11_columnsOf_22 : decode cX11_columnsOf 22 = .ok (.ireturn, 1) := by decide +kernel
theorem dX12_init_0 : decode cX12_init 0 = .ok (.aload_n 0, 1) := by decide +kernel
theorem dX12_init_1 : decode cX12_init 1 = .ok (.invokespecial 1, 3) := by decide +kernel
theorem dX12_init_4 : decode cX12_init 4 = .ok (.aload_n 0, 1) := by decide +kernel
theorem dX12_init_5 : decode cX12_init 5 = .ok (.sipush 200, 3) := by decide +kernel
theorem dX12_init_8 : decode cX12_init 8 = .ok (.newarray .byte, 2) := by decide +kernel
theorem dX12_init_10 : decode cX12_init 10 = .ok (.putfield 7, 3) := by decide +kernel
theorem dX12_init_13 : decode cX12_init 13 = .ok (.aload_n 0, 1) := by decide +kernel
theorem dX12_init_14 : decode cX12_init 14 = .ok (.bipush 24, 2) := by decide +kernel
theorem dX12_init_16 : decode cX12_init 16 = .ok (.newarray .byte, 2) := by decide +kernel
theorem dX12_init_18 : decode cX12_init 18 = .ok (.dup, 1) := by decide +kernel
theorem dX12_init_19 : decode cX12_init 19 = .ok (.iconst 0, 1) := by decide +kernel
theorem dX12_init_20 : decode cX12_init 20 = .ok (.bipush 108, 2) := by decide +kernel
theorem dX12_init_22 : decode cX12_init 22 = .ok (.bastore, 1) := by decide +kernel
theorem dX12_init_23 : decode cX12_init 23 = .ok (.dup, 1) := by decide +kernel
theorem dX12_init_24 : decode cX12_init 24 = .ok (.iconst 1, 1) := by decide +kernel
theorem dX12_init_25 : decode cX12_init 25 = .ok (.bipush 101, 2) := by decide +kernel
theorem dX12_init_27 : decode cX12_init 27 = .ok (.bastore, 1) := by decide +kernel
theorem dX12_init_28 : decode cX12_init 28 = .ok (.dup, 1) := by decide +kernel
theorem dX12_init_29 : decode cX12_init 29 = .ok (.iconst 2, 1) := by decide +kernel
theorem dX12_init_30 : decode cX12_init 30 = .ok (.bipush 118, 2) := by decide +kernel
theorem dX12_init_32 : decode cX12_init 32 = .ok (.bastore, 1) := by decide +kernel
theorem dX12_init_33 : decode cX12_init 33 = .ok (.dup, 1) := by decide +kernel
theorem dX12_init_34 : decode cX12_init 34 = .ok (.iconst 3, 1) := by decide +kernel
theorem dX12_init_35 : decode cX12_init 35 = .ok (.bipush 101, 2) := by decide +kernel
theorem dX12_init_37 : decode cX12_init 37 = .ok (.bastore, 1) := by decide +kernel
theorem dX12_init_38 : decode cX12_init 38 = .ok (.dup, 1) := by decide +kernel
theorem dX12_init_39 : decode cX12_init 39 = .ok (.iconst 4, 1) := by decide +kernel
theorem dX12_init_40 : decode cX12_init 40 = .ok (.bipush 108, 2) := by decide +kernel
theorem dX12_init_42 : decode cX12_init 42 = .ok (.bastore, 1) := by decide +kernel
theorem dX12_init_43 : decode cX12_init 43 = .ok (.dup, 1) := by decide +kernel
theorem dX12_init_44 : decode cX12_init 44 = .ok (.iconst 5, 1) := by decide +kernel
theorem dX12_init_45 : decode cX12_init 45 = .ok (.bipush 115, 2) := by decide +kernel
theorem dX12_init_47 : decode cX12_init 47 = .ok (.bastore, 1) := by decide +kernel
theorem dX12_init_48 : decode cX12_init 48 = .ok (.dup, 1) := by decide +kernel
theorem dX12_init_49 : decode cX12_init 49 = .ok (.bipush 6, 2) := by decide +kernel
theorem dX12_init_51 : decode cX12_init 51 = .ok (.iconst 0, 1) := by decide +kernel
theorem dX12_init_52 : decode cX12_init 52 = .ok (.bastore, 1) := by decide +kernel
theorem dX12_init_53 : decode cX12_init 53 = .ok (.dup, 1) := by decide +kernel
theorem dX12_init_54 : decode cX12_init 54 = .ok (.bipush 7, 2) := by decide +kernel
theorem dX12_init_56 : decode cX12_init 56 = .ok (.iconst 0, 1) := by decide +kernel
theorem dX12_init_57 : decode cX12_init 57 = .ok (.bastore, 1) := by decide +kernel
theorem dX12_init_58 : decode cX12_init 58 = .ok (.dup, 1) := by decide +kernel
theorem dX12_init_59 : decode cX12_init 59 = .ok (.bipush 8, 2) := by decide +kernel
theorem dX12_init_61 : decode cX12_init 61 = .ok (.bipush 115, 2) := by decide +kernel
theorem dX12_init_63 : decode cX12_init 63 = .ok (.bastore, 1) := by decide +kernel
theorem dX12_init_64 : decode cX12_init 64 = .ok (.dup, 1) := by decide +kernel
theorem dX12_init_65 : decode cX12_init 65 = .ok (.bipush 9, 2) := by decide +kernel
theorem dX12_init_67 : decode cX12_init 67 = .ok (.bipush 116, 2) := by decide +kernel
theorem dX12_init_69 : decode cX12_init 69 = .ok (.bastore, 1) := by decide +kernel
theorem dX12_init_70 : decode cX12_init 70 = .ok (.dup, 1) := by decide +kernel
theorem dX12_init_71 : decode cX12_init 71 = .ok (.bipush 10, 2) := by decide +kernel
theorem dX12_init_73 : decode cX12_init 73 = .ok (.bipush 114, 2) := by decide +kernel
theorem dX12_init_75 : decode cX12_init 75 = .ok (.bastore, 1) := by decide +kernel
theorem dX12_init_76 : decode cX12_init 76 = .ok (.dup, 1) := by decide +kernel
theorem dX12_init_77 : decode cX12_init 77 = .ok (.bipush 11, 2) := by decide +kernel
theorem dX12_init_79 : decode cX12_init 79 = .ok (.bipush 101, 2) := by decide +kernel
theorem dX12_init_81 : decode cX12_init 81 = .ok (.bastore, 1) := by decide +kernel
theorem dX12_init_82 : decode cX12_init 82 = .ok (.dup, 1) := by decide +kernel
theorem dX12_init_83 : decode cX12_init 83 = .ok (.bipush 12, 2) := by decide +kernel
theorem dX12_init_85 : decode cX12_init 85 = .ok (.bipush 110, 2) := by decide +kernel
theorem dX12_init_87 : decode cX12_init 87 = .ok (.bastore, 1) := by decide +kernel
theorem dX12_init_88 : decode cX12_init 88 = .ok (.dup, 1) := by decide +kernel
theorem dX12_init_89 : decode cX12_init 89 = .ok (.bipush 13, 2) := by decide +kernel
theorem dX12_init_91 : decode cX12_init 91 = .ok (.bipush 103, 2) := by decide +kernel
theorem dX12_init_93 : decode cX12_init 93 = .ok (.bastore, 1) := by decide +kernel
theorem dX12_init_94 : decode cX12_init 94 = .ok (.dup, 1) := by decide +kernel
theorem dX12_init_95 : decode cX12_init 95 = .ok (.bipush 14, 2) := by decide +kernel
theorem dX12_init_97 : decode cX12_init 97 = .ok (.bipush 116, 2) := by decide +kernel
theorem dX12_init_99 : decode cX12_init 99 = .ok (.bastore, 1) := by decide +kernel
theorem dX12_init_100 : decode cX12_init 100 = .ok (.dup, 1) := by decide +kernel
theorem dX12_init_101 : decode cX12_init 101 = .ok (.bipush 15, 2) := by decide +kernel
theorem dX12_init_103 : decode cX12_init 103 = .ok (.bipush 104, 2) := by decide +kernel
theorem dX12_init_105 : decode cX12_init 105 = .ok (.bastore, 1) := by decide +kernel
theorem dX12_init_106 : decode cX12_init 106 = .ok (.dup, 1) := by decide +kernel
theorem dX12_init_107 : decode cX12_init 107 = .ok (.bipush 16, 2) := by decide +kernel
theorem dX12_init_109 : decode cX12_init 109 = .ok (.bipush 110, 2) := by decide +kernel
theorem dX12_init_111 : decode cX12_init 111 = .ok (.bastore, 1) := by decide +kernel
theorem dX12_init_112 : decode cX12_init 112 = .ok (.dup, 1) := by decide +kernel
theorem dX12_init_113 : decode cX12_init 113 = .ok (.bipush 17, 2) := by decide +kernel
theorem dX12_init_115 : decode cX12_init 115 = .ok (.bipush 101, 2) := by decide +kernel
theorem dX12_init_117 : decode cX12_init 117 = .ok (.bastore, 1) := by decide +kernel
theorem dX12_init_118 : decode cX12_init 118 = .ok (.dup, 1) := by decide +kernel
theorem dX12_init_119 : decode cX12_init 119 = .ok (.bipush 18, 2) := by decide +kernel
theorem dX12_init_121 : decode cX12_init 121 = .ok (.bipush 118, 2) := by decide +kernel
theorem dX12_init_123 : decode cX12_init 123 = .ok (.bastore, 1) := by decide +kernel
theorem dX12_init_124 : decode cX12_init 124 = .ok (.dup, 1) := by decide +kernel
theorem dX12_init_125 : decode cX12_init 125 = .ok (.bipush 19, 2) := by decide +kernel
theorem dX12_init_127 : decode cX12_init 127 = .ok (.bipush 101, 2) := by decide +kernel
theorem dX12_init_129 : decode cX12_init 129 = .ok (.bastore, 1) := by decide +kernel
theorem dX12_init_130 : decode cX12_init 130 = .ok (.dup, 1) := by decide +kernel
theorem dX12_init_131 : decode cX12_init 131 = .ok (.bipush 20, 2) := by decide +kernel
theorem dX12_init_133 : decode cX12_init 133 = .ok (.bipush 114, 2) := by decide +kernel
theorem dX12_init_135 : decode cX12_init 135 = .ok (.bastore, 1) := by decide +kernel
theorem dX12_init_136 : decode cX12_init 136 = .ok (.dup, 1) := by decide +kernel
theorem dX12_init_137 : decode cX12_init 137 = .ok (.bipush 21, 2) := by decide +kernel
theorem dX12_init_139 : decode cX12_init 139 = .ok (.iconst 0, 1) := by decide +kernel
theorem dX12_init_140 : decode cX12_init 140 = .ok (.bastore, 1) := by decide +kernel
theorem dX12_init_141 : decode cX12_init 141 = .ok (.dup, 1) := by decide +kernel
theorem dX12_init_142 : decode cX12_init 142 = .ok (.bipush 22, 2) := by decide +kernel
theorem dX12_init_144 : decode cX12_init 144 = .ok (.iconst 0, 1) := by decide +kernel
theorem dX12_init_145 : decode cX12_init 145 = .ok (.bastore, 1) := by decide +kernel
theorem dX12_init_146 : decode cX12_init 146 = .ok (.dup, 1) := by decide +kernel
theorem dX12_init_147 : decode cX12_init 147 = .ok (.bipush 23, 2) := by decide +kernel
theorem dX12_init_149 : decode cX12_init 149 = .ok (.iconst 0, 1) := by decide +kernel
theorem dX12_init_150 : decode cX12_init 150 = .ok (.bastore, 1) := by decide +kernel
theorem dX12_init_151 : decode cX12_init 151 = .ok (.putfield 13, 3) := by decide +kernel
theorem dX12_init_154 : decode cX12_init 154 = .ok (.aload_n 0, 1) := by decide +kernel
theorem dX12_init_155 : decode cX12_init 155 = .ok (.sipush 673, 3) := by decide +kernel
theorem dX12_init_158 : decode cX12_init 158 = .ok (.newarray .int, 2) := by decide +kernel
theorem dX12_init_160 : decode cX12_init 160 = .ok (.putfield 16, 3) := by decide +kernel
theorem dX12_init_163 : decode cX12_init 163 = .ok (.aload_n 0, 1) := by decide +kernel
theorem dX12_init_164 : decode cX12_init 164 = .ok (.sipush 673, 3) := by decide +kernel
theorem dX12_init_167 : decode cX12_init 167 = .ok (.newarray .int, 2) := by decide +kernel
theorem dX12_init_169 : decode cX12_init 169 = .ok (.putfield 20, 3) := by decide +kernel
theorem dX12_init_172 : decode cX12_init 172 = .ok (.aload_n 0, 1) := by decide +kernel
theorem dX12_init_173 : decode cX12_init 173 = .ok (.sipush 673, 3) := by decide +kernel
theorem dX12_init_176 : decode cX12_init 176 = .ok (.newarray .int, 2) := by decide +kernel
theorem dX12_init_178 : decode cX12_init 178 = .ok (.putfield 23, 3) := by decide +kernel
theorem dX12_init_181 : decode cX12_init 181 = .ok (.aload_n 0, 1) := by decide +kernel
theorem dX12_init_182 : decode cX12_init 182 = .ok (.bipush 8, 2) := by decide +kernel
theorem dX12_init_184 : decode cX12_init 184 = .ok (.newarray .int, 2) := by decide +kernel
theorem dX12_init_186 : decode cX12_init 186 = .ok (.putfield 26, 3) := by decide +kernel
theorem dX12_init_189 : decode cX12_init 189 = .ok (.aload_n 0, 1) := by decide +kernel
theorem dX12_init_190 : decode cX12_init 190 = .ok (.bipush 8, 2) := by decide +kernel
theorem dX12_init_192 : decode cX12_init 192 = .ok (.newarray .int, 2) := by decide +kernel
theorem dX12_init_194 : decode cX12_init 194 = .ok (.putfield 29, 3) := by decide +kernel
theorem dX12_init_197 : decode cX12_init 197 = .ok (.aload_n 0, 1) := by decide +kernel
theorem dX12_init_198 : decode cX12_init 198 = .ok (.sipush 3600, 3) := by decide +kernel
theorem dX12_init_201 : decode cX12_init 201 = .ok (.newarray .int, 2) := by decide +kernel
theorem dX12_init_203 : decode cX12_init 203 = .ok (.putfield 32, 3) := by decide +kernel
theorem dX12_init_206 : decode cX12_init 206 = .ok (.aload_n 0, 1) := by decide +kernel
theorem dX12_init_207 : decode cX12_init 207 = .ok (.sipush 3600, 3) := by decide +kernel
theorem dX12_init_210 : decode cX12_init 210 = .ok (.newarray .int, 2) := by decide +kernel
theorem dX12_init_212 : decode cX12_init 212 = .ok (.putfield 35, 3) := by decide +kernel
theorem dX12_init_215 : decode cX12_init 215 = .ok (.aload_n 0, 1) := by decide +kernel
theorem dX12_init_216 : decode cX12_init 216 = .ok (.sipush 1200, 3) := by decide +kernel
theorem dX12_init_219 : decode cX12_init 219 = .ok (.newarray .boolean, 2) := by decide +kernel
theorem dX12_init_221 : decode cX12_init 221 = .ok (.putfield 38, 3) := by decide +kernel
theorem dX12_init_224 : decode cX12_init 224 = .ok (.aload_n 0, 1) := by decide +kernel
theorem dX12_init_225 : decode cX12_init 225 = .ok (.iconst 3, 1) := by decide +kernel
theorem dX12_init_226 : decode cX12_init 226 = .ok (.newarray .int, 2) := by decide +kernel
theorem dX12_init_228 : decode cX12_init 228 = .ok (.putfield 42, 3) := by decide +kernel
theorem dX12_init_231 : decode cX12_init 231 = .ok (.aload_n 0, 1) := by decide +kernel
theorem dX12_init_232 : decode cX12_init 232 = .ok (.sipush 1200, 3) := by decide +kernel
theorem dX12_init_235 : decode cX12_init 235 = .ok (.newarray .boolean, 2) := by decide +kernel
theorem dX12_init_237 : decode cX12_init 237 = .ok (.putfield 45, 3) := by decide +kernel
theorem dX12_init_240 : decode cX12_init 240 = .ok (.aload_n 0, 1) := by decide +kernel
theorem dX12_init_241 : decode cX12_init 241 = .ok (.bipush 8, 2) := by decide +kernel
theorem dX12_init_243 : decode cX12_init 243 = .ok (.newarray .int, 2) := by decide +kernel
theorem dX12_init_245 : decode cX12_init 245 = .ok (.putfield 48, 3) := by decide +kernel
theorem dX12_init_248 : decode cX12_init 248 = .ok (.aload_n 0, 1) := by decide +kernel
theorem dX12_init_249 : decode cX12_init 249 = .ok (.bipush 8, 2) := by decide +kernel
theorem dX12_init_251 : decode cX12_init 251 = .ok (.newarray .int, 2) := by decide +kernel
theorem dX12_init_253 : decode cX12_init 253 = .ok (.putfield 51, 3) := by decide +kernel
theorem dX12_init_256 : decode cX12_init 256 = .ok (.aload_n 0, 1) := by decide +kernel
theorem dX12_init_257 : decode cX12_init 257 = .ok (.iconst 3, 1) := by decide +kernel
theorem dX12_init_258 : decode cX12_init 258 = .ok (.newarray .int, 2) := by decide +kernel
theorem dX12_init_260 : decode cX12_init 260 = .ok (.putfield 54, 3) := by decide +kernel
theorem dX12_init_263 : decode cX12_init 263 = .ok (.aload_n 0, 1) := by decide +kernel
theorem dX12_init_264 : decode cX12_init 264 = .ok (.bipush 9, 2) := by decide +kernel
theorem dX12_init_266 : decode cX12_init 266 = .ok (.newarray .int, 2) := by decide +kernel
theorem dX12_init_268 : decode cX12_init 268 = .ok (.putfield 57, 3) := by decide +kernel
theorem dX12_init_271 : decode cX12_init 271 = .ok (.aload_n 0, 1) := by decide +kernel
theorem dX12_init_272 : decode cX12_init 272 = .ok (.sipush 5384, 3) := by decide +kernel
theorem dX12_init_275 : decode cX12_init 275 = .ok (.newarray .int, 2) := by decide +kernel
theorem dX12_init_277 : decode cX12_init 277 = .ok (.putfield 60, 3) := by decide +kernel
theorem dX12_init_280 : decode cX12_init 280 = .ok (.aload_n 0, 1) := by decide +kernel
theorem dX12_init_281 : decode cX12_init 281 = .ok (.sipush 1346, 3) := by decide +kernel
theorem dX12_init_284 : decode cX12_init 284 = .ok (.newarray .int, 2) := by decide +kernel
theorem dX12_init_286 : decode cX12_init 286 = .ok (.putfield 63, 3) := by decide +kernel
theorem dX12_init_289 : decode cX12_init 289 = .ok (.aload_n 0, 1) := by decide +kernel
theorem dX12_init_290 : decode cX12_init 290 = .ok (.iconst 2, 1) := by decide +kernel
theorem dX12_init_291 : decode cX12_init 291 = .ok (.newarray .boolean, 2) := by decide +kernel
theorem dX12_init_293 : decode cX12_init 293 = .ok (.putfield 66, 3) := by decide +kernel
theorem dX12_init_296 : decode cX12_init 296 = .ok (.return_, 1) := by decide +kernel
theorem dX12_isIn_0 : decode cX12_isIn 0 = .ok (.lload_n 0, 1) := by decide +kernel
theorem dX12_isIn_1 : decode cX12_isIn 1 = .ok (.lload_n 2, 1) := by decide +kernel
theorem dX12_isIn_2 : decode cX12_isIn 2 = .ok (.lcmp, 1) := by decide +kernel
theorem dX12_isIn_3 : decode cX12_isIn 3 = .ok (.ifCond .lt 14, 3) := by decide +kernel
theorem dX12_isIn_6 : decode cX12_isIn 6 = .ok (.lload_n 0, 1) := by decide +kernel
theorem dX12_isIn_7 : decode cX12_isIn 7 = .ok (.lload 4, 2) := by decide +kernel
theorem dX12_isIn_9 : decode cX12_isIn 9 = .ok (.lcmp, 1) := by decide +kernel
theorem dX12_isIn_10 : decode cX12_isIn 10 = .ok (.ifCond .gt 7, 3) := by decide +kernel
theorem dX12_isIn_13 : decode cX12_isIn 13 = .ok (.iconst 1, 1) := by decide +kernel
theorem dX12_isIn_14 : decode cX12_isIn 14 = .ok (.goto 4, 3) := by decide +kernel
theorem dX12_isIn_17 : decode cX12_isIn 17 = .ok (.iconst 0, 1) := by decide +kernel
theorem dX12_isIn_18 : decode cX12_isIn 18 = .ok (.ireturn, 1) := by decide +kernel
theorem dX12_feed_0 : decode cX12_feed 0 = .ok (.aload_n 0, 1) := by decide +kernel
theorem dX12_feed_1 : decode cX12_feed 1 = .ok (.getfield 69, 3) := by decide +kernel
theorem dX12_feed_4 : decode cX12_feed 4 = .ok (.sipush 180, 3) := by decide +kernel
theorem dX12_feed_7 : decode cX12_feed 7 = .ok (.if_icmp .le 5, 3) := by decide +kernel
theorem dX12_feed_10 : decode cX12_feed 10 = .ok (.iconst (-1), 1) := by decide +kernel
theorem dX12_feed_11 : decode cX12_feed 11 = .ok (.ireturn, 1) := by decide +kernel
theorem dX12_feed_12 : decode cX12_feed 12 = .ok (.iconst 0, 1) := by decide +kernel
theorem dX12_feed_13 : decode cX12_feed 13 = .ok (.istore 6, 2) := by decide +kernel
theorem dX12_feed_15 : decode cX12_feed 15 = .ok (.iload 6, 2) := by decide +kernel
theorem dX12_feed_17 : decode cX12_feed 17 = .ok (.bipush 20, 2) := by decide +kernel
theorem dX12_feed_19 : decode cX12_feed 19 = .ok (.if_icmp .ge 83, 3) := by decide +kernel
theorem dX12_feed_22 : decode cX12_feed 22 = .ok (.iload 6, 2) := by decide +kernel
theorem dX12_feed_24 : decode cX12_feed 24 = .ok (.iconst 4, 1) := by decide +kernel
theorem dX12_feed_25 : decode cX12_feed 25 = .ok (.if_icmp .ge 7, 3) := by decide +kernel
theorem dX12_feed_28 : decode cX12_feed 28 = .ok (.iload_n 1, 1) := by decide +kernel
theorem dX12_feed_29 : decode cX12_feed 29 = .ok (.goto 39, 3) := by decide +kernel
theorem dX12_feed_32 : decode cX12_feed 32 = .ok (.iload 6, 2) := by decide +kernel
theorem dX12_feed_34 : decode cX12_feed 34 = .ok (.bipush 8, 2) := by decide +kernel
theorem dX12_feed_36 : decode cX12_feed 36 = .ok (.if_icmp .ge 7, 3) := by decide +kernel
theorem dX12_feed_39 : decode cX12_feed 39 = .ok (.iload_n 2, 1) := by decide +kernel
theorem dX12_feed_40 : decode cX12_feed 40 = .ok (.goto 28, 3) := by decide +kernel
theorem dX12_feed_43 : decode cX12_feed 43 = .ok (.iload 6, 2) := by decide +kernel
theorem dX12_feed_45 : decode cX12_feed 45 = .ok (.bipush 12, 2) := by decide +kernel
theorem dX12_feed_47 : decode cX12_feed 47 = .ok (.if_icmp .ge 7, 3) := by decide +kernel
theorem dX12_feed_50 : decode cX12_feed 50 = .ok (.iload_n 3, 1) := by decide +kernel
theorem dX12_feed_51 : decode cX12_feed 51 = .ok (.goto 17, 3) := by decide +kernel
theorem dX12_feed_54 : decode cX12_feed 54 = .ok (.iload 6, 2) := by decide +kernel
theorem dX12_feed_56 : decode cX12_feed 56 = .ok (.bipush 16, 2) := by decide +kernel
theorem dX12_feed_58 : decode cX12_feed 58 = .ok (.if_icmp .ge 8, 3) := by decide +kernel
theorem dX12_feed_61 : decode cX12_feed 61 = .ok (.iload 4, 2) := by decide +kernel
theorem dX12_feed_63 : decode cX12_feed 63 = .ok (.goto 5, 3) := by decide +kernel
theorem dX12_feed_66 : decode cX12_feed 66 = .ok (.iload 5, 2) := by decide +kernel
theorem dX12_feed_68 : decode cX12_feed 68 = .ok (.istore 7, 2) := by decide +kernel
theorem dX12_feed_70 : decode cX12_feed 70 = .ok (.aload_n 0, 1) := by decide +kernel
theorem dX12_feed_71 : decode cX12_feed 71 = .ok (.getfield 7, 3) := by decide +kernel
theorem dX12_feed_74 : decode cX12_feed 74 = .ok (.aload_n 0, 1) := by decide +kernel
theorem dX12_feed_75 : decode cX12_feed 75 = .ok (.getfield 69, 3) := by decide +kernel
theorem dX12_feed_78 : decode cX12_feed 78 = .ok (.iload 6, 2) := by decide +kernel
theorem dX12_feed_80 : decode cX12_feed 80 = .ok (.iadd, 1) := by decide +kernel
theorem dX12_feed_81 : decode cX12_feed 81 = .ok (.iload 7, 2) := by decide +kernel
theorem dX12_feed_83 : decode cX12_feed 83 = .ok (.bipush 24, 2) := by decide +kernel
theorem dX12_feed_85 : decode cX12_feed 85 = .ok (.bipush 8, 2) := by decide +kernel
theorem dX12_feed_87 : decode cX12_feed 87 = .ok (.iload 6, 2) := by decide +kernel
theorem dX12_feed_89 : decode cX12_feed 89 = .ok (.iconst 4, 1) := by decide +kernel
theorem dX12_feed_90 : decode cX12_feed 90 = .ok (.irem, 1) := by decide +kernel
theorem dX12_feed_91 : decode cX12_feed 91 = .ok (.imul, 1) := by decide +kernel
theorem dX12_feed_92 : decode cX12_feed 92 = .ok (.isub, 1) := by decide +kernel
theorem dX12_feed_93 : decode cX12_feed 93 = .ok (.ishr, 1) := by decide +kernel
theorem dX12_feed_94 : decode cX12_feed 94 = .ok (.i2b, 1) := by decide +kernel
theorem dX12_feed_95 : decode cX12_feed 95 = .ok (.bastore, 1) := by decide +kernel
theorem dX12_feed_96 : decode cX12_feed 96 = .ok (.iinc 6 1, 3) := by decide +kernel
theorem dX12_feed_99 : decode cX12_feed 99 = .ok (.goto (-84), 3) := by decide +kernel
theorem dX12_feed_102 : decode cX12_feed 102 = .ok (.aload_n 0, 1) := by decide +kernel
theorem dX12_feed_103 : decode cX12_feed 103 = .ok (.dup, 1) := by decide +kernel
theorem dX12_feed_104 : decode cX12_feed 104 = .ok (.getfield 69, 3) := by decide +kernel
theorem dX12_feed_107 : decode cX12_feed 107 = .ok (.bipush 20, 2) := by decide +kernel
theorem dX12_feed_109 : decode cX12_feed 109 = .ok (.iadd, 1) := by decide +kernel
theorem dX12_feed_110 : decode cX12_feed 110 = .ok (.putfield 69, 3) := by decide +kernel
theorem dX12_feed_113 : decode cX12_feed 113 = .ok (.aload_n 0, 1) := by decide +kernel
theorem dX12_feed_114 : decode cX12_feed 114 = .ok (.getfield 69, 3) := by decide +kernel
theorem dX12_feed_117 : decode cX12_feed 117 = .ok (.ireturn, 1) := by decide +kernel
theorem dX12_end_0 : decode cX12_end 0 = .ok (.iload_n 1, 1) := by decide +kernel
theorem dX12_end_1 : decode cX12_end 1 = .ok (.i2l, 1) := by decide +kernel
theorem dX12_end_2 : decode cX12_end 2 = .ok (.lconst 0, 1) := by decide +kernel
theorem dX12_end_3 : decode cX12_end 3 = .ok (.aload_n 0, 1) := by decide +kernel
theorem dX12_end_4 : decode cX12_end 4 = .ok (.getfield 69, 3) := by decide +kernel
theorem dX12_end_7 : decode cX12_end 7 = .ok (.i2l, 1) := by decide +kernel
theorem dX12_end_8 : decode cX12_end 8 = .ok (.invokestatic 73, 3) := by decide +kernel
theorem dX12_end_11 : decode cX12_end 11 = .ok (.ifCond .ne 5, 3) := by decide +kernel
theorem dX12_end_14 : decode cX12_end 14 = .ok (.iconst (-1), 1) := by decide +kernel
theorem dX12_end_15 : decode cX12_end 15 = .ok (.ireturn, 1) := by decide +kernel
theorem dX12_end_16 : decode cX12_end 16 = .ok (.aload_n 0, 1) := by decide +kernel
theorem dX12_end_17 : decode cX12_end 17 = .ok (.iload_n 1, 1) := by decide +kernel
theorem dX12_end_18 : decode cX12_end 18 = .ok (.putfield 69, 3) := by decide +kernel
theorem dX12_end_21 : decode cX12_end 21 = .ok (.iload_n 1, 1) := by decide +kernel
theorem dX12_end_22 : decode cX12_end 22 = .ok (.ireturn, 1) := by decide +kernel
theorem dX12_fails_0 : decode cX12_fails 0 = .ok (.aload_n 0, 1) := by decide +kernel
theorem dX12_fails_1 : decode cX12_fails 1 = .ok (.bipush 8, 2) := by decide +kernel
theorem dX12_fails_3 : decode cX12_fails 3 = .ok (.iload_n 2, 1) := by decide +kernel
theorem dX12_fails_4 : decode cX12_fails 4 = .ok (.imul, 1) := by decide +kernel
theorem dX12_fails_5 : decode cX12_fails 5 = .ok (.iload_n 1, 1) := by decide +kernel
theorem dX12_fails_6 : decode cX12_fails 6 = .ok (.iadd, 1) := by decide +kernel
theorem dX12_fails_7 : decode cX12_fails 7 = .ok (.putfield 77, 3) := by decide +kernel
theorem dX12_fails_10 : decode cX12_fails 10 = .ok (.iconst 0, 1) := by decide +kernel
theorem dX12_fails_11 : decode cX12_fails 11 = .ok (.ireturn, 1) := by decide +kernel
theorem dX12_byteAt_0 : decode cX12_byteAt 0 = .ok (.iload_n 1, 1) := by decide +kernel
theorem dX12_byteAt_1 : decode cX12_byteAt 1 = .ok (.aload_n 0, 1) := by decide +kernel
theorem dX12_byteAt_2 : decode cX12_byteAt 2 = .ok (.getfield 69, 3) := by decide +kernel
theorem dX12_byteAt_5 : decode cX12_byteAt 5 = .ok (.if_icmp .ge 16, 3) := by decide +kernel
theorem dX12_byteAt_8 : decode cX12_byteAt 8 = .ok (.aload_n 0, 1) := by decide +kernel
theorem dX12_byteAt_9 : decode cX12_byteAt 9 = .ok (.getfield 7, 3) := by decide +kernel
theorem dX12_byteAt_12 : decode cX12_byteAt 12 = .ok (.iload_n 1, 1) := by decide +kernel
theorem dX12_byteAt_13 : decode cX12_byteAt 13 = .ok (.baload, 1) := by decide +kernel
theorem dX12_byteAt_14 : decode cX12_byteAt 14 = .ok (.sipush 255, 3) := by decide +kernel
theorem dX12_byteAt_17 : decode cX12_byteAt 17 = .ok (.iand, 1) := by decide +kernel
theorem dX12_byteAt_18 : decode cX12_byteAt 18 = .ok (.goto 4, 3) := by decide +kernel
theorem dX12_byteAt_21 : decode cX12_byteAt 21 = .ok (.iconst (-1), 1) := by decide +kernel
theorem dX12_byteAt_22 : decode cX12_byteAt 22 = .ok (.ireturn, 1) := by decide +kernel
theorem dX12_next_0 : decode cX12_next 0 = .ok (.aload_n 0, 1) := by decide +kernel
theorem dX12_next_1 : decode cX12_next 1 = .ok (.aload_n 0, 1) := by decide +kernel
theorem dX12_next_2 : decode cX12_next 2 = .ok (.getfield 80, 3) := by decide +kernel
theorem dX12_next_5 : decode cX12_next 5 = .ok (.invokevirtual 83, 3) := by decide +kernel
theorem dX12_next_8 : decode cX12_next 8 = .ok (.bipush 32, 2) := by decide +kernel
theorem dX12_next_10 : decode cX12_next 10 = .ok (.if_icmp .ne 16, 3) := by decide +kernel
theorem dX12_next_13 : decode cX12_next 13 = .ok (.aload_n 0, 1) := by decide +kernel
theorem dX12_next_14 : decode cX12_next 14 = .ok (.dup, 1) := by decide +kernel
theorem dX12_next_15 : decode cX12_next 15 = .ok (.getfield 80, 3) := by decide +kernel
theorem dX12_next_18 : decode cX12_next 18 = .ok (.iconst 1, 1) := by decide +kernel
theorem dX12_next_19 : decode cX12_next 19 = .ok (.iadd, 1) := by decide +kernel
theorem dX12_next_20 : decode cX12_next 20 = .ok (.putfield 80, 3) := by decide +kernel
theorem dX12_next_23 : decode cX12_next 23 = .ok (.goto (-23), 3) := by decide +kernel
theorem dX12_next_26 : decode cX12_next 26 = .ok (.aload_n 0, 1) := by decide +kernel
theorem dX12_next_27 : decode cX12_next 27 = .ok (.aload_n 0, 1) := by decide +kernel
theorem dX12_next_28 : decode cX12_next 28 = .ok (.getfield 80, 3) := by decide +kernel
theorem dX12_next_31 : decode cX12_next 31 = .ok (.invokevirtual 83, 3) := by decide +kernel
theorem dX12_next_34 : decode cX12_next 34 = .ok (.ireturn, 1) := by decide +kernel
theorem dX12_isNumber_0 : decode cX12_isNumber 0 = .ok (.aload_n 0, 1) := by decide +kernel
theorem dX12_isNumber_1 : decode cX12_isNumber 1 = .ok (.invokevirtual 87, 3) := by decide +kernel
theorem dX12_isNumber_4 : decode cX12_isNumber 4 = .ok (.i2l, 1) := by decide +kernel
theorem dX12_isNumber_5 : decode cX12_isNumber 5 = .ok (.ldc2_w 91, 3) := by decide +kernel
theorem dX12_isNumber_8 : decode cX12_isNumber 8 = .ok (.ldc2_w 93, 3) := by decide +kernel
theorem dX12_isNumber_11 : decode cX12_isNumber 11 = .ok (.invokestatic 73, 3) := by decide +kernel
theorem dX12_isNumber_14 : decode cX12_isNumber 14 = .ok (.ireturn, 1) := by decide +kernel
theorem dX12_wordHere_0 : decode cX12_wordHere 0 = .ok (.aload_n 0, 1) := by decide +kernel
theorem dX12_wordHere_1 : decode cX12_wordHere 1 = .ok (.invokevirtual 87, 3) := by decide +kernel
theorem dX12_wordHere_4 : decode cX12_wordHere 4 = .ok (.pop, 1) := by decide +kernel
theorem dX12_wordHere_5 : decode cX12_wordHere 5 = .ok (.iconst 0, 1) := by decide +kernel
theorem dX12_wordHere_6 : decode cX12_wordHere 6 = .ok (.istore_n 1, 1) := by decide +kernel
theorem dX12_wordHere_7 : decode cX12_wordHere 7 = .ok (.iload_n 1, 1) := by decide +kernel
theorem dX12_wordHere_8 : decode cX12_wordHere 8 = .ok (.iconst 3, 1) := by decide +kernel
theorem dX12_wordHere_9 : decode cX12_wordHere 9 = .ok (.if_icmp .ge 106, 3) := by decide +kernel
theorem dX12_wordHere_12 : decode cX12_wordHere 12 = .ok (.iconst 0, 1) := by decide +kernel
theorem dX12_wordHere_13 : decode cX12_wordHere 13 = .ok (.istore_n 2, 1) := by decide +kernel
theorem dX12_wordHere_14 : decode cX12_wordHere 14 = .ok (.iload_n 2, 1) := by decide +kernel
theorem dX12_wordHere_15 : decode cX12_wordHere 15 = .ok (.bipush 8, 2) := by decide +kernel
theorem dX12_wordHere_17 : decode cX12_wordHere 17 = .ok (.if_icmp .ge 47, 3) := by decide +kernel
theorem dX12_wordHere_20 : decode cX12_wordHere 20 = .ok (.aload_n 0, 1) := by decide +kernel
theorem dX12_wordHere_21 : decode cX12_wordHere 21 = .ok (.getfield 13, 3) := by decide +kernel
theorem dX12_wordHere_24 : decode cX12_wordHere 24 = .ok (.bipush 8, 2) := by decide +kernel
theorem dX12_wordHere_26 : decode cX12_wordHere 26 = .ok (.iload_n 1, 1) := by decide +kernel
theorem dX12_wordHere_27 : decode cX12_wordHere 27 = .ok (.imul, 1) := by decide +kernel
theorem dX12_wordHere_28 : decode cX12_wordHere 28 = .ok (.iload_n 2, 1) := by decide +kernel
theorem dX12_wordHere_29 : decode cX12_wordHere 29 = .ok (.iadd, 1) := by decide +kernel
theorem dX12_wordHere_30 : decode cX12_wordHere 30 = .ok (.baload, 1) := by decide +kernel
theorem dX12_wordHere_31 : decode cX12_wordHere 31 = .ok (.ifCond .eq 33, 3) := by decide +kernel
theorem dX12_wordHere_34 : decode cX12_wordHere 34 = .ok (.aload_n 0, 1) := by decide +kernel
theorem dX12_wordHere_35 : decode cX12_wordHere 35 = .ok (.aload_n 0, 1) := by decide +kernel
theorem dX12_wordHere_36 : decode cX12_wordHere 36 = .ok (.getfield 80, 3) := by decide +kernel
theorem dX12_wordHere_39 : decode cX12_wordHere 39 = .ok (.iload_n 2, 1) := by decide +kernel
theorem dX12_wordHere_40 : decode cX12_wordHere 40 = .ok (.iadd, 1) := by decide +kernel
theorem dX12_wordHere_41 : decode cX12_wordHere 41 = .ok (.invokevirtual 83, 3) := by decide +kernel
theorem dX12_wordHere_44 : decode cX12_wordHere 44 = .ok (.aload_n 0, 1) := by decide +kernel
theorem dX12_wordHere_45 : decode cX12_wordHere 45 = .ok (.getfield 13, 3) := by decide +kernel
theorem dX12_wordHere_48 : decode cX12_wordHere 48 = .ok (.bipush 8, 2) := by decide +kernel
theorem dX12_wordHere_50 : decode cX12_wordHere 50 = .ok (.iload_n 1, 1) := by decide +kernel
theorem dX12_wordHere_51 : decode cX12_wordHere 51 = .ok (.imul, 1) := by decide +kernel
theorem dX12_wordHere_52 : decode cX12_wordHere 52 = .ok (.iload_n 2, 1) := by decide +kernel
theorem dX12_wordHere_53 : decode cX12_wordHere 53 = .ok (.iadd, 1) := by decide +kernel
theorem dX12_wordHere_54 : decode cX12_wordHere 54 = .ok (.baload, 1) := by decide +kernel
theorem dX12_wordHere_55 : decode cX12_wordHere 55 = .ok (.if_icmp .ne 9, 3) := by decide +kernel
theorem dX12_wordHere_58 : decode cX12_wordHere 58 = .ok (.iinc 2 1, 3) := by decide +kernel
theorem dX12_wordHere_61 : decode cX12_wordHere 61 = .ok (.goto (-47), 3) := by decide +kernel
theorem dX12_wordHere_64 : decode cX12_wordHere 64 = .ok (.iload_n 2, 1) := by decide +kernel
theorem dX12_wordHere_65 : decode cX12_wordHere 65 = .ok (.bipush 8, 2) := by decide +kernel
theorem dX12_wordHere_67 : decode cX12_wordHere 67 = .ok (.if_icmp .eq 17, 3) := by decide +kernel
theorem dX12_wordHere_70 : decode cX12_wordHere 70 = .ok (.aload_n 0, 1) := by decide +kernel
theorem dX12_wordHere_71 : decode cX12_wordHere 71 = .ok (.getfield 13, 3) := by decide +kernel
theorem dX12_wordHere_74 : decode cX12_wordHere 74 = .ok (.bipush 8, 2) := by decide +kernel
theorem dX12_wordHere_76 : decode cX12_wordHere 76 = .ok (.iload_n 1, 1) := by decide +kernel
theorem dX12_wordHere_77 : decode cX12_wordHere 77 = .ok (.imul, 1) := by decide +kernel
theorem dX12_wordHere_78 : decode cX12_wordHere 78 = .ok (.iload_n 2, 1) := by decide +kernel
theorem dX12_wordHere_79 : decode cX12_wordHere 79 = .ok (.iadd, 1) := by decide +kernel
theorem dX12_wordHere_80 : decode cX12_wordHere 80 = .ok (.baload, 1) := by decide +kernel
theorem dX12_wordHere_81 : decode cX12_wordHere 81 = .ok (.ifCond .ne 28, 3) := by decide +kernel
theorem dX12_wordHere_84 : decode cX12_wordHere 84 = .ok (.aload_n 0, 1) := by decide +kernel
theorem dX12_wordHere_85 : decode cX12_wordHere 85 = .ok (.aload_n 0, 1) := by decide +kernel
theorem dX12_wordHere_86 : decode cX12_wordHere 86 = .ok (.getfield 80, 3) := by decide +kernel
theorem dX12_wordHere_89 : decode cX12_wordHere 89 = .ok (.iload_n 2, 1) := by decide +kernel
theorem dX12_wordHere_90 : decode cX12_wordHere 90 = .ok (.iadd, 1) := by decide +kernel
theorem dX12_wordHere_91 : decode cX12_wordHere 91 = .ok (.invokevirtual 83, 3) := by decide +kernel
theorem dX12_wordHere_94 : decode cX12_wordHere 94 = .ok (.i2l, 1) := by decide +kernel
theorem dX12_wordHere_95 : decode cX12_wordHere 95 = .ok (.ldc2_w 95, 3) := by decide +kernel
theorem dX12_wordHere_98 : decode cX12_wordHere 98 = .ok (.ldc2_w 97, 3) := by decide +kernel
theorem dX12_wordHere_101 : decode cX12_wordHere 101 = .ok (.invokestatic 73, 3) := by decide +kernel
theorem dX12_wordHere_104 : decode cX12_wordHere 104 = .ok (.ifCond .ne 5, 3) := by decide +kernel
theorem dX12_wordHere_107 : decode cX12_wordHere 107 = .ok (.iload_n 1, 1) := by decide +kernel
theorem dX12_wordHere_108 : decode cX12_wordHere 108 = .ok (.ireturn, 1) := by decide +kernel
theorem dX12_wordHere_109 : decode cX12_wordHere 109 = .ok (.iinc 1 1, 3) := by decide +kernel
theorem dX12_wordHere_112 : decode cX12_wordHere 112 = .ok (.goto (-105), 3) := by decide +kernel
theorem dX12_wordHere_115 : decode cX12_wordHere 115 = .ok (.iconst (-1), 1) := by decide +kernel
theorem dX12_wordHere_116 : decode cX12_wordHere 116 = .ok (.ireturn, 1) := by decide +kernel
theorem dX12_passesWord_0 : decode cX12_passesWord 0 = .ok (.aload_n 0, 1) := by decide +kernel
theorem dX12_passesWord_1 : decode cX12_passesWord 1 = .ok (.aload_n 0, 1) := by decide +kernel
theorem dX12_passesWord_2 : decode cX12_passesWord 2 = .ok (.getfield 80, 3) := by decide +kernel
theorem dX12_passesWord_5 : decode cX12_passesWord 5 = .ok (.invokevirtual 83, 3) := by decide +kernel
theorem dX12_passesWord_8 : decode cX12_passesWord 8 = .ok (.i2l, 1) := by decide +kernel
theorem dX12_passesWord_9 : decode cX12_passesWord 9 = .ok (.ldc2_w 95, 3) := by decide +kernel
theorem dX12_passesWord_12 : decode cX12_passesWord 12 = .ok (.ldc2_w 97, 3) := by decide +kernel
theorem dX12_passesWord_15 : decode cX12_passesWord 15 = .ok (.invokestatic 73, 3) := by decide +kernel
theorem dX12_passesWord_18 : decode cX12_passesWord 18 = .ok (.ifCond .eq 16, 3) := by decide +kernel
theorem dX12_passesWord_21 : decode cX12_passesWord 21 = .ok (.aload_n 0, 1) := by decide +kernel
theorem dX12_passesWord_22 : decode cX12_passesWord 22 = .ok (.dup, 1) := by decide +kernel
theorem dX12_passesWord_23 : decode cX12_passesWord 23 = .ok (.getfield 80, 3) := by decide +kernel
theorem dX12_passesWord_26 : decode cX12_passesWord 26 = .ok (.iconst 1, 1) := by decide +kernel
theorem dX12_passesWord_27 : decode cX12_passesWord 27 = .ok (.iadd, 1) := by decide +kernel
theorem dX12_passesWord_28 : decode cX12_passesWord 28 = .ok (.putfield 80, 3) := by decide +kernel
theorem dX12_passesWord_31 : decode cX12_passesWord 31 = .ok (.goto (-31), 3) := by decide +kernel
theorem dX12_passesWord_34 : decode cX12_passesWord 34 = .ok (.return_, 1) := by decide +kernel
theorem dX12_readsNumber_0 : decode cX12_readsNumber 0 = .ok (.aload_n 0, 1) := by decide +kernel
theorem dX12_readsNumber_1 : decode cX12_readsNumber 1 = .ok (.invokevirtual 99, 3) := by decide +kernel
theorem dX12_readsNumber_4 : decode cX12_readsNumber 4 = .ok (.ifCond .ne 13, 3) := by decide +kernel
theorem dX12_readsNumber_7 : decode cX12_readsNumber 7 = .ok (.aload_n 0, 1) := by decide +kernel
theorem dX12_readsNumber_8 : decode cX12_readsNumber 8 = .ok (.iconst 1, 1) := by decide +kernel
theorem dX12_readsNumber_9 : decode cX12_readsNumber 9 = .ok (.aload_n 0, 1) := by decide +kernel
theorem dX12_readsNumber_10 : decode cX12_readsNumber 10 = .ok (.getfield 80, 3) := by decide +kernel
theorem dX12_readsNumber_13 : decode cX12_readsNumber 13 = .ok (.invokevirtual 103, 3) := by decide +kernel
theorem dX12_readsNumber_16 : decode cX12_readsNumber 16 = .ok (.ireturn, 1) := by decide +kernel
theorem dX12_readsNumber_17 : decode cX12_readsNumber 17 = .ok (.aload_n 0, 1) := by decide +kernel
theorem dX12_readsNumber_18 : decode cX12_readsNumber 18 = .ok (.aload_n 0, 1) := by decide +kernel
theorem dX12_readsNumber_19 : decode cX12_readsNumber 19 = .ok (.getfield 80, 3) := by decide +kernel
theorem dX12_readsNumber_22 : decode cX12_readsNumber 22 = .ok (.putfield 107, 3) := by decide +kernel
theorem dX12_readsNumber_25 : decode cX12_readsNumber 25 = .ok (.lconst 0, 1) := by decide +kernel
theorem dX12_readsNumber_26 : decode cX12_readsNumber 26 = .ok (.lstore_n 1, 1) := by decide +kernel
theorem dX12_readsNumber_27 : decode cX12_readsNumber 27 = .ok (.aload_n 0, 1) := by decide +kernel
theorem dX12_readsNumber_28 : decode cX12_readsNumber 28 = .ok (.aload_n 0, 1) := by decide +kernel
theorem dX12_readsNumber_29 : decode cX12_readsNumber 29 = .ok (.getfield 80, 3) := by decide +kernel
theorem dX12_readsNumber_32 : decode cX12_readsNumber 32 = .ok (.invokevirtual 83, 3) := by decide +kernel
theorem dX12_readsNumber_35 : decode cX12_readsNumber 35 = .ok (.i2l, 1) := by decide +kernel
theorem dX12_readsNumber_36 : decode cX12_readsNumber 36 = .ok (.ldc2_w 91, 3) := by decide +kernel
theorem dX12_readsNumber_39 : decode cX12_readsNumber 39 = .ok (.ldc2_w 93, 3) := by decide +kernel
theorem dX12_readsNumber_42 : decode cX12_readsNumber 42 = .ok (.invokestatic 73, 3) := by decide +kernel
theorem dX12_readsNumber_45 : decode cX12_readsNumber 45 = .ok (.ifCond .eq 48, 3) := by decide +kernel
theorem dX12_readsNumber_48 : decode cX12_readsNumber 48 = .ok (.lload_n 1, 1) := by decide +kernel
theorem dX12_readsNumber_49 : decode cX12_readsNumber 49 = .ok (.ldc2_w 110, 3) := by decide +kernel
theorem dX12_readsNumber_52 : decode cX12_readsNumber 52 = .ok (.lcmp, 1) := by decide +kernel
theorem dX12_readsNumber_53 : decode cX12_readsNumber 53 = .ok (.ifCond .le 7, 3) := by decide +kernel
theorem dX12_readsNumber_56 : decode cX12_readsNumber 56 = .ok (.lload_n 1, 1) := by decide +kernel
theorem dX12_readsNumber_57 : decode cX12_readsNumber 57 = .ok (.goto 22, 3) := by decide +kernel
theorem dX12_readsNumber_60 : decode cX12_readsNumber 60 = .ok (.ldc2_w 112, 3) := by decide +kernel
theorem dX12_readsNumber_63 : decode cX12_readsNumber 63 = .ok (.lload_n 1, 1) := by decide +kernel
theorem dX12_readsNumber_64 : decode cX12_readsNumber 64 = .ok (.lmul, 1) := by decide +kernel
theorem dX12_readsNumber_65 : decode cX12_readsNumber 65 = .ok (.aload_n 0, 1) := by decide +kernel
theorem dX12_readsNumber_66 : decode cX12_readsNumber 66 = .ok (.aload_n 0, 1) := by decide +kernel
theorem dX12_readsNumber_67 : decode cX12_readsNumber 67 = .ok (.getfield 80, 3) := by decide +kernel
theorem dX12_readsNumber_70 : decode cX12_readsNumber 70 = .ok (.invokevirtual 83, 3) := by decide +kernel
theorem dX12_readsNumber_73 : decode cX12_readsNumber 73 = .ok (.i2l, 1) := by decide +kernel
theorem dX12_readsNumber_74 : decode cX12_readsNumber 74 = .ok (.ladd, 1) := by decide +kernel
theorem dX12_readsNumber_75 : decode cX12_readsNumber 75 = .ok (.ldc2_w 91, 3) := by decide +kernel
theorem dX12_readsNumber_78 : decode cX12_readsNumber 78 = .ok (.lsub, 1) := by decide +kernel
theorem dX12_readsNumber_79 : decode cX12_readsNumber 79 = .ok (.lstore_n 1, 1) := by decide +kernel
theorem dX12_readsNumber_80 : decode cX12_readsNumber 80 = .ok (.aload_n 0, 1) := by decide +kernel
theorem dX12_readsNumber_81 : decode cX12_readsNumber 81 = .ok (.dup, 1) := by decide +kernel
theorem dX12_readsNumber_82 : decode cX12_readsNumber 82 = .ok (.getfield 80, 3) := by decide +kernel
theorem dX12_readsNumber_85 : decode cX12_readsNumber 85 = .ok (.iconst 1, 1) := by decide +kernel
theorem dX12_readsNumber_86 : decode cX12_readsNumber 86 = .ok (.iadd, 1) := by decide +kernel
theorem dX12_readsNumber_87 : decode cX12_readsNumber 87 = .ok (.putfield 80, 3) := by decide +kernel
theorem dX12_readsNumber_90 : decode cX12_readsNumber 90 = .ok (.goto (-63), 3) := by decide +kernel
theorem dX12_readsNumber_93 : decode cX12_readsNumber 93 = .ok (.aload_n 0, 1) := by decide +kernel
theorem dX12_readsNumber_94 : decode cX12_readsNumber 94 = .ok (.lload_n 1, 1) := by decide +kernel
theorem dX12_readsNumber_95 : decode cX12_readsNumber 95 = .ok (.l2i, 1) := by decide +kernel
theorem dX12_readsNumber_96 : decode cX12_readsNumber 96 = .ok (.putfield 114, 3) := by decide +kernel
theorem dX12_readsNumber_99 : decode cX12_readsNumber 99 = .ok (.iconst 1, 1) := by decide +kernel
theorem dX12_readsNumber_100 : decode cX12_readsNumber 100 = .ok (.ireturn, 1) := by decide +kernel
theorem dX12_readsLevels_0 : decode cX12_readsLevels 0 = .ok (.aload_n 0, 1) := by decide +kernel
theorem dX12_readsLevels_1 : decode cX12_readsLevels 1 = .ok (.invokevirtual 117, 3) := by decide +kernel
theorem dX12_readsLevels_4 : decode cX12_readsLevels 4 = .ok (.aload_n 0, 1) := by decide +kernel
theorem dX12_readsLevels_5 : decode cX12_readsLevels 5 = .ok (.invokevirtual 99, 3) := by decide +kernel
theorem dX12_readsLevels_8 : decode cX12_readsLevels 8 = .ok (.ifCond .eq 86, 3) := by decide +kernel
theorem dX12_readsLevels_11 : decode cX12_readsLevels 11 = .ok (.aload_n 0, 1) := by decide +kernel
theorem dX12_readsLevels_12 : decode cX12_readsLevels 12 = .ok (.invokevirtual 120, 3) := by decide +kernel
theorem dX12_readsLevels_15 : decode cX12_readsLevels 15 = .ok (.istore_n 1, 1) := by decide +kernel
theorem dX12_readsLevels_16 : decode cX12_readsLevels 16 = .ok (.aload_n 0, 1) := by decide +kernel
theorem dX12_readsLevels_17 : decode cX12_readsLevels 17 = .ok (.getfield 114, 3) := by decide +kernel
theorem dX12_readsLevels_20 : decode cX12_readsLevels 20 = .ok (.i2l, 1) := by decide +kernel
theorem dX12_readsLevels_21 : decode cX12_readsLevels 21 = .ok (.ldc2_w 123, 3) := by decide +kernel
theorem dX12_readsLevels_24 : decode cX12_readsLevels 24 = .ok (.ldc2_w 125, 3) := by decide +kernel
theorem dX12_readsLevels_27 : decode cX12_readsLevels 27 = .ok (.invokestatic 73, 3) := by decide +kernel
theorem dX12_readsLevels_30 : decode cX12_readsLevels 30 = .ok (.ifCond .ne 13, 3) := by decide +kernel
theorem dX12_readsLevels_33 : decode cX12_readsLevels 33 = .ok (.aload_n 0, 1) := by decide +kernel
theorem dX12_readsLevels_34 : decode cX12_readsLevels 34 = .ok (.iconst 2, 1) := by decide +kernel
theorem dX12_readsLevels_35 : decode cX12_readsLevels 35 = .ok (.aload_n 0, 1) := by decide +kernel
theorem dX12_readsLevels_36 : decode cX12_readsLevels 36 = .ok (.getfield 107, 3) := by decide +kernel
theorem dX12_readsLevels_39 : decode cX12_readsLevels 39 = .ok (.invokevirtual 103, 3) := by decide +kernel
theorem dX12_readsLevels_42 : decode cX12_readsLevels 42 = .ok (.ireturn, 1) := by decide +kernel
theorem dX12_readsLevels_43 : decode cX12_readsLevels 43 = .ok (.aload_n 0, 1) := by decide +kernel
theorem dX12_readsLevels_44 : decode cX12_readsLevels 44 = .ok (.getfield 20, 3) := by decide +kernel
theorem dX12_readsLevels_47 : decode cX12_readsLevels 47 = .ok (.iconst 0, 1) := by decide +kernel
theorem dX12_readsLevels_48 : decode cX12_readsLevels 48 = .ok (.iaload, 1) := by decide +kernel
theorem dX12_readsLevels_49 : decode cX12_readsLevels 49 = .ok (.bipush 8, 2) := by decide +kernel
theorem dX12_readsLevels_51 : decode cX12_readsLevels 51 = .ok (.if_icmp .ne 13, 3) := by decide +kernel
theorem dX12_readsLevels_54 : decode cX12_readsLevels 54 = .ok (.aload_n 0, 1) := by decide +kernel
theorem dX12_readsLevels_55 : decode cX12_readsLevels 55 = .ok (.iconst 3, 1) := by decide +kernel
theorem dX12_readsLevels_56 : decode cX12_readsLevels 56 = .ok (.aload_n 0, 1) := by decide +kernel
theorem dX12_readsLevels_57 : decode cX12_readsLevels 57 = .ok (.getfield 107, 3) := by decide +kernel
theorem dX12_readsLevels_60 : decode cX12_readsLevels 60 = .ok (.invokevirtual 103, 3) := by decide +kernel
theorem dX12_readsLevels_63 : decode cX12_readsLevels 63 = .ok (.ireturn, 1) := by decide +kernel
theorem dX12_readsLevels_64 : decode cX12_readsLevels 64 = .ok (.aload_n 0, 1) := by decide +kernel
theorem dX12_readsLevels_65 : decode cX12_readsLevels 65 = .ok (.getfield 20, 3) := by decide +kernel
theorem dX12_readsLevels_68 : decode cX12_readsLevels 68 = .ok (.iconst 5, 1) := by decide +kernel
theorem dX12_readsLevels_69 : decode cX12_readsLevels 69 = .ok (.aload_n 0, 1) := by decide +kernel
theorem dX12_readsLevels_70 : decode cX12_readsLevels 70 = .ok (.getfield 20, 3) := by decide +kernel
theorem dX12_readsLevels_73 : decode cX12_readsLevels 73 = .ok (.iconst 0, 1) := by decide +kernel
theorem dX12_readsLevels_74 : decode cX12_readsLevels 74 = .ok (.iaload, 1) := by decide +kernel
theorem dX12_readsLevels_75 : decode cX12_readsLevels 75 = .ok (.iadd, 1) := by decide +kernel
theorem dX12_readsLevels_76 : decode cX12_readsLevels 76 = .ok (.aload_n 0, 1) := by decide +kernel
theorem dX12_readsLevels_77 : decode cX12_readsLevels 77 = .ok (.getfield 114, 3) := by decide +kernel
theorem dX12_readsLevels_80 : decode cX12_readsLevels 80 = .ok (.iastore, 1) := by decide +kernel
theorem dX12_readsLevels_81 : decode cX12_readsLevels 81 = .ok (.aload_n 0, 1) := by decide +kernel
theorem dX12_readsLevels_82 : decode cX12_readsLevels 82 = .ok (.getfield 20, 3) := by decide +kernel
theorem dX12_readsLevels_85 : decode cX12_readsLevels 85 = .ok (.iconst 0, 1) := by decide +kernel
theorem dX12_readsLevels_86 : decode cX12_readsLevels 86 = .ok (.dup2, 1) := by decide +kernel
theorem dX12_readsLevels_87 : decode cX12_readsLevels 87 = .ok (.iaload, 1) := by decide +kernel
theorem dX12_readsLevels_88 : decode cX12_readsLevels 88 = .ok (.iconst 1, 1) := by decide +kernel
theorem dX12_readsLevels_89 : decode cX12_readsLevels 89 = .ok (.iadd, 1) := by decide +kernel
theorem dX12_readsLevels_90 : decode cX12_readsLevels 90 = .ok (.iastore, 1) := by decide +kernel
theorem dX12_readsLevels_91 : decode cX12_readsLevels 91 = .ok (.goto (-87), 3) := by decide +kernel
theorem dX12_readsLevels_94 : decode cX12_readsLevels 94 = .ok (.aload_n 0, 1) := by decide +kernel
theorem dX12_readsLevels_95 : decode cX12_readsLevels 95 = .ok (.getfield 20, 3) := by decide +kernel
theorem dX12_readsLevels_98 : decode cX12_readsLevels 98 = .ok (.iconst 0, 1) := by decide +kernel
theorem dX12_readsLevels_99 : decode cX12_readsLevels 99 = .ok (.iaload, 1) := by decide +kernel
theorem dX12_readsLevels_100 : decode cX12_readsLevels 100 = .ok (.iconst 1, 1) := by decide +kernel
theorem dX12_readsLevels_101 : decode cX12_readsLevels 101 = .ok (.if_icmp .gt 15, 3) := by decide +kernel
theorem dX12_readsLevels_104 : decode cX12_readsLevels 104 = .ok (.aload_n 0, 1) := by decide +kernel
theorem dX12_readsLevels_105 : decode cX12_readsLevels 105 = .ok (.iconst 1, 1) := by decide +kernel
theorem dX12_readsLevels_106 : decode cX12_readsLevels 106 = .ok (.aload_n 0, 1) := by decide +kernel
theorem dX12_readsLevels_107 : decode cX12_readsLevels 107 = .ok (.getfield 80, 3) := by decide +kernel
theorem dX12_readsLevels_110 : decode cX12_readsLevels 110 = .ok (.invokevirtual 103, 3) := by decide +kernel
theorem dX12_readsLevels_113 : decode cX12_readsLevels 113 = .ok (.ifCond .eq 7, 3) := by decide +kernel
theorem dX12_readsLevels_116 : decode cX12_readsLevels 116 = .ok (.iconst 1, 1) := by decide +kernel
theorem dX12_readsLevels_117 : decode cX12_readsLevels 117 = .ok (.goto 4, 3) := by decide +kernel
theorem dX12_readsLevels_120 : decode cX12_readsLevels 120 = .ok (.iconst 0, 1) := by decide +kernel
theorem dX12_readsLevels_121 : decode cX12_readsLevels 121 = .ok (.ireturn, 1) := by decide +kernel
theorem dX12_readsStrength_0 : decode cX12_readsStrength 0 = .ok (.aload_n 0, 1) := by decide +kernel
theorem dX12_readsStrength_1 : decode cX12_readsStrength 1 = .ok (.getfield 127, 3) := by decide +kernel
theorem dX12_readsStrength_4 : decode cX12_readsStrength 4 = .ok (.ifCond .eq 13, 3) := by decide +kernel
theorem dX12_readsStrength_7 : decode cX12_readsStrength 7 = .ok (.aload_n 0, 1) := by decide +kernel
theorem dX12_readsStrength_8 : decode cX12_readsStrength 8 = .ok (.iconst 3, 1) := by decide +kernel
theorem dX12_readsStrength_9 : decode cX12_readsStrength 9 = .ok (.aload_n 0, 1) := by decide +kernel
theorem dX12_readsStrength_10 : decode cX12_readsStrength 10 = .ok (.getfield 80, 3) := by decide +kernel
theorem dX12_readsStrength_13 : decode cX12_readsStrength 13 = .ok (.invokevirtual 103, 3) := by decide +kernel
theorem dX12_readsStrength_16 : decode cX12_readsStrength 16 = .ok (.ireturn, 1) := by decide +kernel
theorem dX12_readsStrength_17 : decode cX12_readsStrength 17 = .ok (.aload_n 0, 1) := by decide +kernel
theorem dX12_readsStrength_18 : decode cX12_readsStrength 18 = .ok (.iconst 1, 1) := by decide +kernel
theorem dX12_readsStrength_19 : decode cX12_readsStrength 19 = .ok (.putfield 127, 3) := by decide +kernel
theorem dX12_readsStrength_22 : decode cX12_readsStrength 22 = .ok (.aload_n 0, 1) := by decide +kernel
theorem dX12_readsStrength_23 : decode cX12_readsStrength 23 = .ok (.invokevirtual 117, 3) := by decide +kernel
theorem dX12_readsStrength_26 : decode cX12_readsStrength 26 = .ok (.aload_n 0, 1) := by decide +kernel
theorem dX12_readsStrength_27 : decode cX12_readsStrength 27 = .ok (.invokevirtual 120, 3) := by decide +kernel
theorem dX12_readsStrength_30 : decode cX12_readsStrength 30 = .ok (.ifCond .ne 5, 3) := by decide +kernel
theorem dX12_readsStrength_33 : decode cX12_readsStrength 33 = .ok (.iconst 0, 1) := by decide +kernel
theorem dX12_readsStrength_34 : decode cX12_readsStrength 34 = .ok (.ireturn, 1) := by decide +kernel
theorem dX12_readsStrength_35 : decode cX12_readsStrength 35 = .ok (.aload_n 0, 1) := by decide +kernel
theorem dX12_readsStrength_36 : decode cX12_readsStrength 36 = .ok (.getfield 114, 3) := by decide +kernel
theorem dX12_readsStrength_39 : decode cX12_readsStrength 39 = .ok (.i2l, 1) := by decide +kernel
theorem dX12_readsStrength_40 : decode cX12_readsStrength 40 = .ok (.lconst 1, 1) := by decide +kernel
theorem dX12_readsStrength_41 : decode cX12_readsStrength 41 = .ok (.aload_n 0, 1) := by decide +kernel
theorem dX12_readsStrength_42 : decode cX12_readsStrength 42 = .ok (.getfield 20, 3) := by decide +kernel
theorem dX12_readsStrength_45 : decode cX12_readsStrength 45 = .ok (.iconst 0, 1) := by decide +kernel
theorem dX12_readsStrength_46 : decode cX12_readsStrength 46 = .ok (.iaload, 1) := by decide +kernel
theorem dX12_readsStrength_47 : decode cX12_readsStrength 47 = .ok (.iconst 3, 1) := by decide +kernel
theorem dX12_readsStrength_48 : decode cX12_readsStrength 48 = .ok (.if_icmp .ge 13, 3) := by decide +kernel
theorem dX12_readsStrength_51 : decode cX12_readsStrength 51 = .ok (.aload_n 0, 1) := by decide +kernel
theorem dX12_readsStrength_52 : decode cX12_readsStrength 52 = .ok (.getfield 20, 3) := by decide +kernel
theorem dX12_readsStrength_55 : decode cX12_readsStrength 55 = .ok (.iconst 0, 1) := by decide +kernel
theorem dX12_readsStrength_56 : decode cX12_readsStrength 56 = .ok (.iaload, 1) := by decide +kernel
theorem dX12_readsStrength_57 : decode cX12_readsStrength 57 = .ok (.i2l, 1) := by decide +kernel
theorem dX12_readsStrength_58 : decode cX12_readsStrength 58 = .ok (.goto 6, 3) := by decide +kernel
theorem dX12_readsStrength_61 : decode cX12_readsStrength 61 = .ok (.ldc2_w 131, 3) := by decide +kernel
theorem dX12_readsStrength_64 : decode cX12_readsStrength 64 = .ok (.invokestatic 73, 3) := by decide +kernel
theorem dX12_readsStrength_67 : decode cX12_readsStrength 67 = .ok (.ifCond .ne 13, 3) := by decide +kernel
theorem dX12_readsStrength_70 : decode cX12_readsStrength 70 = .ok (.aload_n 0, 1) := by decide +kernel
theorem dX12_readsStrength_71 : decode cX12_readsStrength 71 = .ok (.iconst 2, 1) := by decide +kernel
theorem dX12_readsStrength_72 : decode cX12_readsStrength 72 = .ok (.aload_n 0, 1) := by decide +kernel
theorem dX12_readsStrength_73 : decode cX12_readsStrength 73 = .ok (.getfield 107, 3) := by decide +kernel
theorem dX12_readsStrength_76 : decode cX12_readsStrength 76 = .ok (.invokevirtual 103, 3) := by decide +kernel
theorem dX12_readsStrength_79 : decode cX12_readsStrength 79 = .ok (.ireturn, 1) := by decide +kernel
theorem dX12_readsStrength_80 : decode cX12_readsStrength 80 = .ok (.aload_n 0, 1) := by decide +kernel
theorem dX12_readsStrength_81 : decode cX12_readsStrength 81 = .ok (.getfield 20, 3) := by decide +kernel
theorem dX12_readsStrength_84 : decode cX12_readsStrength 84 = .ok (.iconst 1, 1) := by decide +kernel
theorem dX12_readsStrength_85 : decode cX12_readsStrength 85 = .ok (.aload_n 0, 1) := by decide +kernel
theorem dX12_readsStrength_86 : decode cX12_readsStrength 86 = .ok (.getfield 114, 3) := by decide +kernel
theorem dX12_readsStrength_89 : decode cX12_readsStrength 89 = .ok (.iastore, 1) := by decide +kernel
theorem dX12_readsStrength_90 : decode cX12_readsStrength 90 = .ok (.iconst 1, 1) := by decide +kernel
theorem dX12_readsStrength_91 : decode cX12_readsStrength 91 = .ok (.ireturn, 1) := by decide +kernel
theorem dX12_hasColumn_0 : decode cX12_hasColumn 0 = .ok (.iconst 0, 1) := by decide +kernel
theorem dX12_hasColumn_1 : decode cX12_hasColumn 1 = .ok (.istore 4, 2) := by decide +kernel
theorem dX12_hasColumn_3 : decode cX12_hasColumn 3 = .ok (.iload 4, 2) := by decide +kernel
theorem dX12_hasColumn_5 : decode cX12_hasColumn 5 = .ok (.iload_n 2, 1) := by decide +kernel
theorem dX12_hasColumn_6 : decode cX12_hasColumn 6 = .ok (.if_icmp .ge 28, 3) := by decide +kernel
theorem dX12_hasColumn_9 : decode cX12_hasColumn 9 = .ok (.aload_n 0, 1) := by decide +kernel
theorem dX12_hasColumn_10 : decode cX12_hasColumn 10 = .ok (.getfield 20, 3) := by decide +kernel
theorem dX12_hasColumn_13 : decode cX12_hasColumn 13 = .ok (.iload_n 1, 1) := by decide +kernel
theorem dX12_hasColumn_14 : decode cX12_hasColumn 14 = .ok (.iconst 1, 1) := by decide +kernel
theorem dX12_hasColumn_15 : decode cX12_hasColumn 15 = .ok (.iadd, 1) := by decide +kernel
theorem dX12_hasColumn_16 : decode cX12_hasColumn 16 = .ok (.iconst 2, 1) := by decide +kernel
theorem dX12_hasColumn_17 : decode cX12_hasColumn 17 = .ok (.iload 4, 2) := by decide +kernel
theorem dX12_hasColumn_19 : decode cX12_hasColumn 19 = .ok (.imul, 1) := by decide +kernel
theorem dX12_hasColumn_20 : decode cX12_hasColumn 20 = .ok (.iadd, 1) := by decide +kernel
theorem dX12_hasColumn_21 : decode cX12_hasColumn 21 = .ok (.iaload, 1) := by decide +kernel
theorem dX12_hasColumn_22 : decode cX12_hasColumn 22 = .ok (.iload_n 3, 1) := by decide +kernel
theorem dX12_hasColumn_23 : decode cX12_hasColumn 23 = .ok (.if_icmp .ne 5, 3) := by decide +kernel
theorem dX12_hasColumn_26 : decode cX12_hasColumn 26 = .ok (.iconst 1, 1) := by decide +kernel
theorem dX12_hasColumn_27 : decode cX12_hasColumn 27 = .ok (.ireturn, 1) := by decide +kernel
theorem dX12_hasColumn_28 : decode cX12_hasColumn 28 = .ok (.iinc 4 1, 3) := by decide +kernel
theorem dX12_hasColumn_31 : decode cX12_hasColumn 31 = .ok (.goto (-28), 3) := by decide +kernel
theorem dX12_hasColumn_34 : decode cX12_hasColumn 34 = .ok (.iconst 0, 1) := by decide +kernel
theorem dX12_hasColumn_35 : decode cX12_hasColumn 35 = .ok (.ireturn, 1) := by decide +kernel
theorem dX12_readsNever_0 : decode cX12_readsNever 0 = .ok (.aload_n 0, 1) := by decide +kernel
theorem dX12_readsNever_1 : decode cX12_readsNever 1 = .ok (.getfield 20, 3) := by decide +kernel
theorem dX12_readsNever_4 : decode cX12_readsNever 4 = .ok (.iconst 2, 1) := by decide +kernel
theorem dX12_readsNever_5 : decode cX12_readsNever 5 = .ok (.iaload, 1) := by decide +kernel
theorem dX12_readsNever_6 : decode cX12_readsNever 6 = .ok (.bipush 12, 2) := by decide +kernel
theorem dX12_readsNever_8 : decode cX12_readsNever 8 = .ok (.if_icmp .ne 13, 3) := by decide +kernel
theorem dX12_readsNever_11 : decode cX12_readsNever 11 = .ok (.aload_n 0, 1) := by decide +kernel
theorem dX12_readsNever_12 : decode cX12_readsNever 12 = .ok (.iconst 3, 1) := by decide +kernel
theorem dX12_readsNever_13 : decode cX12_readsNever 13 = .ok (.aload_n 0, 1) := by decide +kernel
theorem dX12_readsNever_14 : decode cX12_readsNever 14 = .ok (.getfield 80, 3) := by decide +kernel
theorem dX12_readsNever_17 : decode cX12_readsNever 17 = .ok (.invokevirtual 103, 3) := by decide +kernel
theorem dX12_readsNever_20 : decode cX12_readsNever 20 = .ok (.ireturn, 1) := by decide +kernel
theorem dX12_readsNever_21 : decode cX12_readsNever 21 = .ok (.aload_n 0, 1) := by decide +kernel
theorem dX12_readsNever_22 : decode cX12_readsNever 22 = .ok (.invokevirtual 117, 3) := by decide +kernel
theorem dX12_readsNever_25 : decode cX12_readsNever 25 = .ok (.bipush 13, 2) := by decide +kernel
theorem dX12_readsNever_27 : decode cX12_readsNever 27 = .ok (.bipush 7, 2) := by decide +kernel
theorem dX12_readsNever_29 : decode cX12_readsNever 29 = .ok (.aload_n 0, 1) := by decide +kernel
theorem dX12_readsNever_30 : decode cX12_readsNever 30 = .ok (.getfield 20, 3) := by decide +kernel
theorem dX12_readsNever_33 : decode cX12_readsNever 33 = .ok (.iconst 2, 1) := by decide +kernel
theorem dX12_readsNever_34 : decode cX12_readsNever 34 = .ok (.iaload, 1) := by decide +kernel
theorem dX12_readsNever_35 : decode cX12_readsNever 35 = .ok (.imul, 1) := by decide +kernel
theorem dX12_readsNever_36 : decode cX12_readsNever 36 = .ok (.iadd, 1) := by decide +kernel
theorem dX12_readsNever_37 : decode cX12_readsNever 37 = .ok (.istore_n 1, 1) := by decide +kernel
theorem dX12_readsNever_38 : decode cX12_readsNever 38 = .ok (.iconst 0, 1) := by decide +kernel
theorem dX12_readsNever_39 : decode cX12_readsNever 39 = .ok (.istore_n 2, 1) := by decide +kernel
theorem dX12_readsNever_40 : decode cX12_readsNever 40 = .ok (.iconst 1, 1) := by decide +kernel
theorem dX12_readsNever_41 : decode cX12_readsNever 41 = .ok (.istore_n 3, 1) := by decide +kernel
theorem dX12_readsNever_42 : decode cX12_readsNever 42 = .ok (.iload_n 3, 1) := by decide +kernel
theorem dX12_readsNever_43 : decode cX12_readsNever 43 = .ok (.ifCond .eq 206, 3) := by decide +kernel
theorem dX12_readsNever_46 : decode cX12_readsNever 46 = .ok (.aload_n 0, 1) := by decide +kernel
theorem dX12_readsNever_47 : decode cX12_readsNever 47 = .ok (.invokevirtual 120, 3) := by decide +kernel
theorem dX12_readsNever_50 : decode cX12_readsNever 50 = .ok (.ifCond .ne 5, 3) := by decide +kernel
theorem dX12_readsNever_53 : decode cX12_readsNever 53 = .ok (.iconst 0, 1) := by decide +kernel
theorem dX12_readsNever_54 : decode cX12_readsNever 54 = .ok (.ireturn, 1) := by decide +kernel
theorem dX12_readsNever_55 : decode cX12_readsNever 55 = .ok (.aload_n 0, 1) := by decide +kernel
theorem dX12_readsNever_56 : decode cX12_readsNever 56 = .ok (.getfield 114, 3) := by decide +kernel
theorem dX12_readsNever_59 : decode cX12_readsNever 59 = .ok (.i2l, 1) := by decide +kernel
theorem dX12_readsNever_60 : decode cX12_readsNever 60 = .ok (.lconst 0, 1) := by decide +kernel
theorem dX12_readsNever_61 : decode cX12_readsNever 61 = .ok (.aload_n 0, 1) := by decide +kernel
theorem dX12_readsNever_62 : decode cX12_readsNever 62 = .ok (.getfield 20, 3) := by decide +kernel
theorem dX12_readsNever_65 : decode cX12_readsNever 65 = .ok (.iconst 0, 1) := by decide +kernel
theorem dX12_readsNever_66 : decode cX12_readsNever 66 = .ok (.iaload, 1) := by decide +kernel
theorem dX12_readsNever_67 : decode cX12_readsNever 67 = .ok (.iconst 1, 1) := by decide +kernel
theorem dX12_readsNever_68 : decode cX12_readsNever 68 = .ok (.isub, 1) := by decide +kernel
theorem dX12_readsNever_69 : decode cX12_readsNever 69 = .ok (.i2l, 1) := by decide +kernel
theorem dX12_readsNever_70 : decode cX12_readsNever 70 = .ok (.invokestatic 73, 3) := by decide +kernel
theorem dX12_readsNever_73 : decode cX12_readsNever 73 = .ok (.ifCond .eq 16, 3) := by decide +kernel
theorem dX12_readsNever_76 : decode cX12_readsNever 76 = .ok (.aload_n 0, 1) := by decide +kernel
theorem dX12_readsNever_77 : decode cX12_readsNever 77 = .ok (.iload_n 1, 1) := by decide +kernel
theorem dX12_readsNever_78 : decode cX12_readsNever 78 = .ok (.iload_n 2, 1) := by decide +kernel
theorem dX12_readsNever_79 : decode cX12_readsNever 79 = .ok (.aload_n 0, 1) := by decide +kernel
theorem dX12_readsNever_80 : decode cX12_readsNever 80 = .ok (.getfield 114, 3) := by decide +kernel
theorem dX12_readsNever_83 : decode cX12_readsNever 83 = .ok (.invokevirtual 133, 3) := by decide +kernel
theorem dX12_readsNever_86 : decode cX12_readsNever 86 = .ok (.ifCond .eq 13, 3) := by decide +kernel
theorem dX12_readsNever_89 : decode cX12_readsNever 89 = .ok (.aload_n 0, 1) := by decide +kernel
theorem dX12_readsNever_90 : decode cX12_readsNever 90 = .ok (.iconst 2, 1) := by decide +kernel
theorem dX12_readsNever_91 : decode cX12_readsNever 91 = .ok (.aload_n 0, 1) := by decide +kernel
theorem dX12_readsNever_92 : decode cX12_readsNever 92 = .ok (.getfield 107, 3) := by decide +kernel
theorem dX12_readsNever_95 : decode cX12_readsNever 95 = .ok (.invokevirtual 103, 3) := by decide +kernel
theorem dX12_readsNever_98 : decode cX12_readsNever 98 = .ok (.ireturn, 1) := by decide +kernel
theorem dX12_readsNever_99 : decode cX12_readsNever 99 = .ok (.iload_n 2, 1) := by decide +kernel
theorem dX12_readsNever_100 : decode cX12_readsNever 100 = .ok (.iconst 3, 1) := by decide +kernel
theorem dX12_readsNever_101 : decode cX12_readsNever 101 = .ok (.if_icmp .ne 13, 3) := by decide +kernel
theorem dX12_readsNever_104 : decode cX12_readsNever 104 = .ok (.aload_n 0, 1) := by decide +kernel
theorem dX12_readsNever_105 : decode cX12_readsNever 105 = .ok (.iconst 3, 1) := by decide +kernel
theorem dX12_readsNever_106 : decode cX12_readsNever 106 = .ok (.aload_n 0, 1) := by decide +kernel
theorem dX12_readsNever_107 : decode cX12_readsNever 107 = .ok (.getfield 107, 3) := by decide +kernel
theorem dX12_readsNever_110 : decode cX12_readsNever 110 = .ok (.invokevirtual 103, 3) := by decide +kernel
theorem dX12_readsNever_113 : decode cX12_readsNever 113 = .ok (.ireturn, 1) := by decide +kernel
theorem dX12_readsNever_114 : decode cX12_readsNever 114 = .ok (.aload_n 0, 1) := by decide +kernel
theorem dX12_readsNever_115 : decode cX12_readsNever 115 = .ok (.getfield 114, 3) := by decide +kernel
theorem dX12_readsNever_118 : decode cX12_readsNever 118 = .ok (.istore 4, 2) := by decide +kernel
theorem dX12_readsNever_120 : decode cX12_readsNever 120 = .ok (.aload_n 0, 1) := by decide +kernel
theorem dX12_readsNever_121 : decode cX12_readsNever 121 = .ok (.invokevirtual 87, 3) := by decide +kernel
theorem dX12_readsNever_124 : decode cX12_readsNever 124 = .ok (.bipush 46, 2) := by decide +kernel
theorem dX12_readsNever_126 : decode cX12_readsNever 126 = .ok (.if_icmp .eq 13, 3) := by decide +kernel
theorem dX12_readsNever_129 : decode cX12_readsNever 129 = .ok (.aload_n 0, 1) := by decide +kernel
theorem dX12_readsNever_130 : decode cX12_readsNever 130 = .ok (.iconst 1, 1) := by decide +kernel
theorem dX12_readsNever_131 : decode cX12_readsNever 131 = .ok (.aload_n 0, 1) := by decide +kernel
theorem dX12_readsNever_132 : decode cX12_readsNever 132 = .ok (.getfield 80, 3) := by decide +kernel
theorem dX12_readsNever_135 : decode cX12_readsNever 135 = .ok (.invokevirtual 103, 3) := by decide +kernel
theorem dX12_readsNever_138 : decode cX12_readsNever 138 = .ok (.ireturn, 1) := by decide +kernel
theorem dX12_readsNever_139 : decode cX12_readsNever 139 = .ok (.aload_n 0, 1) := by decide +kernel
theorem dX12_readsNever_140 : decode cX12_readsNever 140 = .ok (.dup, 1) := by decide +kernel
theorem dX12_readsNever_141 : decode cX12_readsNever 141 = .ok (.getfield 80, 3) := by decide +kernel
theorem dX12_readsNever_144 : decode cX12_readsNever 144 = .ok (.iconst 1, 1) := by decide +kernel
theorem dX12_readsNever_145 : decode cX12_readsNever 145 = .ok (.iadd, 1) := by decide +kernel
theorem dX12_readsNever_146 : decode cX12_readsNever 146 = .ok (.putfield 80, 3) := by decide +kernel
theorem dX12_readsNever_149 : decode cX12_readsNever 149 = .ok (.aload_n 0, 1) := by decide +kernel
theorem dX12_readsNever_150 : decode cX12_readsNever 150 = .ok (.invokevirtual 120, 3) := by decide +kernel
theorem dX12_readsNever_153 : decode cX12_readsNever 153 = .ok (.ifCond .ne 5, 3) := by decide +kernel
theorem dX12_readsNever_156 : decode cX12_readsNever 156 = .ok (.iconst 0, 1) := by decide +kernel
theorem dX12_readsNever_157 : decode cX12_readsNever 157 = .ok (.ireturn, 1) := by decide +kernel
theorem dX12_readsNever_158 : decode cX12_readsNever 158 = .ok (.aload_n 0, 1) := by decide +kernel
theorem dX12_readsNever_159 : decode cX12_readsNever 159 = .ok (.getfield 114, 3) := by decide +kernel
theorem dX12_readsNever_162 : decode cX12_readsNever 162 = .ok (.aload_n 0, 1) := by decide +kernel
theorem dX12_readsNever_163 : decode cX12_readsNever 163 = .ok (.getfield 20, 3) := by decide +kernel
theorem dX12_readsNever_166 : decode cX12_readsNever 166 = .ok (.iconst 5, 1) := by decide +kernel
theorem dX12_readsNever_167 : decode cX12_readsNever 167 = .ok (.iload 4, 2) := by decide +kernel
theorem dX12_readsNever_169 : decode cX12_readsNever 169 = .ok (.iadd, 1) := by decide +kernel
theorem dX12_readsNever_170 : decode cX12_readsNever 170 = .ok (.iaload, 1) := by decide +kernel
theorem dX12_readsNever_171 : decode cX12_readsNever 171 = .ok (.if_icmp .lt 13, 3) := by decide +kernel
theorem dX12_readsNever_174 : decode cX12_readsNever 174 = .ok (.aload_n 0, 1) := by decide +kernel
theorem dX12_readsNever_175 : decode cX12_readsNever 175 = .ok (.iconst 2, 1) := by decide +kernel
theorem dX12_readsNever_176 : decode cX12_readsNever 176 = .ok (.aload_n 0, 1) := by decide +kernel
theorem dX12_readsNever_177 : decode cX12_readsNever 177 = .ok (.getfield 107, 3) := by decide +kernel
theorem dX12_readsNever_180 : decode cX12_readsNever 180 = .ok (.invokevirtual 103, 3) := by decide +kernel
theorem dX12_readsNever_183 : decode cX12_readsNever 183 = .ok (.ireturn, 1) := by decide +kernel
theorem dX12_readsNever_184 : decode cX12_readsNever 184 = .ok (.aload_n 0, 1) := by decide +kernel
theorem dX12_readsNever_185 : decode cX12_readsNever 185 = .ok (.getfield 20, 3) := by decide +kernel
theorem dX12_readsNever_188 : decode cX12_readsNever 188 = .ok (.iload_n 1, 1) := by decide +kernel
theorem dX12_readsNever_189 : decode cX12_readsNever 189 = .ok (.iconst 1, 1) := by decide +kernel
theorem dX12_readsNever_190 : decode cX12_readsNever 190 = .ok (.iadd, 1) := by decide +kernel
theorem dX12_readsNever_191 : decode cX12_readsNever 191 = .ok (.iconst 2, 1) := by decide +kernel
theorem dX12_readsNever_192 : decode cX12_readsNever 192 = .ok (.iload_n 2, 1) := by decide +kernel
theorem dX12_readsNever_193 : decode cX12_readsNever 193 = .ok (.imul, 1) := by decide +kernel
theorem dX12_readsNever_194 : decode cX12_readsNever 194 = .ok (.iadd, 1) := by decide +kernel
theorem dX12_readsNever_195 : decode cX12_readsNever 195 = .ok (.iload 4, 2) := by decide +kernel
theorem dX12_readsNever_197 : decode cX12_readsNever 197 = .ok (.iastore, 1) := by decide +kernel
theorem dX12_readsNever_198 : decode cX12_readsNever 198 = .ok (.aload_n 0, 1) := by decide +kernel
theorem dX12_readsNever_199 : decode cX12_readsNever 199 = .ok (.getfield 20, 3) := by decide +kernel
theorem dX12_readsNever_202 : decode cX12_readsNever 202 = .ok (.iload_n 1, 1) := by decide +kernel
theorem dX12_readsNever_203 : decode cX12_readsNever 203 = .ok (.iconst 2, 1) := by decide +kernel
theorem dX12_readsNever_204 : decode cX12_readsNever 204 = .ok (.iadd, 1) := by decide +kernel
theorem dX12_readsNever_205 : decode cX12_readsNever 205 = .ok (.iconst 2, 1) := by decide +kernel
theorem dX12_readsNever_206 : decode cX12_readsNever 206 = .ok (.iload_n 2, 1) := by decide +kernel
theorem dX12_readsNever_207 : decode cX12_readsNever 207 = .ok (.imul, 1) := by decide +kernel
theorem dX12_readsNever_208 : decode cX12_readsNever 208 = .ok (.iadd, 1) := by decide +kernel
theorem dX12_readsNever_209 : decode cX12_readsNever 209 = .ok (.aload_n 0, 1) := by decide +kernel
theorem dX12_readsNever_210 : decode cX12_readsNever 210 = .ok (.getfield 114, 3) := by decide +kernel
theorem dX12_readsNever_213 : decode cX12_readsNever 213 = .ok (.iastore, 1) := by decide +kernel
theorem dX12_readsNever_214 : decode cX12_readsNever 214 = .ok (.iinc 2 1, 3) := by decide +kernel
theorem dX12_readsNever_217 : decode cX12_readsNever 217 = .ok (.aload_n 0, 1) := by decide +kernel
theorem dX12_readsNever_218 : decode cX12_readsNever 218 = .ok (.invokevirtual 87, 3) := by decide +kernel
theorem dX12_readsNever_221 : decode cX12_readsNever 221 = .ok (.bipush 38, 2) := by decide +kernel
theorem dX12_readsNever_223 : decode cX12_readsNever 223 = .ok (.if_icmp .ne 7, 3) := by decide +kernel
theorem dX12_readsNever_226 : decode cX12_readsNever 226 = .ok (.iconst 1, 1) := by decide +kernel
theorem dX12_readsNever_227 : decode cX12_readsNever 227 = .ok (.goto 4, 3) := by decide +kernel
theorem dX12_readsNever_230 : decode cX12_readsNever 230 = .ok (.iconst 0, 1) := by decide +kernel
theorem dX12_readsNever_231 : decode cX12_readsNever 231 = .ok (.istore_n 3, 1) := by decide +kernel
theorem dX12_readsNever_232 : decode cX12_readsNever 232 = .ok (.iload_n 3, 1) := by decide +kernel
theorem dX12_readsNever_233 : decode cX12_readsNever 233 = .ok (.ifCond .eq 13, 3) := by decide +kernel
theorem dX12_readsNever_236 : decode cX12_readsNever 236 = .ok (.aload_n 0, 1) := by decide +kernel
theorem dX12_readsNever_237 : decode cX12_readsNever 237 = .ok (.dup, 1) := by decide +kernel
theorem dX12_readsNever_238 : decode cX12_readsNever 238 = .ok (.getfield 80, 3) := by decide +kernel
theorem dX12_readsNever_241 : decode cX12_readsNever 241 = .ok (.iconst 1, 1) := by decide +kernel
theorem dX12_readsNever_242 : decode cX12_readsNever 242 = .ok (.iadd, 1) := by decide +kernel
theorem dX12_readsNever_243 : decode cX12_readsNever 243 = .ok (.putfield 80, 3) := by decide +kernel
theorem dX12_readsNever_246 : decode cX12_readsNever 246 = .ok (.goto (-204), 3) := by decide +kernel
theorem dX12_readsNever_249 : decode cX12_readsNever 249 = .ok (.aload_n 0, 1) := by decide +kernel
theorem dX12_readsNever_250 : decode cX12_readsNever 250 = .ok (.getfield 20, 3) := by decide +kernel
theorem dX12_readsNever_253 : decode cX12_readsNever 253 = .ok (.iload_n 1, 1) := by decide +kernel
theorem dX12_readsNever_254 : decode cX12_readsNever 254 = .ok (.iload_n 2, 1) := by decide +kernel
theorem dX12_readsNever_255 : decode cX12_readsNever 255 = .ok (.iastore, 1) := by decide +kernel
theorem dX12_readsNever_256 : decode cX12_readsNever 256 = .ok (.aload_n 0, 1) := by decide +kernel
theorem dX12_readsNever_257 : decode cX12_readsNever 257 = .ok (.getfield 20, 3) := by decide +kernel
theorem dX12_readsNever_260 : decode cX12_readsNever 260 = .ok (.iconst 2, 1) := by decide +kernel
theorem dX12_readsNever_261 : decode cX12_readsNever 261 = .ok (.dup2, 1) := by decide +kernel
theorem dX12_readsNever_262 : decode cX12_readsNever 262 = .ok (.iaload, 1) := by decide +kernel
theorem dX12_readsNever_263 : decode cX12_readsNever 263 = .ok (.iconst 1, 1) := by decide +kernel
theorem dX12_readsNever_264 : decode cX12_readsNever 264 = .ok (.iadd, 1) := by decide +kernel
theorem dX12_readsNever_265 : decode cX12_readsNever 265 = .ok (.iastore, 1) := by decide +kernel
theorem dX12_readsNever_266 : decode cX12_readsNever 266 = .ok (.iconst 1, 1) := by decide +kernel
theorem dX12_readsNever_267 : decode cX12_readsNever 267 = .ok (.ireturn, 1) := by decide +kernel
theorem dX12_readsAll_0 : decode cX12_readsAll 0 = .ok (.aload_n 0, 1) := by decide +kernel
theorem dX12_readsAll_1 : decode cX12_readsAll 1 = .ok (.iconst 0, 1) := by decide +kernel
theorem dX12_readsAll_2 : decode cX12_readsAll 2 = .ok (.putfield 80, 3) := by decide +kernel
theorem dX12_readsAll_5 : decode cX12_readsAll 5 = .ok (.aload_n 0, 1) := by decide +kernel
theorem dX12_readsAll_6 : decode cX12_readsAll 6 = .ok (.iconst 0, 1) := by decide +kernel
theorem dX12_readsAll_7 : decode cX12_readsAll 7 = .ok (.putfield 127, 3) := by decide +kernel
theorem dX12_readsAll_10 : decode cX12_readsAll 10 = .ok (.iconst 0, 1) := by decide +kernel
theorem dX12_readsAll_11 : decode cX12_readsAll 11 = .ok (.istore_n 1, 1) := by decide +kernel
theorem dX12_readsAll_12 : decode cX12_readsAll 12 = .ok (.iload_n 1, 1) := by decide +kernel
theorem dX12_readsAll_13 : decode cX12_readsAll 13 = .ok (.sipush 673, 3) := by decide +kernel
theorem dX12_readsAll_16 : decode cX12_readsAll 16 = .ok (.if_icmp .ge 16, 3) := by decide +kernel
theorem dX12_readsAll_19 : decode cX12_readsAll 19 = .ok (.aload_n 0, 1) := by decide +kernel
theorem dX12_readsAll_20 : decode cX12_readsAll 20 = .ok (.getfield 20, 3) := by decide +kernel
theorem dX12_readsAll_23 : decode cX12_readsAll 23 = .ok (.iload_n 1, 1) := by decide +kernel
theorem dX12_readsAll_24 : decode cX12_readsAll 24 = .ok (.iconst 0, 1) := by decide +kernel
theorem dX12_readsAll_25 : decode cX12_readsAll 25 = .ok (.iastore, 1) := by decide +kernel
theorem dX12_readsAll_26 : decode cX12_readsAll 26 = .ok (.iinc 1 1, 3) := by decide +kernel
theorem dX12_readsAll_29 : decode cX12_readsAll 29 = .ok (.goto (-17), 3) := by decide +kernel
theorem dX12_readsAll_32 : decode cX12_readsAll 32 = .ok (.aload_n 0, 1) := by decide +kernel
theorem dX12_readsAll_33 : decode cX12_readsAll 33 = .ok (.getfield 20, 3) := by decide +kernel
theorem dX12_readsAll_36 : decode cX12_readsAll 36 = .ok (.iconst 1, 1) := by decide +kernel
theorem dX12_readsAll_37 : decode cX12_readsAll 37 = .ok (.iconst 2, 1) := by decide +kernel
theorem dX12_readsAll_38 : decode cX12_readsAll 38 = .ok (.iastore, 1) := by decide +kernel
theorem dX12_readsAll_39 : decode cX12_readsAll 39 = .ok (.aload_n 0, 1) := by decide +kernel
theorem dX12_readsAll_40 : decode cX12_readsAll 40 = .ok (.invokevirtual 137, 3) := by decide +kernel
theorem dX12_readsAll_43 : decode cX12_readsAll 43 = .ok (.ifCond .eq 13, 3) := by decide +kernel
theorem dX12_readsAll_46 : decode cX12_readsAll 46 = .ok (.aload_n 0, 1) := by decide +kernel
theorem dX12_readsAll_47 : decode cX12_readsAll 47 = .ok (.iconst 1, 1) := by decide +kernel
theorem dX12_readsAll_48 : decode cX12_readsAll 48 = .ok (.aload_n 0, 1) := by decide +kernel
theorem dX12_readsAll_49 : decode cX12_readsAll 49 = .ok (.getfield 80, 3) := by decide +kernel
theorem dX12_readsAll_52 : decode cX12_readsAll 52 = .ok (.invokevirtual 103, 3) := by decide +kernel
theorem dX12_readsAll_55 : decode cX12_readsAll 55 = .ok (.ireturn, 1) := by decide +kernel
theorem dX12_readsAll_56 : decode cX12_readsAll 56 = .ok (.aload_n 0, 1) := by decide +kernel
theorem dX12_readsAll_57 : decode cX12_readsAll 57 = .ok (.invokevirtual 140, 3) := by decide +kernel
theorem dX12_readsAll_60 : decode cX12_readsAll 60 = .ok (.ifCond .ne 5, 3) := by decide +kernel
theorem dX12_readsAll_63 : decode cX12_readsAll 63 = .ok (.iconst 0, 1) := by decide +kernel
theorem dX12_readsAll_64 : decode cX12_readsAll 64 = .ok (.ireturn, 1) := by decide +kernel
theorem dX12_readsAll_65 : decode cX12_readsAll 65 = .ok (.aload_n 0, 1) := by decide +kernel
theorem dX12_readsAll_66 : decode cX12_readsAll 66 = .ok (.invokevirtual 87, 3) := by decide +kernel
theorem dX12_readsAll_69 : decode cX12_readsAll 69 = .ok (.bipush 59, 2) := by decide +kernel
theorem dX12_readsAll_71 : decode cX12_readsAll 71 = .ok (.if_icmp .ne 60, 3) := by decide +kernel
theorem dX12_readsAll_74 : decode cX12_readsAll 74 = .ok (.aload_n 0, 1) := by decide +kernel
theorem dX12_readsAll_75 : decode cX12_readsAll 75 = .ok (.dup, 1) := by decide +kernel
theorem dX12_readsAll_76 : decode cX12_readsAll 76 = .ok (.getfield 80, 3) := by decide +kernel
theorem dX12_readsAll_79 : decode cX12_readsAll 79 = .ok (.iconst 1, 1) := by decide +kernel
theorem dX12_readsAll_80 : decode cX12_readsAll 80 = .ok (.iadd, 1) := by decide +kernel
theorem dX12_readsAll_81 : decode cX12_readsAll 81 = .ok (.putfield 80, 3) := by decide +kernel
theorem dX12_readsAll_84 : decode cX12_readsAll 84 = .ok (.aload_n 0, 1) := by decide +kernel
theorem dX12_readsAll_85 : decode cX12_readsAll 85 = .ok (.invokevirtual 137, 3) := by decide +kernel
theorem dX12_readsAll_88 : decode cX12_readsAll 88 = .ok (.istore_n 1, 1) := by decide +kernel
theorem dX12_readsAll_89 : decode cX12_readsAll 89 = .ok (.iload_n 1, 1) := by decide +kernel
theorem dX12_readsAll_90 : decode cX12_readsAll 90 = .ok (.iconst 1, 1) := by decide +kernel
theorem dX12_readsAll_91 : decode cX12_readsAll 91 = .ok (.if_icmp .ge 13, 3) := by decide +kernel
theorem dX12_readsAll_94 : decode cX12_readsAll 94 = .ok (.aload_n 0, 1) := by decide +kernel
theorem dX12_readsAll_95 : decode cX12_readsAll 95 = .ok (.iconst 1, 1) := by decide +kernel
theorem dX12_readsAll_96 : decode cX12_readsAll 96 = .ok (.aload_n 0, 1) := by decide +kernel
theorem dX12_readsAll_97 : decode cX12_readsAll 97 = .ok (.getfield 80, 3) := by decide +kernel
theorem dX12_readsAll_100 : decode cX12_readsAll 100 = .ok (.invokevirtual 103, 3) := by decide +kernel
theorem dX12_readsAll_103 : decode cX12_readsAll 103 = .ok (.ireturn, 1) := by decide +kernel
theorem dX12_readsAll_104 : decode cX12_readsAll 104 = .ok (.iload_n 1, 1) := by decide +kernel
theorem dX12_readsAll_105 : decode cX12_readsAll 105 = .ok (.iconst 1, 1) := by decide +kernel
theorem dX12_readsAll_106 : decode cX12_readsAll 106 = .ok (.if_icmp .ne 13, 3) := by decide +kernel
theorem dX12_readsAll_109 : decode cX12_readsAll 109 = .ok (.aload_n 0, 1) := by decide +kernel
theorem dX12_readsAll_110 : decode cX12_readsAll 110 = .ok (.invokevirtual 143, 3) := by decide +kernel
theorem dX12_readsAll_113 : decode cX12_readsAll 113 = .ok (.ifCond .eq 13, 3) := by decide +kernel
theorem dX12_readsAll_116 : decode cX12_readsAll 116 = .ok (.goto 12, 3) := by decide +kernel
theorem dX12_readsAll_119 : decode cX12_readsAll 119 = .ok (.aload_n 0, 1) := by decide +kernel
theorem dX12_readsAll_120 : decode cX12_readsAll 120 = .ok (.invokevirtual 146, 3) := by decide +kernel
theorem dX12_readsAll_123 : decode cX12_readsAll 123 = .ok (.ifCond .ne 5, 3) := by decide +kernel
theorem dX12_readsAll_126 : decode cX12_readsAll 126 = .ok (.iconst 0, 1) := by decide +kernel
theorem dX12_readsAll_127 : decode cX12_readsAll 127 = .ok (.ireturn, 1) := by decide +kernel
theorem dX12_readsAll_128 : decode cX12_readsAll 128 = .ok (.goto (-63), 3) := by decide +kernel
theorem dX12_readsAll_131 : decode cX12_readsAll 131 = .ok (.aload_n 0, 1) := by decide +kernel
theorem dX12_readsAll_132 : decode cX12_readsAll 132 = .ok (.invokevirtual 87, 3) := by decide +kernel
theorem dX12_readsAll_135 : decode cX12_readsAll 135 = .ok (.iconst (-1), 1) := by decide +kernel
theorem dX12_readsAll_136 : decode cX12_readsAll 136 = .ok (.if_icmp .eq 15, 3) := by decide +kernel
theorem dX12_readsAll_139 : decode cX12_readsAll 139 = .ok (.aload_n 0, 1) := by decide +kernel
theorem dX12_readsAll_140 : decode cX12_readsAll 140 = .ok (.iconst 1, 1) := by decide +kernel
theorem dX12_readsAll_141 : decode cX12_readsAll 141 = .ok (.aload_n 0, 1) := by decide +kernel
theorem dX12_readsAll_142 : decode cX12_readsAll 142 = .ok (.getfield 80, 3) := by decide +kernel
theorem dX12_readsAll_145 : decode cX12_readsAll 145 = .ok (.invokevirtual 103, 3) := by decide +kernel
theorem dX12_readsAll_148 : decode cX12_readsAll 148 = .ok (.ifCond .eq 7, 3) := by decide +kernel
theorem dX12_readsAll_151 : decode cX12_readsAll 151 = .ok (.iconst 1, 1) := by decide +kernel
theorem dX12_readsAll_152 : decode cX12_readsAll 152 = .ok (.goto 4, 3) := by decide +kernel
theorem dX12_readsAll_155 : decode cX12_readsAll 155 = .ok (.iconst 0, 1) := by decide +kernel
theorem dX12_readsAll_156 : decode cX12_readsAll 156 = .ok (.ireturn, 1) := by decide +kernel
theorem dX12_copies_0 : decode cX12_copies 0 = .ok (.iconst 0, 1) := by decide +kernel
theorem dX12_copies_1 : decode cX12_copies 1 = .ok (.istore 4, 2) := by decide +kernel
theorem dX12_copies_3 : decode cX12_copies 3 = .ok (.iload 4, 2) := by decide +kernel
theorem dX12_copies_5 : decode cX12_copies 5 = .ok (.sipush 673, 3) := by decide +kernel
theorem dX12_copies_8 : decode cX12_copies 8 = .ok (.if_icmp .ge 21, 3) := by decide +kernel
theorem dX12_copies_11 : decode cX12_copies 11 = .ok (.aload_n 2, 1) := by decide +kernel
theorem dX12_copies_12 : decode cX12_copies 12 = .ok (.iload_n 3, 1) := by decide +kernel
theorem dX12_copies_13 : decode cX12_copies 13 = .ok (.iload 4, 2) := by decide +kernel
theorem dX12_copies_15 : decode cX12_copies 15 = .ok (.iadd, 1) := by decide +kernel
theorem dX12_copies_16 : decode cX12_copies 16 = .ok (.aload_n 0, 1) := by decide +kernel
theorem dX12_copies_17 : decode cX12_copies 17 = .ok (.iload_n 1, 1) := by decide +kernel
theorem dX12_copies_18 : decode cX12_copies 18 = .ok (.iload 4, 2) := by decide +kernel
theorem dX12_copies_20 : decode cX12_copies 20 = .ok (.iadd, 1) := by decide +kernel
theorem dX12_copies_21 : decode cX12_copies 21 = .ok (.iaload, 1) := by decide +kernel
theorem dX12_copies_22 : decode cX12_copies 22 = .ok (.iastore, 1) := by decide +kernel
theorem dX12_copies_23 : decode cX12_copies 23 = .ok (.iinc 4 1, 3) := by decide +kernel
theorem dX12_copies_26 : decode cX12_copies 26 = .ok (.goto (-23), 3) := by decide +kernel
theorem dX12_copies_29 : decode cX12_copies 29 = .ok (.return_, 1) := by decide +kernel
theorem dX12_plan_0 : decode cX12_plan 0 = .ok (.aload_n 0, 1) := by decide +kernel
theorem dX12_plan_1 : decode cX12_plan 1 = .ok (.invokevirtual 149, 3) := by decide +kernel
theorem dX12_plan_4 : decode cX12_plan 4 = .ok (.istore_n 1, 1) := by decide +kernel
theorem dX12_plan_5 : decode cX12_plan 5 = .ok (.aload_n 0, 1) := by decide +kernel
theorem dX12_plan_6 : decode cX12_plan 6 = .ok (.getfield 69, 3) := by decide +kernel
theorem dX12_plan_9 : decode cX12_plan 9 = .ok (.istore_n 2, 1) := by decide +kernel
theorem dX12_plan_10 : decode cX12_plan 10 = .ok (.aload_n 0, 1) := by decide +kernel
theorem dX12_plan_11 : decode cX12_plan 11 = .ok (.iconst 0, 1) := by decide +kernel
theorem dX12_plan_12 : decode cX12_plan 12 = .ok (.putfield 69, 3) := by decide +kernel
theorem dX12_plan_15 : decode cX12_plan 15 = .ok (.iload_n 1, 1) := by decide +kernel
theorem dX12_plan_16 : decode cX12_plan 16 = .ok (.ifCond .ne 11, 3) := by decide +kernel
theorem dX12_plan_19 : decode cX12_plan 19 = .ok (.bipush (-2), 2) := by decide +kernel
theorem dX12_plan_21 : decode cX12_plan 21 = .ok (.aload_n 0, 1) := by decide +kernel
theorem dX12_plan_22 : decode cX12_plan 22 = .ok (.getfield 77, 3) := by decide +kernel
theorem dX12_plan_25 : decode cX12_plan 25 = .ok (.isub, 1) := by decide +kernel
theorem dX12_plan_26 : decode cX12_plan 26 = .ok (.ireturn, 1) := by decide +kernel
theorem dX12_plan_27 : decode cX12_plan 27 = .ok (.aload_n 0, 1) := by decide +kernel
theorem dX12_plan_28 : decode cX12_plan 28 = .ok (.getfield 20, 3) := by decide +kernel
theorem dX12_plan_31 : decode cX12_plan 31 = .ok (.iconst 4, 1) := by decide +kernel
theorem dX12_plan_32 : decode cX12_plan 32 = .ok (.aload_n 0, 1) := by decide +kernel
theorem dX12_plan_33 : decode cX12_plan 33 = .ok (.getfield 16, 3) := by decide +kernel
theorem dX12_plan_36 : decode cX12_plan 36 = .ok (.iconst 4, 1) := by decide +kernel
theorem dX12_plan_37 : decode cX12_plan 37 = .ok (.iaload, 1) := by decide +kernel
theorem dX12_plan_38 : decode cX12_plan 38 = .ok (.iastore, 1) := by decide +kernel
theorem dX12_plan_39 : decode cX12_plan 39 = .ok (.aload_n 0, 1) := by decide +kernel
theorem dX12_plan_40 : decode cX12_plan 40 = .ok (.getfield 16, 3) := by decide +kernel
theorem dX12_plan_43 : decode cX12_plan 43 = .ok (.iconst 0, 1) := by decide +kernel
theorem dX12_plan_44 : decode cX12_plan 44 = .ok (.aload_n 0, 1) := by decide +kernel
theorem dX12_plan_45 : decode cX12_plan 45 = .ok (.getfield 23, 3) := by decide +kernel
theorem dX12_plan_48 : decode cX12_plan 48 = .ok (.iconst 0, 1) := by decide +kernel
theorem dX12_plan_49 : decode cX12_plan 49 = .ok (.invokestatic 152, 3) := by decide +kernel
theorem dX12_plan_52 : decode cX12_plan 52 = .ok (.aload_n 0, 1) := by decide +kernel
theorem dX12_plan_53 : decode cX12_plan 53 = .ok (.getfield 20, 3) := by decide +kernel
theorem dX12_plan_56 : decode cX12_plan 56 = .ok (.iconst 0, 1) := by decide +kernel
theorem dX12_plan_57 : decode cX12_plan 57 = .ok (.aload_n 0, 1) := by decide +kernel
theorem dX12_plan_58 : decode cX12_plan 58 = .ok (.getfield 16, 3) := by decide +kernel
theorem dX12_plan_61 : decode cX12_plan 61 = .ok (.iconst 0, 1) := by decide +kernel
theorem dX12_plan_62 : decode cX12_plan 62 = .ok (.invokestatic 152, 3) := by decide +kernel
theorem dX12_plan_65 : decode cX12_plan 65 = .ok (.aload_n 0, 1) := by decide +kernel
theorem dX12_plan_66 : decode cX12_plan 66 = .ok (.invokevirtual 156, 3) := by decide +kernel
theorem dX12_plan_69 : decode cX12_plan 69 = .ok (.sipush 1200, 3) := by decide +kernel
theorem dX12_plan_72 : decode cX12_plan 72 = .ok (.if_icmp .gt 7, 3) := by decide +kernel
theorem dX12_plan_75 : decode cX12_plan 75 = .ok (.aload_n 0, 1) := by decide +kernel
theorem dX12_plan_76 : decode cX12_plan 76 = .ok (.invokevirtual 159, 3) := by decide +kernel
theorem dX12_plan_79 : decode cX12_plan 79 = .ok (.iconst 0, 1) := by decide +kernel
theorem dX12_plan_80 : decode cX12_plan 80 = .ok (.istore_n 3, 1) := by decide +kernel
theorem dX12_plan_81 : decode cX12_plan 81 = .ok (.iload_n 3, 1) := by decide +kernel
theorem dX12_plan_82 : decode cX12_plan 82 = .ok (.bipush 8, 2) := by decide +kernel
theorem dX12_plan_84 : decode cX12_plan 84 = .ok (.if_icmp .ge 16, 3) := by decide +kernel
theorem dX12_plan_87 : decode cX12_plan 87 = .ok (.aload_n 0, 1) := by decide +kernel
theorem dX12_plan_88 : decode cX12_plan 88 = .ok (.getfield 26, 3) := by decide +kernel
theorem dX12_plan_91 : decode cX12_plan 91 = .ok (.iload_n 3, 1) := by decide +kernel
theorem dX12_plan_92 : decode cX12_plan 92 = .ok (.iconst (-1), 1) := by decide +kernel
theorem dX12_plan_93 : decode cX12_plan 93 = .ok (.iastore, 1) := by decide +kernel
theorem dX12_plan_94 : decode cX12_plan 94 = .ok (.iinc 3 1, 3) := by decide +kernel
theorem dX12_plan_97 : decode cX12_plan 97 = .ok (.goto (-16), 3) := by decide +kernel
theorem dX12_plan_100 : decode cX12_plan 100 = .ok (.aload_n 0, 1) := by decide +kernel
theorem dX12_plan_101 : decode cX12_plan 101 = .ok (.invokevirtual 156, 3) := by decide +kernel
theorem dX12_plan_104 : decode cX12_plan 104 = .ok (.sipush 1200, 3) := by decide +kernel
theorem dX12_plan_107 : decode cX12_plan 107 = .ok (.if_icmp .gt 10, 3) := by decide +kernel
theorem dX12_plan_110 : decode cX12_plan 110 = .ok (.aload_n 0, 1) := by decide +kernel
theorem dX12_plan_111 : decode cX12_plan 111 = .ok (.invokevirtual 162, 3) := by decide +kernel
theorem dX12_plan_114 : decode cX12_plan 114 = .ok (.ifCond .ne 30, 3) := by decide +kernel
theorem dX12_plan_117 : decode cX12_plan 117 = .ok (.aload_n 0, 1) := by decide +kernel
theorem dX12_plan_118 : decode cX12_plan 118 = .ok (.getfield 23, 3) := by decide +kernel
theorem dX12_plan_121 : decode cX12_plan 121 = .ok (.iconst 0, 1) := by decide +kernel
theorem dX12_plan_122 : decode cX12_plan 122 = .ok (.aload_n 0, 1) := by decide +kernel
theorem dX12_plan_123 : decode cX12_plan 123 = .ok (.getfield 16, 3) := by decide +kernel
theorem dX12_plan_126 : decode cX12_plan 126 = .ok (.iconst 0, 1) := by decide +kernel
theorem dX12_plan_127 : decode cX12_plan 127 = .ok (.invokestatic 152, 3) := by decide +kernel
theorem dX12_plan_130 : decode cX12_plan 130 = .ok (.aload_n 0, 1) := by decide +kernel
theorem dX12_plan_131 : decode cX12_plan 131 = .ok (.invokevirtual 159, 3) := by decide +kernel
theorem dX12_plan_134 : decode cX12_plan 134 = .ok (.bipush (-2), 2) := by decide +kernel
theorem dX12_plan_136 : decode cX12_plan 136 = .ok (.bipush 8, 2) := by decide +kernel
theorem dX12_plan_138 : decode cX12_plan 138 = .ok (.iload_n 2, 1) := by decide +kernel
theorem dX12_plan_139 : decode cX12_plan 139 = .ok (.imul, 1) := by decide +kernel
theorem dX12_plan_140 : decode cX12_plan 140 = .ok (.iconst 4, 1) := by decide +kernel
theorem dX12_plan_141 : decode cX12_plan 141 = .ok (.iadd, 1) := by decide +kernel
theorem dX12_plan_142 : decode cX12_plan 142 = .ok (.isub, 1) := by decide +kernel
theorem dX12_plan_143 : decode cX12_plan 143 = .ok (.ireturn, 1) := by decide +kernel
theorem dX12_plan_144 : decode cX12_plan 144 = .ok (.aload_n 0, 1) := by decide +kernel
theorem dX12_plan_145 : decode cX12_plan 145 = .ok (.iconst 0, 1) := by decide +kernel
theorem dX12_plan_146 : decode cX12_plan 146 = .ok (.putfield 165, 3) := by decide +kernel
theorem dX12_plan_149 : decode cX12_plan 149 = .ok (.aload_n 0, 1) := by decide +kernel
theorem dX12_plan_150 : decode cX12_plan 150 = .ok (.getfield 168, 3) := by decide +kernel
theorem dX12_plan_153 : decode cX12_plan 153 = .ok (.ireturn, 1) := by decide +kernel
theorem dX12_never_0 : decode cX12_never 0 = .ok (.aload_n 0, 1) := by decide +kernel
theorem dX12_never_1 : decode cX12_never 1 = .ok (.getfield 16, 3) := by decide +kernel
theorem dX12_never_4 : decode cX12_never 4 = .ok (.bipush 13, 2) := by decide +kernel
theorem dX12_never_6 : decode cX12_never 6 = .ok (.bipush 7, 2) := by decide +kernel
theorem dX12_never_8 : decode cX12_never 8 = .ok (.iload_n 1, 1) := by decide +kernel
theorem dX12_never_9 : decode cX12_never 9 = .ok (.imul, 1) := by decide +kernel
theorem dX12_never_10 : decode cX12_never 10 = .ok (.iadd, 1) := by decide +kernel
theorem dX12_never_11 : decode cX12_never 11 = .ok (.iload_n 2, 1) := by decide +kernel
theorem dX12_never_12 : decode cX12_never 12 = .ok (.iadd, 1) := by decide +kernel
theorem dX12_never_13 : decode cX12_never 13 = .ok (.iaload, 1) := by decide +kernel
theorem dX12_never_14 : decode cX12_never 14 = .ok (.ireturn, 1) := by decide +kernel
theorem dX12_breaks_0 : decode cX12_breaks 0 = .ok (.iconst 0, 1) := by decide +kernel
theorem dX12_breaks_1 : decode cX12_breaks 1 = .ok (.istore_n 2, 1) := by decide +kernel
theorem dX12_breaks_2 : decode cX12_breaks 2 = .ok (.iload_n 2, 1) := by decide +kernel
theorem dX12_breaks_3 : decode cX12_breaks 3 = .ok (.aload_n 0, 1) := by decide +kernel
theorem dX12_breaks_4 : decode cX12_breaks 4 = .ok (.getfield 16, 3) := by decide +kernel
theorem dX12_breaks_7 : decode cX12_breaks 7 = .ok (.iconst 2, 1) := by decide +kernel
theorem dX12_breaks_8 : decode cX12_breaks 8 = .ok (.iaload, 1) := by decide +kernel
theorem dX12_breaks_9 : decode cX12_breaks 9 = .ok (.if_icmp .ge 111, 3) := by decide +kernel
theorem dX12_breaks_12 : decode cX12_breaks 12 = .ok (.iconst 0, 1) := by decide +kernel
theorem dX12_breaks_13 : decode cX12_breaks 13 = .ok (.istore_n 3, 1) := by decide +kernel
theorem dX12_breaks_14 : decode cX12_breaks 14 = .ok (.iconst 1, 1) := by decide +kernel
theorem dX12_breaks_15 : decode cX12_breaks 15 = .ok (.istore 4, 2) := by decide +kernel
theorem dX12_breaks_17 : decode cX12_breaks 17 = .ok (.iconst 0, 1) := by decide +kernel
theorem dX12_breaks_18 : decode cX12_breaks 18 = .ok (.istore 5, 2) := by decide +kernel
theorem dX12_breaks_20 : decode cX12_breaks 20 = .ok (.iload 5, 2) := by decide +kernel
theorem dX12_breaks_22 : decode cX12_breaks 22 = .ok (.aload_n 0, 1) := by decide +kernel
theorem dX12_breaks_23 : decode cX12_breaks 23 = .ok (.iload_n 2, 1) := by decide +kernel
theorem dX12_breaks_24 : decode cX12_breaks 24 = .ok (.iconst 0, 1) := by decide +kernel
theorem dX12_breaks_25 : decode cX12_breaks 25 = .ok (.invokevirtual 171, 3) := by decide +kernel
theorem dX12_breaks_28 : decode cX12_breaks 28 = .ok (.if_icmp .ge 74, 3) := by decide +kernel
theorem dX12_breaks_31 : decode cX12_breaks 31 = .ok (.aload_n 0, 1) := by decide +kernel
theorem dX12_breaks_32 : decode cX12_breaks 32 = .ok (.iload_n 2, 1) := by decide +kernel
theorem dX12_breaks_33 : decode cX12_breaks 33 = .ok (.iconst 1, 1) := by decide +kernel
theorem dX12_breaks_34 : decode cX12_breaks 34 = .ok (.iconst 2, 1) := by decide +kernel
theorem dX12_breaks_35 : decode cX12_breaks 35 = .ok (.iload 5, 2) := by decide +kernel
theorem dX12_breaks_37 : decode cX12_breaks 37 = .ok (.imul, 1) := by decide +kernel
theorem dX12_breaks_38 : decode cX12_breaks 38 = .ok (.iadd, 1) := by decide +kernel
theorem dX12_breaks_39 : decode cX12_breaks 39 = .ok (.invokevirtual 171, 3) := by decide +kernel
theorem dX12_breaks_42 : decode cX12_breaks 42 = .ok (.istore 6, 2) := by decide +kernel
theorem dX12_breaks_44 : decode cX12_breaks 44 = .ok (.iload 6, 2) := by decide +kernel
theorem dX12_breaks_46 : decode cX12_breaks 46 = .ok (.iload_n 3, 1) := by decide +kernel
theorem dX12_breaks_47 : decode cX12_breaks 47 = .ok (.if_icmp .le 8, 3) := by decide +kernel
theorem dX12_breaks_50 : decode cX12_breaks 50 = .ok (.iload 6, 2) := by decide +kernel
theorem dX12_breaks_52 : decode cX12_breaks 52 = .ok (.goto 4, 3) := by decide +kernel
theorem dX12_breaks_55 : decode cX12_breaks 55 = .ok (.iload_n 3, 1) := by decide +kernel
theorem dX12_breaks_56 : decode cX12_breaks 56 = .ok (.istore_n 3, 1) := by decide +kernel
theorem dX12_breaks_57 : decode cX12_breaks 57 = .ok (.iload 4, 2) := by decide +kernel
theorem dX12_breaks_59 : decode cX12_breaks 59 = .ok (.ifCond .eq 34, 3) := by decide +kernel
theorem dX12_breaks_62 : decode cX12_breaks 62 = .ok (.iload 6, 2) := by decide +kernel
theorem dX12_breaks_64 : decode cX12_breaks 64 = .ok (.iload_n 1, 1) := by decide +kernel
theorem dX12_breaks_65 : decode cX12_breaks 65 = .ok (.if_icmp .gt 28, 3) := by decide +kernel
theorem dX12_breaks_68 : decode cX12_breaks 68 = .ok (.aload_n 0, 1) := by decide +kernel
theorem dX12_breaks_69 : decode cX12_breaks 69 = .ok (.getfield 29, 3) := by decide +kernel
theorem dX12_breaks_72 : decode cX12_breaks 72 = .ok (.iload 6, 2) := by decide +kernel
theorem dX12_breaks_74 : decode cX12_breaks 74 = .ok (.iaload, 1) := by decide +kernel
theorem dX12_breaks_75 : decode cX12_breaks 75 = .ok (.aload_n 0, 1) := by decide +kernel
theorem dX12_breaks_76 : decode cX12_breaks 76 = .ok (.iload_n 2, 1) := by decide +kernel
theorem dX12_breaks_77 : decode cX12_breaks 77 = .ok (.iconst 2, 1) := by decide +kernel
theorem dX12_breaks_78 : decode cX12_breaks 78 = .ok (.iconst 2, 1) := by decide +kernel
theorem dX12_breaks_79 : decode cX12_breaks 79 = .ok (.iload 5, 2) := by decide +kernel
theorem dX12_breaks_81 : decode cX12_breaks 81 = .ok (.imul, 1) := by decide +kernel
theorem dX12_breaks_82 : decode cX12_breaks 82 = .ok (.iadd, 1) := by decide +kernel
theorem dX12_breaks_83 : decode cX12_breaks 83 = .ok (.invokevirtual 171, 3) := by decide +kernel
theorem dX12_breaks_86 : decode cX12_breaks 86 = .ok (.if_icmp .ne 7, 3) := by decide +kernel
theorem dX12_breaks_89 : decode cX12_breaks 89 = .ok (.iconst 1, 1) := by decide +kernel
theorem dX12_breaks_90 : decode cX12_breaks 90 = .ok (.goto 4, 3) := by decide +kernel
theorem dX12_breaks_93 : decode cX12_breaks 93 = .ok (.iconst 0, 1) := by decide +kernel
theorem dX12_breaks_94 : decode cX12_breaks 94 = .ok (.istore 4, 2) := by decide +kernel
theorem dX12_breaks_96 : decode cX12_breaks 96 = .ok (.iinc 5 1, 3) := by decide +kernel
theorem dX12_breaks_99 : decode cX12_breaks 99 = .ok (.goto (-79), 3) := by decide +kernel
theorem dX12_breaks_102 : decode cX12_breaks 102 = .ok (.iload 4, 2) := by decide +kernel
theorem dX12_breaks_104 : decode cX12_breaks 104 = .ok (.ifCond .eq 10, 3) := by decide +kernel
theorem dX12_breaks_107 : decode cX12_breaks 107 = .ok (.iload_n 3, 1) := by decide +kernel
theorem dX12_breaks_108 : decode cX12_breaks 108 = .ok (.iload_n 1, 1) := by decide +kernel
theorem dX12_breaks_109 : decode cX12_breaks 109 = .ok (.if_icmp .ne 5, 3) := by decide +kernel
theorem dX12_breaks_112 : decode cX12_breaks 112 = .ok (.iconst 1, 1) := by decide +kernel
theorem dX12_breaks_113 : decode cX12_breaks 113 = .ok (.ireturn, 1) := by decide +kernel
theorem dX12_breaks_114 : decode cX12_breaks 114 = .ok (.iinc 2 1, 3) := by decide +kernel
theorem dX12_breaks_117 : decode cX12_breaks 117 = .ok (.goto (-115), 3) := by decide +kernel
theorem dX12_breaks_120 : decode cX12_breaks 120 = .ok (.iconst 0, 1) := by decide +kernel
theorem dX12_breaks_121 : decode cX12_breaks 121 = .ok (.ireturn, 1) := by decide +kernel
theorem dX12_nextLevel_0 : decode cX12_nextLevel 0 = .ok (.aload_n 0, 1) := by decide +kernel
theorem dX12_nextLevel_1 : decode cX12_nextLevel 1 = .ok (.getfield 26, 3) := by decide +kernel
theorem dX12_nextLevel_4 : decode cX12_nextLevel 4 = .ok (.iload_n 1, 1) := by decide +kernel
theorem dX12_nextLevel_5 : decode cX12_nextLevel 5 = .ok (.iaload, 1) := by decide +kernel
theorem dX12_nextLevel_6 : decode cX12_nextLevel 6 = .ok (.iconst (-1), 1) := by decide +kernel
theorem dX12_nextLevel_7 : decode cX12_nextLevel 7 = .ok (.if_icmp .eq 29, 3) := by decide +kernel
theorem dX12_nextLevel_10 : decode cX12_nextLevel 10 = .ok (.aload_n 0, 1) := by decide +kernel
theorem dX12_nextLevel_11 : decode cX12_nextLevel 11 = .ok (.getfield 29, 3) := by decide +kernel
theorem dX12_nextLevel_14 : decode cX12_nextLevel 14 = .ok (.iload_n 1, 1) := by decide +kernel
theorem dX12_nextLevel_15 : decode cX12_nextLevel 15 = .ok (.iaload, 1) := by decide +kernel
theorem dX12_nextLevel_16 : decode cX12_nextLevel 16 = .ok (.aload_n 0, 1) := by decide +kernel
theorem dX12_nextLevel_17 : decode cX12_nextLevel 17 = .ok (.getfield 26, 3) := by decide +kernel
theorem dX12_nextLevel_20 : decode cX12_nextLevel 20 = .ok (.iload_n 1, 1) := by decide +kernel
theorem dX12_nextLevel_21 : decode cX12_nextLevel 21 = .ok (.iaload, 1) := by decide +kernel
theorem dX12_nextLevel_22 : decode cX12_nextLevel 22 = .ok (.if_icmp .ge 12, 3) := by decide +kernel
theorem dX12_nextLevel_25 : decode cX12_nextLevel 25 = .ok (.aload_n 0, 1) := by decide +kernel
theorem dX12_nextLevel_26 : decode cX12_nextLevel 26 = .ok (.getfield 26, 3) := by decide +kernel
theorem dX12_nextLevel_29 : decode cX12_nextLevel 29 = .ok (.iload_n 1, 1) := by decide +kernel
theorem dX12_nextLevel_30 : decode cX12_nextLevel 30 = .ok (.iaload, 1) := by decide +kernel
theorem dX12_nextLevel_31 : decode cX12_nextLevel 31 = .ok (.goto 4, 3) := by decide +kernel
theorem dX12_nextLevel_34 : decode cX12_nextLevel 34 = .ok (.iconst (-1), 1) := by decide +kernel
theorem dX12_nextLevel_35 : decode cX12_nextLevel 35 = .ok (.ireturn, 1) := by decide +kernel
theorem dX12_nextLevel_36 : decode cX12_nextLevel 36 = .ok (.aload_n 0, 1) := by decide +kernel
theorem dX12_nextLevel_37 : decode cX12_nextLevel 37 = .ok (.getfield 29, 3) := by decide +kernel
theorem dX12_nextLevel_40 : decode cX12_nextLevel 40 = .ok (.iload_n 1, 1) := by decide +kernel
theorem dX12_nextLevel_41 : decode cX12_nextLevel 41 = .ok (.iaload, 1) := by decide +kernel
theorem dX12_nextLevel_42 : decode cX12_nextLevel 42 = .ok (.iconst 1, 1) := by decide +kernel
theorem dX12_nextLevel_43 : decode cX12_nextLevel 43 = .ok (.iadd, 1) := by decide +kernel
theorem dX12_nextLevel_44 : decode cX12_nextLevel 44 = .ok (.aload_n 0, 1) := by decide +kernel
theorem dX12_nextLevel_45 : decode cX12_nextLevel 45 = .ok (.getfield 16, 3) := by decide +kernel
theorem dX12_nextLevel_48 : decode cX12_nextLevel 48 = .ok (.iconst 5, 1) := by decide +kernel
theorem dX12_nextLevel_49 : decode cX12_nextLevel 49 = .ok (.iload_n 1, 1) := by decide +kernel
theorem dX12_nextLevel_50 : decode cX12_nextLevel 50 = .ok (.iadd, 1) := by decide +kernel
theorem dX12_nextLevel_51 : decode cX12_nextLevel 51 = .ok (.iaload, 1) := by decide +kernel
theorem dX12_nextLevel_52 : decode cX12_nextLevel 52 = .ok (.if_icmp .ge 14, 3) := by decide +kernel
theorem dX12_nextLevel_55 : decode cX12_nextLevel 55 = .ok (.aload_n 0, 1) := by decide +kernel
theorem dX12_nextLevel_56 : decode cX12_nextLevel 56 = .ok (.getfield 29, 3) := by decide +kernel
theorem dX12_nextLevel_59 : decode cX12_nextLevel 59 = .ok (.iload_n 1, 1) := by decide +kernel
theorem dX12_nextLevel_60 : decode cX12_nextLevel 60 = .ok (.iaload, 1) := by decide +kernel
theorem dX12_nextLevel_61 : decode cX12_nextLevel 61 = .ok (.iconst 1, 1) := by decide +kernel
theorem dX12_nextLevel_62 : decode cX12_nextLevel 62 = .ok (.iadd, 1) := by decide +kernel
theorem dX12_nextLevel_63 : decode cX12_nextLevel 63 = .ok (.goto 4, 3) := by decide +kernel
theorem dX12_nextLevel_66 : decode cX12_nextLevel 66 = .ok (.iconst (-1), 1) := by decide +kernel
theorem dX12_nextLevel_67 : decode cX12_nextLevel 67 = .ok (.ireturn, 1) := by decide +kernel
theorem dX12_fillings_0 : decode cX12_fillings 0 = .ok (.iconst 0, 1) := by decide +kernel
theorem dX12_fillings_1 : decode cX12_fillings 1 = .ok (.istore_n 2, 1) := by decide +kernel
theorem dX12_fillings_2 : decode cX12_fillings 2 = .ok (.iconst 0, 1) := by decide +kernel
theorem dX12_fillings_3 : decode cX12_fillings 3 = .ok (.istore_n 3, 1) := by decide +kernel
theorem dX12_fillings_4 : decode cX12_fillings 4 = .ok (.aload_n 0, 1) := by decide +kernel
theorem dX12_fillings_5 : decode cX12_fillings 5 = .ok (.getfield 29, 3) := by decide +kernel
theorem dX12_fillings_8 : decode cX12_fillings 8 = .ok (.iconst 0, 1) := by decide +kernel
theorem dX12_fillings_9 : decode cX12_fillings 9 = .ok (.iconst (-1), 1) := by decide +kernel
theorem dX12_fillings_10 : decode cX12_fillings 10 = .ok (.iastore, 1) := by decide +kernel
theorem dX12_fillings_11 : decode cX12_fillings 11 = .ok (.iload_n 3, 1) := by decide +kernel
theorem dX12_fillings_12 : decode cX12_fillings 12 = .ok (.ifCond .lt 74, 3) := by decide +kernel
theorem dX12_fillings_15 : decode cX12_fillings 15 = .ok (.aload_n 0, 1) := by decide +kernel
theorem dX12_fillings_16 : decode cX12_fillings 16 = .ok (.iload_n 3, 1) := by decide +kernel
theorem dX12_fillings_17 : decode cX12_fillings 17 = .ok (.invokevirtual 175, 3) := by decide +kernel
theorem dX12_fillings_20 : decode cX12_fillings 20 = .ok (.istore 4, 2) := by decide +kernel
theorem dX12_fillings_22 : decode cX12_fillings 22 = .ok (.iload 4, 2) := by decide +kernel
theorem dX12_fillings_24 : decode cX12_fillings 24 = .ok (.ifCond .ge 9, 3) := by decide +kernel
theorem dX12_fillings_27 : decode cX12_fillings 27 = .ok (.iinc 3 (-1), 3) := by decide +kernel
theorem dX12_fillings_30 : decode cX12_fillings 30 = .ok (.goto (-19), 3) := by decide +kernel
theorem dX12_fillings_33 : decode cX12_fillings 33 = .ok (.aload_n 0, 1) := by decide +kernel
theorem dX12_fillings_34 : decode cX12_fillings 34 = .ok (.getfield 29, 3) := by decide +kernel
theorem dX12_fillings_37 : decode cX12_fillings 37 = .ok (.iload_n 3, 1) := by decide +kernel
theorem dX12_fillings_38 : decode cX12_fillings 38 = .ok (.iload 4, 2) := by decide +kernel
theorem dX12_fillings_40 : decode cX12_fillings 40 = .ok (.iastore, 1) := by decide +kernel
theorem dX12_fillings_41 : decode cX12_fillings 41 = .ok (.aload_n 0, 1) := by decide +kernel
theorem dX12_fillings_42 : decode cX12_fillings 42 = .ok (.iload_n 3, 1) := by decide +kernel
theorem dX12_fillings_43 : decode cX12_fillings 43 = .ok (.invokevirtual 178, 3) := by decide +kernel
theorem dX12_fillings_46 : decode cX12_fillings 46 = .ok (.ifCond .eq 6, 3) := by decide +kernel
theorem dX12_fillings_49 : decode cX12_fillings 49 = .ok (.goto (-38), 3) := by decide +kernel
theorem dX12_fillings_52 : decode cX12_fillings 52 = .ok (.iload_n 3, 1) := by decide +kernel
theorem dX12_fillings_53 : decode cX12_fillings 53 = .ok (.aload_n 0, 1) := by decide +kernel
theorem dX12_fillings_54 : decode cX12_fillings 54 = .ok (.getfield 16, 3) := by decide +kernel
theorem dX12_fillings_57 : decode cX12_fillings 57 = .ok (.iconst 0, 1) := by decide +kernel
theorem dX12_fillings_58 : decode cX12_fillings 58 = .ok (.iaload, 1) := by decide +kernel
theorem dX12_fillings_59 : decode cX12_fillings 59 = .ok (.iconst 1, 1) := by decide +kernel
theorem dX12_fillings_60 : decode cX12_fillings 60 = .ok (.isub, 1) := by decide +kernel
theorem dX12_fillings_61 : decode cX12_fillings 61 = .ok (.if_icmp .ne 12, 3) := by decide +kernel
theorem dX12_fillings_64 : decode cX12_fillings 64 = .ok (.iinc 2 1, 3) := by decide +kernel
theorem dX12_fillings_67 : decode cX12_fillings 67 = .ok (.iload_n 1, 1) := by decide +kernel
theorem dX12_fillings_68 : decode cX12_fillings 68 = .ok (.ifCond .eq (-57), 3) := by decide +kernel
theorem dX12_fillings_71 : decode cX12_fillings 71 = .ok (.iload_n 2, 1) := by decide +kernel
theorem dX12_fillings_72 : decode cX12_fillings 72 = .ok (.ireturn, 1) := by decide +kernel
theorem dX12_fillings_73 : decode cX12_fillings 73 = .ok (.iinc 3 1, 3) := by decide +kernel
theorem dX12_fillings_76 : decode cX12_fillings 76 = .ok (.aload_n 0, 1) := by decide +kernel
theorem dX12_fillings_77 : decode cX12_fillings 77 = .ok (.getfield 29, 3) := by decide +kernel
theorem dX12_fillings_80 : decode cX12_fillings 80 = .ok (.iload_n 3, 1) := by decide +kernel
theorem dX12_fillings_81 : decode cX12_fillings 81 = .ok (.iconst (-1), 1) := by decide +kernel
theorem dX12_fillings_82 : decode cX12_fillings 82 = .ok (.iastore, 1) := by decide +kernel
theorem dX12_fillings_83 : decode cX12_fillings 83 = .ok (.goto (-72), 3) := by decide +kernel
theorem dX12_fillings_86 : decode cX12_fillings 86 = .ok (.iload_n 2, 1) := by decide +kernel
theorem dX12_fillings_87 : decode cX12_fillings 87 = .ok (.ireturn, 1) := by decide +kernel
theorem dX12_canProbe_0 : decode cX12_canProbe 0 = .ok (.aload_n 0, 1) := by decide +kernel
theorem dX12_canProbe_1 : decode cX12_canProbe 1 = .ok (.iconst 1, 1) := by decide +kernel
theorem dX12_canProbe_2 : decode cX12_canProbe 2 = .ok (.invokevirtual 182, 3) := by decide +kernel
theorem dX12_canProbe_5 : decode cX12_canProbe 5 = .ok (.ifCond .le 7, 3) := by decide +kernel
theorem dX12_canProbe_8 : decode cX12_canProbe 8 = .ok (.iconst 1, 1) := by decide +kernel
theorem dX12_canProbe_9 : decode cX12_canProbe 9 = .ok (.goto 4, 3) := by decide +kernel
theorem dX12_canProbe_12 : decode cX12_canProbe 12 = .ok (.iconst 0, 1) := by decide +kernel
theorem dX12_canProbe_13 : decode cX12_canProbe 13 = .ok (.ireturn, 1) := by decide +kernel
theorem dX12_mixMany_0 : decode cX12_mixMany 0 = .ok (.iconst 0, 1) := by decide +kernel
theorem dX12_mixMany_1 : decode cX12_mixMany 1 = .ok (.istore_n 1, 1) := by decide +kernel
theorem dX12_mixMany_2 : decode cX12_mixMany 2 = .ok (.iconst 0, 1) := by decide +kernel
theorem dX12_mixMany_3 : decode cX12_mixMany 3 = .ok (.istore_n 2, 1) := by decide +kernel
theorem dX12_mixMany_4 : decode cX12_mixMany 4 = .ok (.iload_n 2, 1) := by decide +kernel
theorem dX12_mixMany_5 : decode cX12_mixMany 5 = .ok (.aload_n 0, 1) := by decide +kernel
theorem dX12_mixMany_6 : decode cX12_mixMany 6 = .ok (.getfield 16, 3) := by decide +kernel
theorem dX12_mixMany_9 : decode cX12_mixMany 9 = .ok (.iconst 0, 1) := by decide +kernel
theorem dX12_mixMany_10 : decode cX12_mixMany 10 = .ok (.iaload, 1) := by decide +kernel
theorem dX12_mixMany_11 : decode cX12_mixMany 11 = .ok (.if_icmp .ge 152, 3) := by decide +kernel
theorem dX12_mixMany_14 : decode cX12_mixMany 14 = .ok (.aload_n 0, 1) := by decide +kernel
theorem dX12_mixMany_15 : decode cX12_mixMany 15 = .ok (.getfield 16, 3) := by decide +kernel
theorem dX12_mixMany_18 : decode cX12_mixMany 18 = .ok (.iconst 1, 1) := by decide +kernel
theorem dX12_mixMany_19 : decode cX12_mixMany 19 = .ok (.iaload, 1) := by decide +kernel
theorem dX12_mixMany_20 : decode cX12_mixMany 20 = .ok (.iconst 1, 1) := by decide +kernel
theorem dX12_mixMany_21 : decode cX12_mixMany 21 = .ok (.if_icmp .ne 14, 3) := by decide +kernel
theorem dX12_mixMany_24 : decode cX12_mixMany 24 = .ok (.iload_n 1, 1) := by decide +kernel
theorem dX12_mixMany_25 : decode cX12_mixMany 25 = .ok (.aload_n 0, 1) := by decide +kernel
theorem dX12_mixMany_26 : decode cX12_mixMany 26 = .ok (.getfield 16, 3) := by decide +kernel
theorem dX12_mixMany_29 : decode cX12_mixMany 29 = .ok (.iconst 5, 1) := by decide +kernel
theorem dX12_mixMany_30 : decode cX12_mixMany 30 = .ok (.iload_n 2, 1) := by decide +kernel
theorem dX12_mixMany_31 : decode cX12_mixMany 31 = .ok (.iadd, 1) := by decide +kernel
theorem dX12_mixMany_32 : decode cX12_mixMany 32 = .ok (.iaload, 1) := by decide +kernel
theorem dX12_mixMany_33 : decode cX12_mixMany 33 = .ok (.iadd, 1) := by decide +kernel
theorem dX12_mixMany_34 : decode cX12_mixMany 34 = .ok (.istore_n 1, 1) := by decide +kernel
theorem dX12_mixMany_35 : decode cX12_mixMany 35 = .ok (.iload_n 2, 1) := by decide +kernel
theorem dX12_mixMany_36 : decode cX12_mixMany 36 = .ok (.iconst 1, 1) := by decide +kernel
theorem dX12_mixMany_37 : decode cX12_mixMany 37 = .ok (.iadd, 1) := by decide +kernel
theorem dX12_mixMany_38 : decode cX12_mixMany 38 = .ok (.istore_n 3, 1) := by decide +kernel
theorem dX12_mixMany_39 : decode cX12_mixMany 39 = .ok (.iload_n 3, 1) := by decide +kernel
theorem dX12_mixMany_40 : decode cX12_mixMany 40 = .ok (.aload_n 0, 1) := by decide +kernel
theorem dX12_mixMany_41 : decode cX12_mixMany 41 = .ok (.getfield 16, 3) := by decide +kernel
theorem dX12_mixMany_44 : decode cX12_mixMany 44 = .ok (.iconst 0, 1) := by decide +kernel
theorem dX12_mixMany_45 : decode cX12_mixMany 45 = .ok (.iaload, 1) := by decide +kernel
theorem dX12_mixMany_46 : decode cX12_mixMany 46 = .ok (.if_icmp .ge 111, 3) := by decide +kernel
theorem dX12_mixMany_49 : decode cX12_mixMany 49 = .ok (.aload_n 0, 1) := by decide +kernel
theorem dX12_mixMany_50 : decode cX12_mixMany 50 = .ok (.getfield 16, 3) := by decide +kernel
theorem dX12_mixMany_53 : decode cX12_mixMany 53 = .ok (.iconst 1, 1) := by decide +kernel
theorem dX12_mixMany_54 : decode cX12_mixMany 54 = .ok (.iaload, 1) := by decide +kernel
theorem dX12_mixMany_55 : decode cX12_mixMany 55 = .ok (.iconst 1, 1) := by decide +kernel
theorem dX12_mixMany_56 : decode cX12_mixMany 56 = .ok (.if_icmp .le 101, 3) := by decide +kernel
theorem dX12_mixMany_59 : decode cX12_mixMany 59 = .ok (.aload_n 0, 1) := by decide +kernel
theorem dX12_mixMany_60 : decode cX12_mixMany 60 = .ok (.getfield 16, 3) := by decide +kernel
theorem dX12_mixMany_63 : decode cX12_mixMany 63 = .ok (.iconst 1, 1) := by decide +kernel
theorem dX12_mixMany_64 : decode cX12_mixMany 64 = .ok (.iaload, 1) := by decide +kernel
theorem dX12_mixMany_65 : decode cX12_mixMany 65 = .ok (.iconst 2, 1) := by decide +kernel
theorem dX12_mixMany_66 : decode cX12_mixMany 66 = .ok (.if_icmp .ne 23, 3) := by decide +kernel
theorem dX12_mixMany_69 : decode cX12_mixMany 69 = .ok (.iload_n 1, 1) := by decide +kernel
theorem dX12_mixMany_70 : decode cX12_mixMany 70 = .ok (.aload_n 0, 1) := by decide +kernel
theorem dX12_mixMany_71 : decode cX12_mixMany 71 = .ok (.getfield 16, 3) := by decide +kernel
theorem dX12_mixMany_74 : decode cX12_mixMany 74 = .ok (.iconst 5, 1) := by decide +kernel
theorem dX12_mixMany_75 : decode cX12_mixMany 75 = .ok (.iload_n 2, 1) := by decide +kernel
theorem dX12_mixMany_76 : decode cX12_mixMany 76 = .ok (.iadd, 1) := by decide +kernel
theorem dX12_mixMany_77 : decode cX12_mixMany 77 = .ok (.iaload, 1) := by decide +kernel
theorem dX12_mixMany_78 : decode cX12_mixMany 78 = .ok (.aload_n 0, 1) := by decide +kernel
theorem dX12_mixMany_79 : decode cX12_mixMany 79 = .ok (.getfield 16, 3) := by decide +kernel
theorem dX12_mixMany_82 : decode cX12_mixMany 82 = .ok (.iconst 5, 1) := by decide +kernel
theorem dX12_mixMany_83 : decode cX12_mixMany 83 = .ok (.iload_n 3, 1) := by decide +kernel
theorem dX12_mixMany_84 : decode cX12_mixMany 84 = .ok (.iadd, 1) := by decide +kernel
theorem dX12_mixMany_85 : decode cX12_mixMany 85 = .ok (.iaload, 1) := by decide +kernel
theorem dX12_mixMany_86 : decode cX12_mixMany 86 = .ok (.imul, 1) := by decide +kernel
theorem dX12_mixMany_87 : decode cX12_mixMany 87 = .ok (.iadd, 1) := by decide +kernel
theorem dX12_mixMany_88 : decode cX12_mixMany 88 = .ok (.istore_n 1, 1) := by decide +kernel
theorem dX12_mixMany_89 : decode cX12_mixMany 89 = .ok (.iload_n 3, 1) := by decide +kernel
theorem dX12_mixMany_90 : decode cX12_mixMany 90 = .ok (.iconst 1, 1) := by decide +kernel
theorem dX12_mixMany_91 : decode cX12_mixMany 91 = .ok (.iadd, 1) := by decide +kernel
theorem dX12_mixMany_92 : decode cX12_mixMany 92 = .ok (.istore 4, 2) := by decide +kernel
theorem dX12_mixMany_94 : decode cX12_mixMany 94 = .ok (.iload 4, 2) := by decide +kernel
theorem dX12_mixMany_96 : decode cX12_mixMany 96 = .ok (.aload_n 0, 1) := by decide +kernel
theorem dX12_mixMany_97 : decode cX12_mixMany 97 = .ok (.getfield 16, 3) := by decide +kernel
theorem dX12_mixMany_100 : decode cX12_mixMany 100 = .ok (.iconst 0, 1) := by decide +kernel
theorem dX12_mixMany_101 : decode cX12_mixMany 101 = .ok (.iaload, 1) := by decide +kernel
theorem dX12_mixMany_102 : decode cX12_mixMany 102 = .ok (.if_icmp .ge 49, 3) := by decide +kernel
theorem dX12_mixMany_105 : decode cX12_mixMany 105 = .ok (.aload_n 0, 1) := by decide +kernel
theorem dX12_mixMany_106 : decode cX12_mixMany 106 = .ok (.getfield 16, 3) := by decide +kernel
theorem dX12_mixMany_109 : decode cX12_mixMany 109 = .ok (.iconst 1, 1) := by decide +kernel
theorem dX12_mixMany_110 : decode cX12_mixMany 110 = .ok (.iaload, 1) := by decide +kernel
theorem dX12_mixMany_111 : decode cX12_mixMany 111 = .ok (.iconst 2, 1) := by decide +kernel
theorem dX12_mixMany_112 : decode cX12_mixMany 112 = .ok (.if_icmp .le 39, 3) := by decide +kernel
theorem dX12_mixMany_115 : decode cX12_mixMany 115 = .ok (.iload_n 1, 1) := by decide +kernel
theorem dX12_mixMany_116 : decode cX12_mixMany 116 = .ok (.aload_n 0, 1) := by decide +kernel
theorem dX12_mixMany_117 : decode cX12_mixMany 117 = .ok (.getfield 16, 3) := by decide +kernel
theorem dX12_mixMany_120 : decode cX12_mixMany 120 = .ok (.iconst 5, 1) := by decide +kernel
theorem dX12_mixMany_121 : decode cX12_mixMany 121 = .ok (.iload_n 2, 1) := by decide +kernel
theorem dX12_mixMany_122 : decode cX12_mixMany 122 = .ok (.iadd, 1) := by decide +kernel
theorem dX12_mixMany_123 : decode cX12_mixMany 123 = .ok (.iaload, 1) := by decide +kernel
theorem dX12_mixMany_124 : decode cX12_mixMany 124 = .ok (.aload_n 0, 1) := by decide +kernel
theorem dX12_mixMany_125 : decode cX12_mixMany 125 = .ok (.getfield 16, 3) := by decide +kernel
theorem dX12_mixMany_128 : decode cX12_mixMany 128 = .ok (.iconst 5, 1) := by decide +kernel
theorem dX12_mixMany_129 : decode cX12_mixMany 129 = .ok (.iload_n 3, 1) := by decide +kernel
theorem dX12_mixMany_130 : decode cX12_mixMany 130 = .ok (.iadd, 1) := by decide +kernel
theorem dX12_mixMany_131 : decode cX12_mixMany 131 = .ok (.iaload, 1) := by decide +kernel
theorem dX12_mixMany_132 : decode cX12_mixMany 132 = .ok (.imul, 1) := by decide +kernel
theorem dX12_mixMany_133 : decode cX12_mixMany 133 = .ok (.aload_n 0, 1) := by decide +kernel
theorem dX12_mixMany_134 : decode cX12_mixMany 134 = .ok (.getfield 16, 3) := by decide +kernel
theorem dX12_mixMany_137 : decode cX12_mixMany 137 = .ok (.iconst 5, 1) := by decide +kernel
theorem dX12_mixMany_138 : decode cX12_mixMany 138 = .ok (.iload 4, 2) := by decide +kernel
theorem dX12_mixMany_140 : decode cX12_mixMany 140 = .ok (.iadd, 1) := by decide +kernel
theorem dX12_mixMany_141 : decode cX12_mixMany 141 = .ok (.iaload, 1) := by decide +kernel
theorem dX12_mixMany_142 : decode cX12_mixMany 142 = .ok (.imul, 1) := by decide +kernel
theorem dX12_mixMany_143 : decode cX12_mixMany 143 = .ok (.iadd, 1) := by decide +kernel
theorem dX12_mixMany_144 : decode cX12_mixMany 144 = .ok (.istore_n 1, 1) := by decide +kernel
theorem dX12_mixMany_145 : decode cX12_mixMany 145 = .ok (.iinc 4 1, 3) := by decide +kernel
theorem dX12_mixMany_148 : decode cX12_mixMany 148 = .ok (.goto (-54), 3) := by decide +kernel
theorem dX12_mixMany_151 : decode cX12_mixMany 151 = .ok (.iinc 3 1, 3) := by decide +kernel
theorem dX12_mixMany_154 : decode cX12_mixMany 154 = .ok (.goto (-115), 3) := by decide +kernel
theorem dX12_mixMany_157 : decode cX12_mixMany 157 = .ok (.iinc 2 1, 3) := by decide +kernel
theorem dX12_mixMany_160 : decode cX12_mixMany 160 = .ok (.goto (-156), 3) := by decide +kernel
theorem dX12_mixMany_163 : decode cX12_mixMany 163 = .ok (.iload_n 1, 1) := by decide +kernel
theorem dX12_mixMany_164 : decode cX12_mixMany 164 = .ok (.ireturn, 1) := by decide +kernel
theorem dX12_beginsSet_0 : decode cX12_beginsSet 0 = .ok (.iconst 0, 1) := by decide +kernel
theorem dX12_beginsSet_1 : decode cX12_beginsSet 1 = .ok (.istore_n 2, 1) := by decide +kernel
theorem dX12_beginsSet_2 : decode cX12_beginsSet 2 = .ok (.iload_n 2, 1) := by decide +kernel
theorem dX12_beginsSet_3 : decode cX12_beginsSet 3 = .ok (.iload_n 1, 1) := by decide +kernel
theorem dX12_beginsSet_4 : decode cX12_beginsSet 4 = .ok (.if_icmp .ge 16, 3) := by decide +kernel
theorem dX12_beginsSet_7 : decode cX12_beginsSet 7 = .ok (.aload_n 0, 1) := by decide +kernel
theorem dX12_beginsSet_8 : decode cX12_beginsSet 8 = .ok (.getfield 42, 3) := by decide +kernel
theorem dX12_beginsSet_11 : decode cX12_beginsSet 11 = .ok (.iload_n 2, 1) := by decide +kernel
theorem dX12_beginsSet_12 : decode cX12_beginsSet 12 = .ok (.iload_n 2, 1) := by decide +kernel
theorem dX12_beginsSet_13 : decode cX12_beginsSet 13 = .ok (.iastore, 1) := by decide +kernel
theorem dX12_beginsSet_14 : decode cX12_beginsSet 14 = .ok (.iinc 2 1, 3) := by decide +kernel
theorem dX12_beginsSet_17 : decode cX12_beginsSet 17 = .ok (.goto (-15), 3) := by decide +kernel
theorem dX12_beginsSet_20 : decode cX12_beginsSet 20 = .ok (.return_, 1) := by decide +kernel
theorem dX12_nextSet_0 : decode cX12_nextSet 0 = .ok (.iload_n 1, 1) := by decide +kernel
theorem dX12_nextSet_1 : decode cX12_nextSet 1 = .ok (.iconst 1, 1) := by decide +kernel
theorem dX12_nextSet_2 : decode cX12_nextSet 2 = .ok (.isub, 1) := by decide +kernel
theorem dX12_nextSet_3 : decode cX12_nextSet 3 = .ok (.istore_n 2, 1) := by decide +kernel
theorem dX12_nextSet_4 : decode cX12_nextSet 4 = .ok (.iload_n 2, 1) := by decide +kernel
theorem dX12_nextSet_5 : decode cX12_nextSet 5 = .ok (.ifCond .lt 28, 3) := by decide +kernel
theorem dX12_nextSet_8 : decode cX12_nextSet 8 = .ok (.aload_n 0, 1) := by decide +kernel
theorem dX12_nextSet_9 : decode cX12_nextSet 9 = .ok (.getfield 42, 3) := by decide +kernel
theorem dX12_nextSet_12 : decode cX12_nextSet 12 = .ok (.iload_n 2, 1) := by decide +kernel
theorem dX12_nextSet_13 : decode cX12_nextSet 13 = .ok (.iaload, 1) := by decide +kernel
theorem dX12_nextSet_14 : decode cX12_nextSet 14 = .ok (.aload_n 0, 1) := by decide +kernel
theorem dX12_nextSet_15 : decode cX12_nextSet 15 = .ok (.getfield 16, 3) := by decide +kernel
theorem dX12_nextSet_18 : decode cX12_nextSet 18 = .ok (.iconst 0, 1) := by decide +kernel
theorem dX12_nextSet_19 : decode cX12_nextSet 19 = .ok (.iaload, 1) := by decide +kernel
theorem dX12_nextSet_20 : decode cX12_nextSet 20 = .ok (.iload_n 1, 1) := by decide +kernel
theorem dX12_nextSet_21 : decode cX12_nextSet 21 = .ok (.isub, 1) := by decide +kernel
theorem dX12_nextSet_22 : decode cX12_nextSet 22 = .ok (.iload_n 2, 1) := by decide +kernel
theorem dX12_nextSet_23 : decode cX12_nextSet 23 = .ok (.iadd, 1) := by decide +kernel
theorem dX12_nextSet_24 : decode cX12_nextSet 24 = .ok (.if_icmp .ne 9, 3) := by decide +kernel
theorem dX12_nextSet_27 : decode cX12_nextSet 27 = .ok (.iinc 2 (-1), 3) := by decide +kernel
theorem dX12_nextSet_30 : decode cX12_nextSet 30 = .ok (.goto (-26), 3) := by decide +kernel
theorem dX12_nextSet_33 : decode cX12_nextSet 33 = .ok (.iload_n 2, 1) := by decide +kernel
theorem dX12_nextSet_34 : decode cX12_nextSet 34 = .ok (.ifCond .ge 5, 3) := by decide +kernel
theorem dX12_nextSet_37 : decode cX12_nextSet 37 = .ok (.iconst 0, 1) := by decide +kernel
theorem dX12_nextSet_38 : decode cX12_nextSet 38 = .ok (.ireturn, 1) := by decide +kernel
theorem dX12_nextSet_39 : decode cX12_nextSet 39 = .ok (.aload_n 0, 1) := by decide +kernel
theorem dX12_nextSet_40 : decode cX12_nextSet 40 = .ok (.getfield 42, 3) := by decide +kernel
theorem dX12_nextSet_43 : decode cX12_nextSet 43 = .ok (.iload_n 2, 1) := by decide +kernel
theorem dX12_nextSet_44 : decode cX12_nextSet 44 = .ok (.dup2, 1) := by decide +kernel
theorem dX12_nextSet_45 : decode cX12_nextSet 45 = .ok (.iaload, 1) := by decide +kernel
theorem dX12_nextSet_46 : decode cX12_nextSet 46 = .ok (.iconst 1, 1) := by decide +kernel
theorem dX12_nextSet_47 : decode cX12_nextSet 47 = .ok (.iadd, 1) := by decide +kernel
theorem dX12_nextSet_48 : decode cX12_nextSet 48 = .ok (.iastore, 1) := by decide +kernel
theorem dX12_nextSet_49 : decode cX12_nextSet 49 = .ok (.iload_n 2, 1) := by decide +kernel
theorem dX12_nextSet_50 : decode cX12_nextSet 50 = .ok (.iconst 1, 1) := by decide +kernel
theorem dX12_nextSet_51 : decode cX12_nextSet 51 = .ok (.iadd, 1) := by decide +kernel
theorem dX12_nextSet_52 : decode cX12_nextSet 52 = .ok (.istore_n 3, 1) := by decide +kernel
theorem dX12_nextSet_53 : decode cX12_nextSet 53 = .ok (.iload_n 3, 1) := by decide +kernel
theorem dX12_nextSet_54 : decode cX12_nextSet 54 = .ok (.iload_n 1, 1) := by decide +kernel
theorem dX12_nextSet_55 : decode cX12_nextSet 55 = .ok (.if_icmp .ge 25, 3) := by decide +kernel
theorem dX12_nextSet_58 : decode cX12_nextSet 58 = .ok (.aload_n 0, 1) := by decide +kernel
theorem dX12_nextSet_59 : decode cX12_nextSet 59 = .ok (.getfield 42, 3) := by decide +kernel
theorem dX12_nextSet_62 : decode cX12_nextSet 62 = .ok (.iload_n 3, 1) := by decide +kernel
theorem dX12_nextSet_63 : decode cX12_nextSet 63 = .ok (.aload_n 0, 1) := by decide +kernel
theorem dX12_nextSet_64 : decode cX12_nextSet 64 = .ok (.getfield 42, 3) := by decide +kernel
theorem dX12_nextSet_67 : decode cX12_nextSet 67 = .ok (.iload_n 3, 1) := by decide +kernel
theorem dX12_nextSet_68 : decode cX12_nextSet 68 = .ok (.iconst 1, 1) := by decide +kernel
theorem dX12_nextSet_69 : decode cX12_nextSet 69 = .ok (.isub, 1) := by decide +kernel
theorem dX12_nextSet_70 : decode cX12_nextSet 70 = .ok (.iaload, 1) := by decide +kernel
theorem dX12_nextSet_71 : decode cX12_nextSet 71 = .ok (.iconst 1, 1) := by decide +kernel
theorem dX12_nextSet_72 : decode cX12_nextSet 72 = .ok (.iadd, 1) := by decide +kernel
theorem dX12_nextSet_73 : decode cX12_nextSet 73 = .ok (.iastore, 1) := by decide +kernel
theorem dX12_nextSet_74 : decode cX12_nextSet 74 = .ok (.iinc 3 1, 3) := by decide +kernel
theorem dX12_nextSet_77 : decode cX12_nextSet 77 = .ok (.goto (-24), 3) := by decide +kernel
theorem dX12_nextSet_80 : decode cX12_nextSet 80 = .ok (.iconst 1, 1) := by decide +kernel
theorem dX12_nextSet_81 : decode cX12_nextSet 81 = .ok (.ireturn, 1) := by decide +kernel
theorem dX12_levelsOfSet_0 : decode cX12_levelsOfSet 0 = .ok (.iconst 1, 1) := by decide +kernel
theorem dX12_levelsOfSet_1 : decode cX12_levelsOfSet 1 = .ok (.istore_n 2, 1) := by decide +kernel
theorem dX12_levelsOfSet_2 : decode cX12_levelsOfSet 2 = .ok (.iconst 0, 1) := by decide +kernel
theorem dX12_levelsOfSet_3 : decode cX12_levelsOfSet 3 = .ok (.istore_n 3, 1) := by decide +kernel
theorem dX12_levelsOfSet_4 : decode cX12_levelsOfSet 4 = .ok (.iload_n 3, 1) := by decide +kernel
theorem dX12_levelsOfSet_5 : decode cX12_levelsOfSet 5 = .ok (.iload_n 1, 1) := by decide +kernel
theorem dX12_levelsOfSet_6 : decode cX12_levelsOfSet 6 = .ok (.if_icmp .ge 25, 3) := by decide +kernel
theorem dX12_levelsOfSet_9 : decode cX12_levelsOfSet 9 = .ok (.iload_n 2, 1) := by decide +kernel
theorem dX12_levelsOfSet_10 : decode cX12_levelsOfSet 10 = .ok (.aload_n 0, 1) := by decide +kernel
theorem dX12_levelsOfSet_11 : decode cX12_levelsOfSet 11 = .ok (.getfield 16, 3) := by decide +kernel
theorem dX12_levelsOfSet_14 : decode cX12_levelsOfSet 14 = .ok (.iconst 5, 1) := by decide +kernel
theorem dX12_levelsOfSet_15 : decode cX12_levelsOfSet 15 = .ok (.aload_n 0, 1) := by decide +kernel
theorem dX12_levelsOfSet_16 : decode cX12_levelsOfSet 16 = .ok (.getfield 42, 3) := by decide +kernel
theorem dX12_levelsOfSet_19 : decode cX12_levelsOfSet 19 = .ok (.iload_n 3, 1) := by decide +kernel
theorem dX12_levelsOfSet_20 : decode cX12_levelsOfSet 20 = .ok (.iaload, 1) := by decide +kernel
theorem dX12_levelsOfSet_21 : decode cX12_levelsOfSet 21 = .ok (.iadd, 1) := by decide +kernel
theorem dX12_levelsOfSet_22 : decode cX12_levelsOfSet 22 = .ok (.iaload, 1) := by decide +kernel
theorem dX12_levelsOfSet_23 : decode cX12_levelsOfSet 23 = .ok (.imul, 1) := by decide +kernel
theorem dX12_levelsOfSet_24 : decode cX12_levelsOfSet 24 = .ok (.istore_n 2, 1) := by decide +kernel
theorem dX12_levelsOfSet_25 : decode cX12_levelsOfSet 25 = .ok (.iinc 3 1, 3) := by decide +kernel
theorem dX12_levelsOfSet_28 : decode cX12_levelsOfSet 28 = .ok (.goto (-24), 3) := by decide +kernel
theorem dX12_levelsOfSet_31 : decode cX12_levelsOfSet 31 = .ok (.iload_n 2, 1) := by decide +kernel
theorem dX12_levelsOfSet_32 : decode cX12_levelsOfSet 32 = .ok (.ireturn, 1) := by decide +kernel
theorem dX12_levelOf_0 : decode cX12_levelOf 0 = .ok (.iload_n 1, 1) := by decide +kernel
theorem dX12_levelOf_1 : decode cX12_levelOf 1 = .ok (.istore 4, 2) := by decide +kernel
theorem dX12_levelOf_3 : decode cX12_levelOf 3 = .ok (.iload_n 3, 1) := by decide +kernel
theorem dX12_levelOf_4 : decode cX12_levelOf 4 = .ok (.iconst 1, 1) := by decide +kernel
theorem dX12_levelOf_5 : decode cX12_levelOf 5 = .ok (.isub, 1) := by decide +kernel
theorem dX12_levelOf_6 : decode cX12_levelOf 6 = .ok (.istore 5, 2) := by decide +kernel
theorem dX12_levelOf_8 : decode cX12_levelOf 8 = .ok (.iload 5, 2) := by decide +kernel
theorem dX12_levelOf_10 : decode cX12_levelOf 10 = .ok (.iload_n 2, 1) := by decide +kernel
theorem dX12_levelOf_11 : decode cX12_levelOf 11 = .ok (.if_icmp .le 28, 3) := by decide +kernel
theorem dX12_levelOf_14 : decode cX12_levelOf 14 = .ok (.iload 4, 2) := by decide +kernel
theorem dX12_levelOf_16 : decode cX12_levelOf 16 = .ok (.aload_n 0, 1) := by decide +kernel
theorem dX12_levelOf_17 : decode cX12_levelOf 17 = .ok (.getfield 16, 3) := by decide +kernel
theorem dX12_levelOf_20 : decode cX12_levelOf 20 = .ok (.iconst 5, 1) := by decide +kernel
theorem dX12_levelOf_21 : decode cX12_levelOf 21 = .ok (.aload_n 0, 1) := by decide +kernel
theorem dX12_levelOf_22 : decode cX12_levelOf 22 = .ok (.getfield 42, 3) := by decide +kernel
theorem dX12_levelOf_25 : decode cX12_levelOf 25 = .ok (.iload 5, 2) := by decide +kernel
theorem dX12_levelOf_27 : decode cX12_levelOf 27 = .ok (.iaload, 1) := by decide +kernel
theorem dX12_levelOf_28 : decode cX12_levelOf 28 = .ok (.iadd, 1) := by decide +kernel
theorem dX12_levelOf_29 : decode cX12_levelOf 29 = .ok (.iaload, 1) := by decide +kernel
theorem dX12_levelOf_30 : decode cX12_levelOf 30 = .ok (.idiv, 1) := by decide +kernel
theorem dX12_levelOf_31 : decode cX12_levelOf 31 = .ok (.istore 4, 2) := by decide +kernel
theorem dX12_levelOf_33 : decode cX12_levelOf 33 = .ok (.iinc 5 (-1), 3) := by decide +kernel
theorem dX12_levelOf_36 : decode cX12_levelOf 36 = .ok (.goto (-28), 3) := by decide +kernel
theorem dX12_levelOf_39 : decode cX12_levelOf 39 = .ok (.iload 4, 2) := by decide +kernel
theorem dX12_levelOf_41 : decode cX12_levelOf 41 = .ok (.aload_n 0, 1) := by decide +kernel
theorem dX12_levelOf_42 : decode cX12_levelOf 42 = .ok (.getfield 16, 3) := by decide +kernel
theorem dX12_levelOf_45 : decode cX12_levelOf 45 = .ok (.iconst 5, 1) := by decide +kernel
theorem dX12_levelOf_46 : decode cX12_levelOf 46 = .ok (.aload_n 0, 1) := by decide +kernel
theorem dX12_levelOf_47 : decode cX12_levelOf 47 = .ok (.getfield 42, 3) := by decide +kernel
theorem dX12_levelOf_50 : decode cX12_levelOf 50 = .ok (.iload_n 2, 1) := by decide +kernel
theorem dX12_levelOf_51 : decode cX12_levelOf 51 = .ok (.iaload, 1) := by decide +kernel
theorem dX12_levelOf_52 : decode cX12_levelOf 52 = .ok (.iadd, 1) := by decide +kernel
theorem dX12_levelOf_53 : decode cX12_levelOf 53 = .ok (.iaload, 1) := by decide +kernel
theorem dX12_levelOf_54 : decode cX12_levelOf 54 = .ok (.irem, 1) := by decide +kernel
theorem dX12_levelOf_55 : decode cX12_levelOf 55 = .ok (.ireturn, 1) := by decide +kernel
theorem dX12_laysMixes_0 : decode cX12_laysMixes 0 = .ok (.aload_n 0, 1) := by decide +kernel
theorem dX12_laysMixes_1 : decode cX12_laysMixes 1 = .ok (.iconst 0, 1) := by decide +kernel
theorem dX12_laysMixes_2 : decode cX12_laysMixes 2 = .ok (.putfield 168, 3) := by decide +kernel
theorem dX12_laysMixes_5 : decode cX12_laysMixes 5 = .ok (.aload_n 0, 1) := by decide +kernel
theorem dX12_laysMixes_6 : decode cX12_laysMixes 6 = .ok (.getfield 16, 3) := by decide +kernel
theorem dX12_laysMixes_9 : decode cX12_laysMixes 9 = .ok (.iconst 1, 1) := by decide +kernel
theorem dX12_laysMixes_10 : decode cX12_laysMixes 10 = .ok (.iaload, 1) := by decide +kernel
theorem dX12_laysMixes_11 : decode cX12_laysMixes 11 = .ok (.istore_n 1, 1) := by decide +kernel
theorem dX12_laysMixes_12 : decode cX12_laysMixes 12 = .ok (.aload_n 0, 1) := by decide +kernel
theorem dX12_laysMixes_13 : decode cX12_laysMixes 13 = .ok (.getfield 16, 3) := by decide +kernel
theorem dX12_laysMixes_16 : decode cX12_laysMixes 16 = .ok (.iconst 0, 1) := by decide +kernel
theorem dX12_laysMixes_17 : decode cX12_laysMixes 17 = .ok (.iaload, 1) := by decide +kernel
theorem dX12_laysMixes_18 : decode cX12_laysMixes 18 = .ok (.ifCond .ne 4, 3) := by decide +kernel
theorem dX12_laysMixes_21 : decode cX12_laysMixes 21 = .ok (.return_, 1) := by decide +kernel
theorem dX12_laysMixes_22 : decode cX12_laysMixes 22 = .ok (.aload_n 0, 1) := by decide +kernel
theorem dX12_laysMixes_23 : decode cX12_laysMixes 23 = .ok (.iload_n 1, 1) := by decide +kernel
theorem dX12_laysMixes_24 : decode cX12_laysMixes 24 = .ok (.invokevirtual 186, 3) := by decide +kernel
theorem dX12_laysMixes_27 : decode cX12_laysMixes 27 = .ok (.iconst 1, 1) := by decide +kernel
theorem dX12_laysMixes_28 : decode cX12_laysMixes 28 = .ok (.istore_n 2, 1) := by decide +kernel
theorem dX12_laysMixes_29 : decode cX12_laysMixes 29 = .ok (.iload_n 2, 1) := by decide +kernel
theorem dX12_laysMixes_30 : decode cX12_laysMixes 30 = .ok (.ifCond .eq 102, 3) := by decide +kernel
theorem dX12_laysMixes_33 : decode cX12_laysMixes 33 = .ok (.aload_n 0, 1) := by decide +kernel
theorem dX12_laysMixes_34 : decode cX12_laysMixes 34 = .ok (.iload_n 1, 1) := by decide +kernel
theorem dX12_laysMixes_35 : decode cX12_laysMixes 35 = .ok (.invokevirtual 190, 3) := by decide +kernel
theorem dX12_laysMixes_38 : decode cX12_laysMixes 38 = .ok (.istore_n 3, 1) := by decide +kernel
theorem dX12_laysMixes_39 : decode cX12_laysMixes 39 = .ok (.iconst 0, 1) := by decide +kernel
theorem dX12_laysMixes_40 : decode cX12_laysMixes 40 = .ok (.istore 4, 2) := by decide +kernel
theorem dX12_laysMixes_42 : decode cX12_laysMixes 42 = .ok (.iload 4, 2) := by decide +kernel
theorem dX12_laysMixes_44 : decode cX12_laysMixes 44 = .ok (.iload_n 3, 1) := by decide +kernel
theorem dX12_laysMixes_45 : decode cX12_laysMixes 45 = .ok (.if_icmp .ge 78, 3) := by decide +kernel
theorem dX12_laysMixes_48 : decode cX12_laysMixes 48 = .ok (.iconst 0, 1) := by decide +kernel
theorem dX12_laysMixes_49 : decode cX12_laysMixes 49 = .ok (.istore 5, 2) := by decide +kernel
theorem dX12_laysMixes_51 : decode cX12_laysMixes 51 = .ok (.iload 5, 2) := by decide +kernel
theorem dX12_laysMixes_53 : decode cX12_laysMixes 53 = .ok (.iload_n 1, 1) := by decide +kernel
theorem dX12_laysMixes_54 : decode cX12_laysMixes 54 = .ok (.if_icmp .ge 53, 3) := by decide +kernel
theorem dX12_laysMixes_57 : decode cX12_laysMixes 57 = .ok (.aload_n 0, 1) := by decide +kernel
theorem dX12_laysMixes_58 : decode cX12_laysMixes 58 = .ok (.getfield 32, 3) := by decide +kernel
theorem dX12_laysMixes_61 : decode cX12_laysMixes 61 = .ok (.iconst 3, 1) := by decide +kernel
theorem dX12_laysMixes_62 : decode cX12_laysMixes 62 = .ok (.aload_n 0, 1) := by decide +kernel
theorem dX12_laysMixes_63 : decode cX12_laysMixes 63 = .ok (.getfield 168, 3) := by decide +kernel
theorem dX12_laysMixes_66 : decode cX12_laysMixes 66 = .ok (.imul, 1) := by decide +kernel
theorem dX12_laysMixes_67 : decode cX12_laysMixes 67 = .ok (.iload 5, 2) := by decide +kernel
theorem dX12_laysMixes_69 : decode cX12_laysMixes 69 = .ok (.iadd, 1) := by decide +kernel
theorem dX12_laysMixes_70 : decode cX12_laysMixes 70 = .ok (.aload_n 0, 1) := by decide +kernel
theorem dX12_laysMixes_71 : decode cX12_laysMixes 71 = .ok (.getfield 42, 3) := by decide +kernel
theorem dX12_laysMixes_74 : decode cX12_laysMixes 74 = .ok (.iload 5, 2) := by decide +kernel
theorem dX12_laysMixes_76 : decode cX12_laysMixes 76 = .ok (.iaload, 1) := by decide +kernel
theorem dX12_laysMixes_77 : decode cX12_laysMixes 77 = .ok (.iastore, 1) := by decide +kernel
theorem dX12_laysMixes_78 : decode cX12_laysMixes 78 = .ok (.aload_n 0, 1) := by decide +kernel
theorem dX12_laysMixes_79 : decode cX12_laysMixes 79 = .ok (.getfield 35, 3) := by decide +kernel
theorem dX12_laysMixes_82 : decode cX12_laysMixes 82 = .ok (.iconst 3, 1) := by decide +kernel
theorem dX12_laysMixes_83 : decode cX12_laysMixes 83 = .ok (.aload_n 0, 1) := by decide +kernel
theorem dX12_laysMixes_84 : decode cX12_laysMixes 84 = .ok (.getfield 168, 3) := by decide +kernel
theorem dX12_laysMixes_87 : decode cX12_laysMixes 87 = .ok (.imul, 1) := by decide +kernel
theorem dX12_laysMixes_88 : decode cX12_laysMixes 88 = .ok (.iload 5, 2) := by decide +kernel
theorem dX12_laysMixes_90 : decode cX12_laysMixes 90 = .ok (.iadd, 1) := by decide +kernel
theorem dX12_laysMixes_91 : decode cX12_laysMixes 91 = .ok (.aload_n 0, 1) := by decide +kernel
theorem dX12_laysMixes_92 : decode cX12_laysMixes 92 = .ok (.iload 4, 2) := by decide +kernel
theorem dX12_laysMixes_94 : decode cX12_laysMixes 94 = .ok (.iload 5, 2) := by decide +kernel
theorem dX12_laysMixes_96 : decode cX12_laysMixes 96 = .ok (.iload_n 1, 1) := by decide +kernel
theorem dX12_laysMixes_97 : decode cX12_laysMixes 97 = .ok (.invokevirtual 193, 3) := by decide +kernel
theorem dX12_laysMixes_100 : decode cX12_laysMixes 100 = .ok (.iastore, 1) := by decide +kernel
theorem dX12_laysMixes_101 : decode cX12_laysMixes 101 = .ok (.iinc 5 1, 3) := by decide +kernel
theorem dX12_laysMixes_104 : decode cX12_laysMixes 104 = .ok (.goto (-53), 3) := by decide +kernel
theorem dX12_laysMixes_107 : decode cX12_laysMixes 107 = .ok (.aload_n 0, 1) := by decide +kernel
theorem dX12_laysMixes_108 : decode cX12_laysMixes 108 = .ok (.dup, 1) := by decide +kernel
theorem dX12_laysMixes_109 : decode cX12_laysMixes 109 = .ok (.getfield 168, 3) := by decide +kernel
theorem dX12_laysMixes_112 : decode cX12_laysMixes 112 = .ok (.iconst 1, 1) := by decide +kernel
theorem dX12_laysMixes_113 : decode cX12_laysMixes 113 = .ok (.iadd, 1) := by decide +kernel
theorem dX12_laysMixes_114 : decode cX12_laysMixes 114 = .ok (.putfield 168, 3) := by decide +kernel
theorem dX12_laysMixes_117 : decode cX12_laysMixes 117 = .ok (.iinc 4 1, 3) := by decide +kernel
theorem dX12_laysMixes_120 : decode cX12_laysMixes 120 = .ok (.goto (-78), 3) := by decide +kernel
theorem dX12_laysMixes_123 : decode cX12_laysMixes 123 = .ok (.aload_n 0, 1) := by decide +kernel
theorem dX12_laysMixes_124 : decode cX12_laysMixes 124 = .ok (.iload_n 1, 1) := by decide +kernel
theorem dX12_laysMixes_125 : decode cX12_laysMixes 125 = .ok (.invokevirtual 197, 3) := by decide +kernel
theorem dX12_laysMixes_128 : decode cX12_laysMixes 128 = .ok (.istore_n 2, 1) := by decide +kernel
theorem dX12_laysMixes_129 : decode cX12_laysMixes 129 = .ok (.goto (-100), 3) := by decide +kernel
theorem dX12_laysMixes_132 : decode cX12_laysMixes 132 = .ok (.iconst 0, 1) := by decide +kernel
theorem dX12_laysMixes_133 : decode cX12_laysMixes 133 = .ok (.istore_n 3, 1) := by decide +kernel
theorem dX12_laysMixes_134 : decode cX12_laysMixes 134 = .ok (.iload_n 3, 1) := by decide +kernel
theorem dX12_laysMixes_135 : decode cX12_laysMixes 135 = .ok (.aload_n 0, 1) := by decide +kernel
theorem dX12_laysMixes_136 : decode cX12_laysMixes 136 = .ok (.getfield 168, 3) := by decide +kernel
theorem dX12_laysMixes_139 : decode cX12_laysMixes 139 = .ok (.if_icmp .ge 85, 3) := by decide +kernel
theorem dX12_laysMixes_142 : decode cX12_laysMixes 142 = .ok (.iconst 0, 1) := by decide +kernel
theorem dX12_laysMixes_143 : decode cX12_laysMixes 143 = .ok (.istore 4, 2) := by decide +kernel
theorem dX12_laysMixes_145 : decode cX12_laysMixes 145 = .ok (.iload 4, 2) := by decide +kernel
theorem dX12_laysMixes_147 : decode cX12_laysMixes 147 = .ok (.bipush 8, 2) := by decide +kernel
theorem dX12_laysMixes_149 : decode cX12_laysMixes 149 = .ok (.if_icmp .ge 17, 3) := by decide +kernel
theorem dX12_laysMixes_152 : decode cX12_laysMixes 152 = .ok (.aload_n 0, 1) := by decide +kernel
theorem dX12_laysMixes_153 : decode cX12_laysMixes 153 = .ok (.getfield 26, 3) := by decide +kernel
theorem dX12_laysMixes_156 : decode cX12_laysMixes 156 = .ok (.iload 4, 2) := by decide +kernel
theorem dX12_laysMixes_158 : decode cX12_laysMixes 158 = .ok (.iconst (-1), 1) := by decide +kernel
theorem dX12_laysMixes_159 : decode cX12_laysMixes 159 = .ok (.iastore, 1) := by decide +kernel
theorem dX12_laysMixes_160 : decode cX12_laysMixes 160 = .ok (.iinc 4 1, 3) := by decide +kernel
theorem dX12_laysMixes_163 : decode cX12_laysMixes 163 = .ok (.goto (-18), 3) := by decide +kernel
theorem dX12_laysMixes_166 : decode cX12_laysMixes 166 = .ok (.iconst 0, 1) := by decide +kernel
theorem dX12_laysMixes_167 : decode cX12_laysMixes 167 = .ok (.istore 4, 2) := by decide +kernel
theorem dX12_laysMixes_169 : decode cX12_laysMixes 169 = .ok (.iload 4, 2) := by decide +kernel
theorem dX12_laysMixes_171 : decode cX12_laysMixes 171 = .ok (.iload_n 1, 1) := by decide +kernel
theorem dX12_laysMixes_172 : decode cX12_laysMixes 172 = .ok (.if_icmp .ge 36, 3) := by decide +kernel
theorem dX12_laysMixes_175 : decode cX12_laysMixes 175 = .ok (.aload_n 0, 1) := by decide +kernel
theorem dX12_laysMixes_176 : decode cX12_laysMixes 176 = .ok (.getfield 26, 3) := by decide +kernel
theorem dX12_laysMixes_179 : decode cX12_laysMixes 179 = .ok (.aload_n 0, 1) := by decide +kernel
theorem dX12_laysMixes_180 : decode cX12_laysMixes 180 = .ok (.getfield 32, 3) := by decide +kernel
theorem dX12_laysMixes_183 : decode cX12_laysMixes 183 = .ok (.iconst 3, 1) := by decide +kernel
theorem dX12_laysMixes_184 : decode cX12_laysMixes 184 = .ok (.iload_n 3, 1) := by decide +kernel
theorem dX12_laysMixes_185 : decode cX12_laysMixes 185 = .ok (.imul, 1) := by decide +kernel
theorem dX12_laysMixes_186 : decode cX12_laysMixes 186 = .ok (.iload 4, 2) := by decide +kernel
theorem dX12_laysMixes_188 : decode cX12_laysMixes 188 = .ok (.iadd, 1) := by decide +kernel
theorem dX12_laysMixes_189 : decode cX12_laysMixes 189 = .ok (.iaload, 1) := by decide +kernel
theorem dX12_laysMixes_190 : decode cX12_laysMixes 190 = .ok (.aload_n 0, 1) := by decide +kernel
theorem dX12_laysMixes_191 : decode cX12_laysMixes 191 = .ok (.getfield 35, 3) := by decide +kernel
theorem dX12_laysMixes_194 : decode cX12_laysMixes 194 = .ok (.iconst 3, 1) := by decide +kernel
theorem dX12_laysMixes_195 : decode cX12_laysMixes 195 = .ok (.iload_n 3, 1) := by decide +kernel
theorem dX12_laysMixes_196 : decode cX12_laysMixes 196 = .ok (.imul, 1) := by decide +kernel
theorem dX12_laysMixes_197 : decode cX12_laysMixes 197 = .ok (.iload 4, 2) := by decide +kernel
theorem dX12_laysMixes_199 : decode cX12_laysMixes 199 = .ok (.iadd, 1) := by decide +kernel
theorem dX12_laysMixes_200 : decode cX12_laysMixes 200 = .ok (.iaload, 1) := by decide +kernel
theorem dX12_laysMixes_201 : decode cX12_laysMixes 201 = .ok (.iastore, 1) := by decide +kernel
theorem dX12_laysMixes_202 : decode cX12_laysMixes 202 = .ok (.iinc 4 1, 3) := by decide +kernel
theorem dX12_laysMixes_205 : decode cX12_laysMixes 205 = .ok (.goto (-36), 3) := by decide +kernel
theorem dX12_laysMixes_208 : decode cX12_laysMixes 208 = .ok (.aload_n 0, 1) := by decide +kernel
theorem dX12_laysMixes_209 : decode cX12_laysMixes 209 = .ok (.getfield 38, 3) := by decide +kernel
theorem dX12_laysMixes_212 : decode cX12_laysMixes 212 = .ok (.iload_n 3, 1) := by decide +kernel
theorem dX12_laysMixes_213 : decode cX12_laysMixes 213 = .ok (.aload_n 0, 1) := by decide +kernel
theorem dX12_laysMixes_214 : decode cX12_laysMixes 214 = .ok (.invokevirtual 162, 3) := by decide +kernel
theorem dX12_laysMixes_217 : decode cX12_laysMixes 217 = .ok (.bastore, 1) := by decide +kernel
theorem dX12_laysMixes_218 : decode cX12_laysMixes 218 = .ok (.iinc 3 1, 3) := by decide +kernel
theorem dX12_laysMixes_221 : decode cX12_laysMixes 221 = .ok (.goto (-87), 3) := by decide +kernel
theorem dX12_laysMixes_224 : decode cX12_laysMixes 224 = .ok (.return_, 1) := by decide +kernel
theorem dX12_cellAt_0 : decode cX12_cellAt 0 = .ok (.aload_n 0, 1) := by decide +kernel
theorem dX12_cellAt_1 : decode cX12_cellAt 1 = .ok (.getfield 16, 3) := by decide +kernel
theorem dX12_cellAt_4 : decode cX12_cellAt 4 = .ok (.sipush 161, 3) := by decide +kernel
theorem dX12_cellAt_7 : decode cX12_cellAt 7 = .ok (.bipush 8, 2) := by decide +kernel
theorem dX12_cellAt_9 : decode cX12_cellAt 9 = .ok (.iload_n 1, 1) := by decide +kernel
theorem dX12_cellAt_10 : decode cX12_cellAt 10 = .ok (.imul, 1) := by decide +kernel
theorem dX12_cellAt_11 : decode cX12_cellAt 11 = .ok (.iadd, 1) := by decide +kernel
theorem dX12_cellAt_12 : decode cX12_cellAt 12 = .ok (.iload_n 2, 1) := by decide +kernel
theorem dX12_cellAt_13 : decode cX12_cellAt 13 = .ok (.iadd, 1) := by decide +kernel
theorem dX12_cellAt_14 : decode cX12_cellAt 14 = .ok (.iaload, 1) := by decide +kernel
theorem dX12_cellAt_15 : decode cX12_cellAt 15 = .ok (.ireturn, 1) := by decide +kernel
theorem dX12_hasMix_0 : decode cX12_hasMix 0 = .ok (.iconst 0, 1) := by decide +kernel
theorem dX12_hasMix_1 : decode cX12_hasMix 1 = .ok (.istore_n 3, 1) := by decide +kernel
theorem dX12_hasMix_2 : decode cX12_hasMix 2 = .ok (.iload_n 3, 1) := by decide +kernel
theorem dX12_hasMix_3 : decode cX12_hasMix 3 = .ok (.aload_n 0, 1) := by decide +kernel
theorem dX12_hasMix_4 : decode cX12_hasMix 4 = .ok (.getfield 16, 3) := by decide +kernel
theorem dX12_hasMix_7 : decode cX12_hasMix 7 = .ok (.iconst 1, 1) := by decide +kernel
theorem dX12_hasMix_8 : decode cX12_hasMix 8 = .ok (.iaload, 1) := by decide +kernel
theorem dX12_hasMix_9 : decode cX12_hasMix 9 = .ok (.if_icmp .ge 39, 3) := by decide +kernel
theorem dX12_hasMix_12 : decode cX12_hasMix 12 = .ok (.aload_n 0, 1) := by decide +kernel
theorem dX12_hasMix_13 : decode cX12_hasMix 13 = .ok (.iload_n 1, 1) := by decide +kernel
theorem dX12_hasMix_14 : decode cX12_hasMix 14 = .ok (.aload_n 0, 1) := by decide +kernel
theorem dX12_hasMix_15 : decode cX12_hasMix 15 = .ok (.getfield 32, 3) := by decide +kernel
theorem dX12_hasMix_18 : decode cX12_hasMix 18 = .ok (.iconst 3, 1) := by decide +kernel
theorem dX12_hasMix_19 : decode cX12_hasMix 19 = .ok (.iload_n 2, 1) := by decide +kernel
theorem dX12_hasMix_20 : decode cX12_hasMix 20 = .ok (.imul, 1) := by decide +kernel
theorem dX12_hasMix_21 : decode cX12_hasMix 21 = .ok (.iload_n 3, 1) := by decide +kernel
theorem dX12_hasMix_22 : decode cX12_hasMix 22 = .ok (.iadd, 1) := by decide +kernel
theorem dX12_hasMix_23 : decode cX12_hasMix 23 = .ok (.iaload, 1) := by decide +kernel
theorem dX12_hasMix_24 : decode cX12_hasMix 24 = .ok (.invokevirtual 200, 3) := by decide +kernel
theorem dX12_hasMix_27 : decode cX12_hasMix 27 = .ok (.aload_n 0, 1) := by decide +kernel
theorem dX12_hasMix_28 : decode cX12_hasMix 28 = .ok (.getfield 35, 3) := by decide +kernel
theorem dX12_hasMix_31 : decode cX12_hasMix 31 = .ok (.iconst 3, 1) := by decide +kernel
theorem dX12_hasMix_32 : decode cX12_hasMix 32 = .ok (.iload_n 2, 1) := by decide +kernel
theorem dX12_hasMix_33 : decode cX12_hasMix 33 = .ok (.imul, 1) := by decide +kernel
theorem dX12_hasMix_34 : decode cX12_hasMix 34 = .ok (.iload_n 3, 1) := by decide +kernel
theorem dX12_hasMix_35 : decode cX12_hasMix 35 = .ok (.iadd, 1) := by decide +kernel
theorem dX12_hasMix_36 : decode cX12_hasMix 36 = .ok (.iaload, 1) := by decide +kernel
theorem dX12_hasMix_37 : decode cX12_hasMix 37 = .ok (.if_icmp .eq 5, 3) := by decide +kernel
theorem dX12_hasMix_40 : decode cX12_hasMix 40 = .ok (.iconst 0, 1) := by decide +kernel
theorem dX12_hasMix_41 : decode cX12_hasMix 41 = .ok (.ireturn, 1) := by decide +kernel
theorem dX12_hasMix_42 : decode cX12_hasMix 42 = .ok (.iinc 3 1, 3) := by decide +kernel
theorem dX12_hasMix_45 : decode cX12_hasMix 45 = .ok (.goto (-43), 3) := by decide +kernel
theorem dX12_hasMix_48 : decode cX12_hasMix 48 = .ok (.iconst 1, 1) := by decide +kernel
theorem dX12_hasMix_49 : decode cX12_hasMix 49 = .ok (.ireturn, 1) := by decide +kernel
theorem dX12_rowsWith_0 : decode cX12_rowsWith 0 = .ok (.iconst 0, 1) := by decide +kernel
theorem dX12_rowsWith_1 : decode cX12_rowsWith 1 = .ok (.istore 4, 2) := by decide +kernel
theorem dX12_rowsWith_3 : decode cX12_rowsWith 3 = .ok (.iload_n 2, 1) := by decide +kernel
theorem dX12_rowsWith_4 : decode cX12_rowsWith 4 = .ok (.istore 5, 2) := by decide +kernel
theorem dX12_rowsWith_6 : decode cX12_rowsWith 6 = .ok (.iload 5, 2) := by decide +kernel
theorem dX12_rowsWith_8 : decode cX12_rowsWith 8 = .ok (.iload_n 3, 1) := by decide +kernel
theorem dX12_rowsWith_9 : decode cX12_rowsWith 9 = .ok (.if_icmp .ge 29, 3) := by decide +kernel
theorem dX12_rowsWith_12 : decode cX12_rowsWith 12 = .ok (.iload 4, 2) := by decide +kernel
theorem dX12_rowsWith_14 : decode cX12_rowsWith 14 = .ok (.aload_n 0, 1) := by decide +kernel
theorem dX12_rowsWith_15 : decode cX12_rowsWith 15 = .ok (.iload 5, 2) := by decide +kernel
theorem dX12_rowsWith_17 : decode cX12_rowsWith 17 = .ok (.iload_n 1, 1) := by decide +kernel
theorem dX12_rowsWith_18 : decode cX12_rowsWith 18 = .ok (.invokevirtual 203, 3) := by decide +kernel
theorem dX12_rowsWith_21 : decode cX12_rowsWith 21 = .ok (.ifCond .eq 7, 3) := by decide +kernel
theorem dX12_rowsWith_24 : decode cX12_rowsWith 24 = .ok (.iconst 1, 1) := by decide +kernel
theorem dX12_rowsWith_25 : decode cX12_rowsWith 25 = .ok (.goto 4, 3) := by decide +kernel
theorem dX12_rowsWith_28 : decode cX12_rowsWith 28 = .ok (.iconst 0, 1) := by decide +kernel
theorem dX12_rowsWith_29 : decode cX12_rowsWith 29 = .ok (.iadd, 1) := by decide +kernel
theorem dX12_rowsWith_30 : decode cX12_rowsWith 30 = .ok (.istore 4, 2) := by decide +kernel
theorem dX12_rowsWith_32 : decode cX12_rowsWith 32 = .ok (.iinc 5 1, 3) := by decide +kernel
theorem dX12_rowsWith_35 : decode cX12_rowsWith 35 = .ok (.goto (-29), 3) := by decide +kernel
theorem dX12_rowsWith_38 : decode cX12_rowsWith 38 = .ok (.iload 4, 2) := by decide +kernel
theorem dX12_rowsWith_40 : decode cX12_rowsWith 40 = .ok (.ireturn, 1) := by decide +kernel
theorem dX12_laysOpen_0 : decode cX12_laysOpen 0 = .ok (.iconst 0, 1) := by decide +kernel
theorem dX12_laysOpen_1 : decode cX12_laysOpen 1 = .ok (.istore_n 1, 1) := by decide +kernel
theorem dX12_laysOpen_2 : decode cX12_laysOpen 2 = .ok (.iconst 0, 1) := by decide +kernel
theorem dX12_laysOpen_3 : decode cX12_laysOpen 3 = .ok (.istore_n 2, 1) := by decide +kernel
theorem dX12_laysOpen_4 : decode cX12_laysOpen 4 = .ok (.iload_n 2, 1) := by decide +kernel
theorem dX12_laysOpen_5 : decode cX12_laysOpen 5 = .ok (.aload_n 0, 1) := by decide +kernel
theorem dX12_laysOpen_6 : decode cX12_laysOpen 6 = .ok (.getfield 168, 3) := by decide +kernel
theorem dX12_laysOpen_9 : decode cX12_laysOpen 9 = .ok (.if_icmp .ge 61, 3) := by decide +kernel
theorem dX12_laysOpen_12 : decode cX12_laysOpen 12 = .ok (.aload_n 0, 1) := by decide +kernel
theorem dX12_laysOpen_13 : decode cX12_laysOpen 13 = .ok (.getfield 45, 3) := by decide +kernel
theorem dX12_laysOpen_16 : decode cX12_laysOpen 16 = .ok (.iload_n 2, 1) := by decide +kernel
theorem dX12_laysOpen_17 : decode cX12_laysOpen 17 = .ok (.aload_n 0, 1) := by decide +kernel
theorem dX12_laysOpen_18 : decode cX12_laysOpen 18 = .ok (.getfield 38, 3) := by decide +kernel
theorem dX12_laysOpen_21 : decode cX12_laysOpen 21 = .ok (.iload_n 2, 1) := by decide +kernel
theorem dX12_laysOpen_22 : decode cX12_laysOpen 22 = .ok (.baload, 1) := by decide +kernel
theorem dX12_laysOpen_23 : decode cX12_laysOpen 23 = .ok (.ifCond .eq 22, 3) := by decide +kernel
theorem dX12_laysOpen_26 : decode cX12_laysOpen 26 = .ok (.aload_n 0, 1) := by decide +kernel
theorem dX12_laysOpen_27 : decode cX12_laysOpen 27 = .ok (.iload_n 2, 1) := by decide +kernel
theorem dX12_laysOpen_28 : decode cX12_laysOpen 28 = .ok (.iconst 0, 1) := by decide +kernel
theorem dX12_laysOpen_29 : decode cX12_laysOpen 29 = .ok (.aload_n 0, 1) := by decide +kernel
theorem dX12_laysOpen_30 : decode cX12_laysOpen 30 = .ok (.getfield 16, 3) := by decide +kernel
theorem dX12_laysOpen_33 : decode cX12_laysOpen 33 = .ok (.iconst 3, 1) := by decide +kernel
theorem dX12_laysOpen_34 : decode cX12_laysOpen 34 = .ok (.iaload, 1) := by decide +kernel
theorem dX12_laysOpen_35 : decode cX12_laysOpen 35 = .ok (.invokevirtual 206, 3) := by decide +kernel
theorem dX12_laysOpen_38 : decode cX12_laysOpen 38 = .ok (.ifCond .ne 7, 3) := by decide +kernel
theorem dX12_laysOpen_41 : decode cX12_laysOpen 41 = .ok (.iconst 1, 1) := by decide +kernel
theorem dX12_laysOpen_42 : decode cX12_laysOpen 42 = .ok (.goto 4, 3) := by decide +kernel
theorem dX12_laysOpen_45 : decode cX12_laysOpen 45 = .ok (.iconst 0, 1) := by decide +kernel
theorem dX12_laysOpen_46 : decode cX12_laysOpen 46 = .ok (.bastore, 1) := by decide +kernel
theorem dX12_laysOpen_47 : decode cX12_laysOpen 47 = .ok (.iload_n 1, 1) := by decide +kernel
theorem dX12_laysOpen_48 : decode cX12_laysOpen 48 = .ok (.aload_n 0, 1) := by decide +kernel
theorem dX12_laysOpen_49 : decode cX12_laysOpen 49 = .ok (.getfield 45, 3) := by decide +kernel
theorem dX12_laysOpen_52 : decode cX12_laysOpen 52 = .ok (.iload_n 2, 1) := by decide +kernel
theorem dX12_laysOpen_53 : decode cX12_laysOpen 53 = .ok (.baload, 1) := by decide +kernel
theorem dX12_laysOpen_54 : decode cX12_laysOpen 54 = .ok (.ifCond .eq 7, 3) := by decide +kernel
theorem dX12_laysOpen_57 : decode cX12_laysOpen 57 = .ok (.iconst 1, 1) := by decide +kernel
theorem dX12_laysOpen_58 : decode cX12_laysOpen 58 = .ok (.goto 4, 3) := by decide +kernel
theorem dX12_laysOpen_61 : decode cX12_laysOpen 61 = .ok (.iconst 0, 1) := by decide +kernel
theorem dX12_laysOpen_62 : decode cX12_laysOpen 62 = .ok (.iadd, 1) := by decide +kernel
theorem dX12_laysOpen_63 : decode cX12_laysOpen 63 = .ok (.istore_n 1, 1) := by decide +kernel
theorem dX12_laysOpen_64 : decode cX12_laysOpen 64 = .ok (.iinc 2 1, 3) := by decide +kernel
theorem dX12_laysOpen_67 : decode cX12_laysOpen 67 = .ok (.goto (-63), 3) := by decide +kernel
theorem dX12_laysOpen_70 : decode cX12_laysOpen 70 = .ok (.iload_n 1, 1) := by decide +kernel
theorem dX12_laysOpen_71 : decode cX12_laysOpen 71 = .ok (.ireturn, 1) := by decide +kernel
theorem dX12_isPlan_0 : decode cX12_isPlan 0 = .ok (.aload_n 0, 1) := by decide +kernel
theorem dX12_isPlan_1 : decode cX12_isPlan 1 = .ok (.getfield 16, 3) := by decide +kernel
theorem dX12_isPlan_4 : decode cX12_isPlan 4 = .ok (.iconst 0, 1) := by decide +kernel
theorem dX12_isPlan_5 : decode cX12_isPlan 5 = .ok (.iaload, 1) := by decide +kernel
theorem dX12_isPlan_6 : decode cX12_isPlan 6 = .ok (.ifCond .le 7, 3) := by decide +kernel
theorem dX12_isPlan_9 : decode cX12_isPlan 9 = .ok (.iconst 1, 1) := by decide +kernel
theorem dX12_isPlan_10 : decode cX12_isPlan 10 = .ok (.goto 4, 3) := by decide +kernel
theorem dX12_isPlan_13 : decode cX12_isPlan 13 = .ok (.iconst 0, 1) := by decide +kernel
theorem dX12_isPlan_14 : decode cX12_isPlan 14 = .ok (.ireturn, 1) := by decide +kernel
theorem dX12_isRow_0 : decode cX12_isRow 0 = .ok (.iload_n 1, 1) := by decide +kernel
theorem dX12_isRow_1 : decode cX12_isRow 1 = .ok (.ifCond .lt 17, 3) := by decide +kernel
theorem dX12_isRow_4 : decode cX12_isRow 4 = .ok (.iload_n 1, 1) := by decide +kernel
theorem dX12_isRow_5 : decode cX12_isRow 5 = .ok (.aload_n 0, 1) := by decide +kernel
theorem dX12_isRow_6 : decode cX12_isRow 6 = .ok (.getfield 16, 3) := by decide +kernel
theorem dX12_isRow_9 : decode cX12_isRow 9 = .ok (.iconst 3, 1) := by decide +kernel
theorem dX12_isRow_10 : decode cX12_isRow 10 = .ok (.iaload, 1) := by decide +kernel
theorem dX12_isRow_11 : decode cX12_isRow 11 = .ok (.if_icmp .ge 7, 3) := by decide +kernel
theorem dX12_isRow_14 : decode cX12_isRow 14 = .ok (.iconst 1, 1) := by decide +kernel
theorem dX12_isRow_15 : decode cX12_isRow 15 = .ok (.goto 4, 3) := by decide +kernel
theorem dX12_isRow_18 : decode cX12_isRow 18 = .ok (.iconst 0, 1) := by decide +kernel
theorem dX12_isRow_19 : decode cX12_isRow 19 = .ok (.ireturn, 1) := by decide +kernel
theorem dX12_isColumn_0 : decode cX12_isColumn 0 = .ok (.iload_n 1, 1) := by decide +kernel
theorem dX12_isColumn_1 : decode cX12_isColumn 1 = .ok (.ifCond .lt 17, 3) := by decide +kernel
theorem dX12_isColumn_4 : decode cX12_isColumn 4 = .ok (.iload_n 1, 1) := by decide +kernel
theorem dX12_isColumn_5 : decode cX12_isColumn 5 = .ok (.aload_n 0, 1) := by decide +kernel
theorem dX12_isColumn_6 : decode cX12_isColumn 6 = .ok (.getfield 16, 3) := by decide +kernel
theorem dX12_isColumn_9 : decode cX12_isColumn 9 = .ok (.iconst 0, 1) := by decide +kernel
theorem dX12_isColumn_10 : decode cX12_isColumn 10 = .ok (.iaload, 1) := by decide +kernel
theorem dX12_isColumn_11 : decode cX12_isColumn 11 = .ok (.if_icmp .ge 7, 3) := by decide +kernel
theorem dX12_isColumn_14 : decode cX12_isColumn 14 = .ok (.iconst 1, 1) := by decide +kernel
theorem dX12_isColumn_15 : decode cX12_isColumn 15 = .ok (.goto 4, 3) := by decide +kernel
theorem dX12_isColumn_18 : decode cX12_isColumn 18 = .ok (.iconst 0, 1) := by decide +kernel
theorem dX12_isColumn_19 : decode cX12_isColumn 19 = .ok (.ireturn, 1) := by decide +kernel
theorem dX12_levels_0 : decode cX12_levels 0 = .ok (.aload_n 0, 1) := by decide +kernel
theorem dX12_levels_1 : decode cX12_levels 1 = .ok (.iload_n 1, 1) := by decide +kernel
theorem dX12_levels_2 : decode cX12_levels 2 = .ok (.invokevirtual 209, 3) := by decide +kernel
theorem dX12_levels_5 : decode cX12_levels 5 = .ok (.ifCond .eq 14, 3) := by decide +kernel
theorem dX12_levels_8 : decode cX12_levels 8 = .ok (.aload_n 0, 1) := by decide +kernel
theorem dX12_levels_9 : decode cX12_levels 9 = .ok (.getfield 16, 3) := by decide +kernel
theorem dX12_levels_12 : decode cX12_levels 12 = .ok (.iconst 5, 1) := by decide +kernel
theorem dX12_levels_13 : decode cX12_levels 13 = .ok (.iload_n 1, 1) := by decide +kernel
theorem dX12_levels_14 : decode cX12_levels 14 = .ok (.iadd, 1) := by decide +kernel
theorem dX12_levels_15 : decode cX12_levels 15 = .ok (.iaload, 1) := by decide +kernel
theorem dX12_levels_16 : decode cX12_levels 16 = .ok (.goto 4, 3) := by decide +kernel
theorem dX12_levels_19 : decode cX12_levels 19 = .ok (.iconst (-1), 1) := by decide +kernel
theorem dX12_levels_20 : decode cX12_levels 20 = .ok (.ireturn, 1) := by decide +kernel
theorem dX12_firstWith_0 : decode cX12_firstWith 0 = .ok (.iconst 0, 1) := by decide +kernel
theorem dX12_firstWith_1 : decode cX12_firstWith 1 = .ok (.istore_n 2, 1) := by decide +kernel
theorem dX12_firstWith_2 : decode cX12_firstWith 2 = .ok (.iload_n 2, 1) := by decide +kernel
theorem dX12_firstWith_3 : decode cX12_firstWith 3 = .ok (.aload_n 0, 1) := by decide +kernel
theorem dX12_firstWith_4 : decode cX12_firstWith 4 = .ok (.getfield 16, 3) := by decide +kernel
theorem dX12_firstWith_7 : decode cX12_firstWith 7 = .ok (.iconst 3, 1) := by decide +kernel
theorem dX12_firstWith_8 : decode cX12_firstWith 8 = .ok (.iaload, 1) := by decide +kernel
theorem dX12_firstWith_9 : decode cX12_firstWith 9 = .ok (.if_icmp .ge 20, 3) := by decide +kernel
theorem dX12_firstWith_12 : decode cX12_firstWith 12 = .ok (.aload_n 0, 1) := by decide +kernel
theorem dX12_firstWith_13 : decode cX12_firstWith 13 = .ok (.iload_n 2, 1) := by decide +kernel
theorem dX12_firstWith_14 : decode cX12_firstWith 14 = .ok (.iload_n 1, 1) := by decide +kernel
theorem dX12_firstWith_15 : decode cX12_firstWith 15 = .ok (.invokevirtual 203, 3) := by decide +kernel
theorem dX12_firstWith_18 : decode cX12_firstWith 18 = .ok (.ifCond .eq 5, 3) := by decide +kernel
theorem dX12_firstWith_21 : decode cX12_firstWith 21 = .ok (.iload_n 2, 1) := by decide +kernel
theorem dX12_firstWith_22 : decode cX12_firstWith 22 = .ok (.ireturn, 1) := by decide +kernel
theorem dX12_firstWith_23 : decode cX12_firstWith 23 = .ok (.iinc 2 1, 3) := by decide +kernel
theorem dX12_firstWith_26 : decode cX12_firstWith 26 = .ok (.goto (-24), 3) := by decide +kernel
theorem dX12_firstWith_29 : decode cX12_firstWith 29 = .ok (.bipush (-2), 2) := by decide +kernel
theorem dX12_firstWith_31 : decode cX12_firstWith 31 = .ok (.ireturn, 1) := by decide +kernel
theorem dX12_mix_0 : decode cX12_mix 0 = .ok (.aload_n 0, 1) := by decide +kernel
theorem dX12_mix_1 : decode cX12_mix 1 = .ok (.invokevirtual 212, 3) := by decide +kernel
theorem dX12_mix_4 : decode cX12_mix 4 = .ok (.ifCond .eq 31, 3) := by decide +kernel
theorem dX12_mix_7 : decode cX12_mix 7 = .ok (.iload_n 1, 1) := by decide +kernel
theorem dX12_mix_8 : decode cX12_mix 8 = .ok (.i2l, 1) := by decide +kernel
theorem dX12_mix_9 : decode cX12_mix 9 = .ok (.lconst 0, 1) := by decide +kernel
theorem dX12_mix_10 : decode cX12_mix 10 = .ok (.aload_n 0, 1) := by decide +kernel
theorem dX12_mix_11 : decode cX12_mix 11 = .ok (.getfield 168, 3) := by decide +kernel
theorem dX12_mix_14 : decode cX12_mix 14 = .ok (.iconst 1, 1) := by decide +kernel
theorem dX12_mix_15 : decode cX12_mix 15 = .ok (.isub, 1) := by decide +kernel
theorem dX12_mix_16 : decode cX12_mix 16 = .ok (.i2l, 1) := by decide +kernel
theorem dX12_mix_17 : decode cX12_mix 17 = .ok (.invokestatic 73, 3) := by decide +kernel
theorem dX12_mix_20 : decode cX12_mix 20 = .ok (.ifCond .eq 15, 3) := by decide +kernel
theorem dX12_mix_23 : decode cX12_mix 23 = .ok (.iload_n 2, 1) := by decide +kernel
theorem dX12_mix_24 : decode cX12_mix 24 = .ok (.i2l, 1) := by decide +kernel
theorem dX12_mix_25 : decode cX12_mix 25 = .ok (.lconst 0, 1) := by decide +kernel
theorem dX12_mix_26 : decode cX12_mix 26 = .ok (.ldc2_w 215, 3) := by decide +kernel
theorem dX12_mix_29 : decode cX12_mix 29 = .ok (.invokestatic 73, 3) := by decide +kernel
theorem dX12_mix_32 : decode cX12_mix 32 = .ok (.ifCond .ne 5, 3) := by decide +kernel
theorem dX12_mix_35 : decode cX12_mix 35 = .ok (.iconst (-1), 1) := by decide +kernel
theorem dX12_mix_36 : decode cX12_mix 36 = .ok (.ireturn, 1) := by decide +kernel
theorem dX12_mix_37 : decode cX12_mix 37 = .ok (.iload_n 2, 1) := by decide +kernel
theorem dX12_mix_38 : decode cX12_mix 38 = .ok (.bipush 6, 2) := by decide +kernel
theorem dX12_mix_40 : decode cX12_mix 40 = .ok (.if_icmp .ge 51, 3) := by decide +kernel
theorem dX12_mix_43 : decode cX12_mix 43 = .ok (.iload_n 2, 1) := by decide +kernel
theorem dX12_mix_44 : decode cX12_mix 44 = .ok (.iconst 3, 1) := by decide +kernel
theorem dX12_mix_45 : decode cX12_mix 45 = .ok (.irem, 1) := by decide +kernel
theorem dX12_mix_46 : decode cX12_mix 46 = .ok (.istore_n 3, 1) := by decide +kernel
theorem dX12_mix_47 : decode cX12_mix 47 = .ok (.iload_n 3, 1) := by decide +kernel
theorem dX12_mix_48 : decode cX12_mix 48 = .ok (.aload_n 0, 1) := by decide +kernel
theorem dX12_mix_49 : decode cX12_mix 49 = .ok (.getfield 16, 3) := by decide +kernel
theorem dX12_mix_52 : decode cX12_mix 52 = .ok (.iconst 1, 1) := by decide +kernel
theorem dX12_mix_53 : decode cX12_mix 53 = .ok (.iaload, 1) := by decide +kernel
theorem dX12_mix_54 : decode cX12_mix 54 = .ok (.if_icmp .lt 8, 3) := by decide +kernel
theorem dX12_mix_57 : decode cX12_mix 57 = .ok (.bipush (-2), 2) := by decide +kernel
theorem dX12_mix_59 : decode cX12_mix 59 = .ok (.goto 31, 3) := by decide +kernel
theorem dX12_mix_62 : decode cX12_mix 62 = .ok (.iload_n 2, 1) := by decide +kernel
theorem dX12_mix_63 : decode cX12_mix 63 = .ok (.iconst 3, 1) := by decide +kernel
theorem dX12_mix_64 : decode cX12_mix 64 = .ok (.if_icmp .ge 16, 3) := by decide +kernel
theorem dX12_mix_67 : decode cX12_mix 67 = .ok (.aload_n 0, 1) := by decide +kernel
theorem dX12_mix_68 : decode cX12_mix 68 = .ok (.getfield 32, 3) := by decide +kernel
theorem dX12_mix_71 : decode cX12_mix 71 = .ok (.iconst 3, 1) := by decide +kernel
theorem dX12_mix_72 : decode cX12_mix 72 = .ok (.iload_n 1, 1) := by decide +kernel
theorem dX12_mix_73 : decode cX12_mix 73 = .ok (.imul, 1) := by decide +kernel
theorem dX12_mix_74 : decode cX12_mix 74 = .ok (.iload_n 3, 1) := by decide +kernel
theorem dX12_mix_75 : decode cX12_mix 75 = .ok (.iadd, 1) := by decide +kernel
theorem dX12_mix_76 : decode cX12_mix 76 = .ok (.iaload, 1) := by decide +kernel
theorem dX12_mix_77 : decode cX12_mix 77 = .ok (.goto 13, 3) := by decide +kernel
theorem dX12_mix_80 : decode cX12_mix 80 = .ok (.aload_n 0, 1) := by decide +kernel
theorem dX12_mix_81 : decode cX12_mix 81 = .ok (.getfield 35, 3) := by decide +kernel
theorem dX12_mix_84 : decode cX12_mix 84 = .ok (.iconst 3, 1) := by decide +kernel
theorem dX12_mix_85 : decode cX12_mix 85 = .ok (.iload_n 1, 1) := by decide +kernel
theorem dX12_mix_86 : decode cX12_mix 86 = .ok (.imul, 1) := by decide +kernel
theorem dX12_mix_87 : decode cX12_mix 87 = .ok (.iload_n 3, 1) := by decide +kernel
theorem dX12_mix_88 : decode cX12_mix 88 = .ok (.iadd, 1) := by decide +kernel
theorem dX12_mix_89 : decode cX12_mix 89 = .ok (.iaload, 1) := by decide +kernel
theorem dX12_mix_90 : decode cX12_mix 90 = .ok (.ireturn, 1) := by decide +kernel
theorem dX12_mix_91 : decode cX12_mix 91 = .ok (.iload_n 2, 1) := by decide +kernel
theorem dX12_mix_92 : decode cX12_mix 92 = .ok (.bipush 6, 2) := by decide +kernel
theorem dX12_mix_94 : decode cX12_mix 94 = .ok (.if_icmp .ne 20, 3) := by decide +kernel
theorem dX12_mix_97 : decode cX12_mix 97 = .ok (.aload_n 0, 1) := by decide +kernel
theorem dX12_mix_98 : decode cX12_mix 98 = .ok (.getfield 38, 3) := by decide +kernel
theorem dX12_mix_101 : decode cX12_mix 101 = .ok (.iload_n 1, 1) := by decide +kernel
theorem dX12_mix_102 : decode cX12_mix 102 = .ok (.baload, 1) := by decide +kernel
theorem dX12_mix_103 : decode cX12_mix 103 = .ok (.ifCond .eq 7, 3) := by decide +kernel
theorem dX12_mix_106 : decode cX12_mix 106 = .ok (.iconst 1, 1) := by decide +kernel
theorem dX12_mix_107 : decode cX12_mix 107 = .ok (.goto 33, 3) := by decide +kernel
theorem dX12_mix_110 : decode cX12_mix 110 = .ok (.iconst 0, 1) := by decide +kernel
theorem dX12_mix_111 : decode cX12_mix 111 = .ok (.goto 29, 3) := by decide +kernel
theorem dX12_mix_114 : decode cX12_mix 114 = .ok (.iload_n 2, 1) := by decide +kernel
theorem dX12_mix_115 : decode cX12_mix 115 = .ok (.bipush 7, 2) := by decide +kernel
theorem dX12_mix_117 : decode cX12_mix 117 = .ok (.if_icmp .ne 18, 3) := by decide +kernel
theorem dX12_mix_120 : decode cX12_mix 120 = .ok (.aload_n 0, 1) := by decide +kernel
theorem dX12_mix_121 : decode cX12_mix 121 = .ok (.iload_n 1, 1) := by decide +kernel
theorem dX12_mix_122 : decode cX12_mix 122 = .ok (.iconst 0, 1) := by decide +kernel
theorem dX12_mix_123 : decode cX12_mix 123 = .ok (.aload_n 0, 1) := by decide +kernel
theorem dX12_mix_124 : decode cX12_mix 124 = .ok (.getfield 16, 3) := by decide +kernel
theorem dX12_mix_127 : decode cX12_mix 127 = .ok (.iconst 3, 1) := by decide +kernel
theorem dX12_mix_128 : decode cX12_mix 128 = .ok (.iaload, 1) := by decide +kernel
theorem dX12_mix_129 : decode cX12_mix 129 = .ok (.invokevirtual 206, 3) := by decide +kernel
theorem dX12_mix_132 : decode cX12_mix 132 = .ok (.goto 8, 3) := by decide +kernel
theorem dX12_mix_135 : decode cX12_mix 135 = .ok (.aload_n 0, 1) := by decide +kernel
theorem dX12_mix_136 : decode cX12_mix 136 = .ok (.iload_n 1, 1) := by decide +kernel
theorem dX12_mix_137 : decode cX12_mix 137 = .ok (.invokevirtual 217, 3) := by decide +kernel
theorem dX12_mix_140 : decode cX12_mix 140 = .ok (.ireturn, 1) := by decide +kernel
theorem dX12_reads_0 : decode cX12_reads 0 = .ok (.iload_n 1, 1) := by decide +kernel
theorem dX12_reads_1 : decode cX12_reads 1 = .ok (.istore_n 2, 1) := by decide +kernel
theorem dX12_reads_2 : decode cX12_reads 2 = .ok (.aload_n 0, 1) := by decide +kernel
theorem dX12_reads_3 : decode cX12_reads 3 = .ok (.getfield 16, 3) := by decide +kernel
theorem dX12_reads_6 : decode cX12_reads 6 = .ok (.iconst 0, 1) := by decide +kernel
theorem dX12_reads_7 : decode cX12_reads 7 = .ok (.iaload, 1) := by decide +kernel
theorem dX12_reads_8 : decode cX12_reads 8 = .ok (.iconst 1, 1) := by decide +kernel
theorem dX12_reads_9 : decode cX12_reads 9 = .ok (.isub, 1) := by decide +kernel
theorem dX12_reads_10 : decode cX12_reads 10 = .ok (.istore_n 3, 1) := by decide +kernel
theorem dX12_reads_11 : decode cX12_reads 11 = .ok (.iload_n 3, 1) := by decide +kernel
theorem dX12_reads_12 : decode cX12_reads 12 = .ok (.ifCond .lt 61, 3) := by decide +kernel
theorem dX12_reads_15 : decode cX12_reads 15 = .ok (.iload_n 2, 1) := by decide +kernel
theorem dX12_reads_16 : decode cX12_reads 16 = .ok (.bipush 10, 2) := by decide +kernel
theorem dX12_reads_18 : decode cX12_reads 18 = .ok (.irem, 1) := by decide +kernel
theorem dX12_reads_19 : decode cX12_reads 19 = .ok (.istore 4, 2) := by decide +kernel
theorem dX12_reads_21 : decode cX12_reads 21 = .ok (.iload_n 2, 1) := by decide +kernel
theorem dX12_reads_22 : decode cX12_reads 22 = .ok (.bipush 10, 2) := by decide +kernel
theorem dX12_reads_24 : decode cX12_reads 24 = .ok (.idiv, 1) := by decide +kernel
theorem dX12_reads_25 : decode cX12_reads 25 = .ok (.istore_n 2, 1) := by decide +kernel
theorem dX12_reads_26 : decode cX12_reads 26 = .ok (.aload_n 0, 1) := by decide +kernel
theorem dX12_reads_27 : decode cX12_reads 27 = .ok (.getfield 48, 3) := by decide +kernel
theorem dX12_reads_30 : decode cX12_reads 30 = .ok (.iload_n 3, 1) := by decide +kernel
theorem dX12_reads_31 : decode cX12_reads 31 = .ok (.iload 4, 2) := by decide +kernel
theorem dX12_reads_33 : decode cX12_reads 33 = .ok (.bipush 9, 2) := by decide +kernel
theorem dX12_reads_35 : decode cX12_reads 35 = .ok (.if_icmp .ne 7, 3) := by decide +kernel
theorem dX12_reads_38 : decode cX12_reads 38 = .ok (.iconst (-1), 1) := by decide +kernel
theorem dX12_reads_39 : decode cX12_reads 39 = .ok (.goto 5, 3) := by decide +kernel
theorem dX12_reads_42 : decode cX12_reads 42 = .ok (.iload 4, 2) := by decide +kernel
theorem dX12_reads_44 : decode cX12_reads 44 = .ok (.iastore, 1) := by decide +kernel
theorem dX12_reads_45 : decode cX12_reads 45 = .ok (.iload 4, 2) := by decide +kernel
theorem dX12_reads_47 : decode cX12_reads 47 = .ok (.bipush 9, 2) := by decide +kernel
theorem dX12_reads_49 : decode cX12_reads 49 = .ok (.if_icmp .eq 18, 3) := by decide +kernel
theorem dX12_reads_52 : decode cX12_reads 52 = .ok (.iload 4, 2) := by decide +kernel
theorem dX12_reads_54 : decode cX12_reads 54 = .ok (.aload_n 0, 1) := by decide +kernel
theorem dX12_reads_55 : decode cX12_reads 55 = .ok (.getfield 16, 3) := by decide +kernel
theorem dX12_reads_58 : decode cX12_reads 58 = .ok (.iconst 5, 1) := by decide +kernel
theorem dX12_reads_59 : decode cX12_reads 59 = .ok (.iload_n 3, 1) := by decide +kernel
theorem dX12_reads_60 : decode cX12_reads 60 = .ok (.iadd, 1) := by decide +kernel
theorem dX12_reads_61 : decode cX12_reads 61 = .ok (.iaload, 1) := by decide +kernel
theorem dX12_reads_62 : decode cX12_reads 62 = .ok (.if_icmp .lt 5, 3) := by decide +kernel
theorem dX12_reads_65 : decode cX12_reads 65 = .ok (.iconst 0, 1) := by decide +kernel
theorem dX12_reads_66 : decode cX12_reads 66 = .ok (.ireturn, 1) := by decide +kernel
theorem dX12_reads_67 : decode cX12_reads 67 = .ok (.iinc 3 (-1), 3) := by decide +kernel
theorem dX12_reads_70 : decode cX12_reads 70 = .ok (.goto (-59), 3) := by decide +kernel
theorem dX12_reads_73 : decode cX12_reads 73 = .ok (.iload_n 2, 1) := by decide +kernel
theorem dX12_reads_74 : decode cX12_reads 74 = .ok (.ifCond .ne 7, 3) := by decide +kernel
theorem dX12_reads_77 : decode cX12_reads 77 = .ok (.iconst 1, 1) := by decide +kernel
theorem dX12_reads_78 : decode cX12_reads 78 = .ok (.goto 4, 3) := by decide +kernel
theorem dX12_reads_81 : decode cX12_reads 81 = .ok (.iconst 0, 1) := by decide +kernel
theorem dX12_reads_82 : decode cX12_reads 82 = .ok (.ireturn, 1) := by decide +kernel
theorem dX12_isGiven_0 : decode cX12_isGiven 0 = .ok (.aload_n 0, 1) := by decide +kernel
theorem dX12_isGiven_1 : decode cX12_isGiven 1 = .ok (.invokevirtual 212, 3) := by decide +kernel
theorem dX12_isGiven_4 : decode cX12_isGiven 4 = .ok (.ifCond .eq 19, 3) := by decide +kernel
theorem dX12_isGiven_7 : decode cX12_isGiven 7 = .ok (.iload_n 1, 1) := by decide +kernel
theorem dX12_isGiven_8 : decode cX12_isGiven 8 = .ok (.ifCond .lt 15, 3) := by decide +kernel
theorem dX12_isGiven_11 : decode cX12_isGiven 11 = .ok (.aload_n 0, 1) := by decide +kernel
theorem dX12_isGiven_12 : decode cX12_isGiven 12 = .ok (.iload_n 1, 1) := by decide +kernel
theorem dX12_isGiven_13 : decode cX12_isGiven 13 = .ok (.invokevirtual 220, 3) := by decide +kernel
theorem dX12_isGiven_16 : decode cX12_isGiven 16 = .ok (.ifCond .eq 7, 3) := by decide +kernel
theorem dX12_isGiven_19 : decode cX12_isGiven 19 = .ok (.iconst 1, 1) := by decide +kernel
theorem dX12_isGiven_20 : decode cX12_isGiven 20 = .ok (.goto 4, 3) := by decide +kernel
theorem dX12_isGiven_23 : decode cX12_isGiven 23 = .ok (.iconst 0, 1) := by decide +kernel
theorem dX12_isGiven_24 : decode cX12_isGiven 24 = .ok (.ireturn, 1) := by decide +kernel
theorem dX12_probes_0 : decode cX12_probes 0 = .ok (.iconst 0, 1) := by decide +kernel
theorem dX12_probes_1 : decode cX12_probes 1 = .ok (.istore_n 2, 1) := by decide +kernel
theorem dX12_probes_2 : decode cX12_probes 2 = .ok (.iload_n 2, 1) := by decide +kernel
theorem dX12_probes_3 : decode cX12_probes 3 = .ok (.aload_n 0, 1) := by decide +kernel
theorem dX12_probes_4 : decode cX12_probes 4 = .ok (.getfield 16, 3) := by decide +kernel
theorem dX12_probes_7 : decode cX12_probes 7 = .ok (.iconst 0, 1) := by decide +kernel
theorem dX12_probes_8 : decode cX12_probes 8 = .ok (.iaload, 1) := by decide +kernel
theorem dX12_probes_9 : decode cX12_probes 9 = .ok (.if_icmp .ge 18, 3) := by decide +kernel
theorem dX12_probes_12 : decode cX12_probes 12 = .ok (.aload_n 0, 1) := by decide +kernel
theorem dX12_probes_13 : decode cX12_probes 13 = .ok (.getfield 26, 3) := by decide +kernel
theorem dX12_probes_16 : decode cX12_probes 16 = .ok (.iload_n 2, 1) := by decide +kernel
theorem dX12_probes_17 : decode cX12_probes 17 = .ok (.aload_n 1, 1) := by decide +kernel
theorem dX12_probes_18 : decode cX12_probes 18 = .ok (.iload_n 2, 1) := by decide +kernel
theorem dX12_probes_19 : decode cX12_probes 19 = .ok (.iaload, 1) := by decide +kernel
theorem dX12_probes_20 : decode cX12_probes 20 = .ok (.iastore, 1) := by decide +kernel
theorem dX12_probes_21 : decode cX12_probes 21 = .ok (.iinc 2 1, 3) := by decide +kernel
theorem dX12_probes_24 : decode cX12_probes 24 = .ok (.goto (-22), 3) := by decide +kernel
theorem dX12_probes_27 : decode cX12_probes 27 = .ok (.return_, 1) := by decide +kernel
theorem dX12_comes_0 : decode cX12_comes 0 = .ok (.aload_n 0, 1) := by decide +kernel
theorem dX12_comes_1 : decode cX12_comes 1 = .ok (.getfield 16, 3) := by decide +kernel
theorem dX12_comes_4 : decode cX12_comes 4 = .ok (.iconst 3, 1) := by decide +kernel
theorem dX12_comes_5 : decode cX12_comes 5 = .ok (.iaload, 1) := by decide +kernel
theorem dX12_comes_6 : decode cX12_comes 6 = .ok (.istore_n 2, 1) := by decide +kernel
theorem dX12_comes_7 : decode cX12_comes 7 = .ok (.iconst 0, 1) := by decide +kernel
theorem dX12_comes_8 : decode cX12_comes 8 = .ok (.istore_n 3, 1) := by decide +kernel
theorem dX12_comes_9 : decode cX12_comes 9 = .ok (.iload_n 3, 1) := by decide +kernel
theorem dX12_comes_10 : decode cX12_comes 10 = .ok (.bipush 8, 2) := by decide +kernel
theorem dX12_comes_12 : decode cX12_comes 12 = .ok (.if_icmp .ge 41, 3) := by decide +kernel
theorem dX12_comes_15 : decode cX12_comes 15 = .ok (.aload_n 0, 1) := by decide +kernel
theorem dX12_comes_16 : decode cX12_comes 16 = .ok (.getfield 16, 3) := by decide +kernel
theorem dX12_comes_19 : decode cX12_comes 19 = .ok (.sipush 161, 3) := by decide +kernel
theorem dX12_comes_22 : decode cX12_comes 22 = .ok (.bipush 8, 2) := by decide +kernel
theorem dX12_comes_24 : decode cX12_comes 24 = .ok (.iload_n 2, 1) := by decide +kernel
theorem dX12_comes_25 : decode cX12_comes 25 = .ok (.imul, 1) := by decide +kernel
theorem dX12_comes_26 : decode cX12_comes 26 = .ok (.iadd, 1) := by decide +kernel
theorem dX12_comes_27 : decode cX12_comes 27 = .ok (.iload_n 3, 1) := by decide +kernel
theorem dX12_comes_28 : decode cX12_comes 28 = .ok (.iadd, 1) := by decide +kernel
theorem dX12_comes_29 : decode cX12_comes 29 = .ok (.iload_n 3, 1) := by decide +kernel
theorem dX12_comes_30 : decode cX12_comes 30 = .ok (.aload_n 0, 1) := by decide +kernel
theorem dX12_comes_31 : decode cX12_comes 31 = .ok (.getfield 16, 3) := by decide +kernel
theorem dX12_comes_34 : decode cX12_comes 34 = .ok (.iconst 0, 1) := by decide +kernel
theorem dX12_comes_35 : decode cX12_comes 35 = .ok (.iaload, 1) := by decide +kernel
theorem dX12_comes_36 : decode cX12_comes 36 = .ok (.if_icmp .ge 9, 3) := by decide +kernel
theorem dX12_comes_39 : decode cX12_comes 39 = .ok (.aload_n 1, 1) := by decide +kernel
theorem dX12_comes_40 : decode cX12_comes 40 = .ok (.iload_n 3, 1) := by decide +kernel
theorem dX12_comes_41 : decode cX12_comes 41 = .ok (.iaload, 1) := by decide +kernel
theorem dX12_comes_42 : decode cX12_comes 42 = .ok (.goto 4, 3) := by decide +kernel
theorem dX12_comes_45 : decode cX12_comes 45 = .ok (.iconst (-1), 1) := by decide +kernel
theorem dX12_comes_46 : decode cX12_comes 46 = .ok (.iastore, 1) := by decide +kernel
theorem dX12_comes_47 : decode cX12_comes 47 = .ok (.iinc 3 1, 3) := by decide +kernel
theorem dX12_comes_50 : decode cX12_comes 50 = .ok (.goto (-41), 3) := by decide +kernel
theorem dX12_comes_53 : decode cX12_comes 53 = .ok (.aload_n 0, 1) := by decide +kernel
theorem dX12_comes_54 : decode cX12_comes 54 = .ok (.getfield 16, 3) := by decide +kernel
theorem dX12_comes_57 : decode cX12_comes 57 = .ok (.bipush 97, 2) := by decide +kernel
theorem dX12_comes_59 : decode cX12_comes 59 = .ok (.iload_n 2, 1) := by decide +kernel
theorem dX12_comes_60 : decode cX12_comes 60 = .ok (.iadd, 1) := by decide +kernel
theorem dX12_comes_61 : decode cX12_comes 61 = .ok (.iconst 0, 1) := by decide +kernel
theorem dX12_comes_62 : decode cX12_comes 62 = .ok (.iastore, 1) := by decide +kernel
theorem dX12_comes_63 : decode cX12_comes 63 = .ok (.aload_n 0, 1) := by decide +kernel
theorem dX12_comes_64 : decode cX12_comes 64 = .ok (.getfield 16, 3) := by decide +kernel
theorem dX12_comes_67 : decode cX12_comes 67 = .ok (.iconst 3, 1) := by decide +kernel
theorem dX12_comes_68 : decode cX12_comes 68 = .ok (.dup2, 1) := by decide +kernel
theorem dX12_comes_69 : decode cX12_comes 69 = .ok (.iaload, 1) := by decide +kernel
theorem dX12_comes_70 : decode cX12_comes 70 = .ok (.iconst 1, 1) := by decide +kernel
theorem dX12_comes_71 : decode cX12_comes 71 = .ok (.iadd, 1) := by decide +kernel
theorem dX12_comes_72 : decode cX12_comes 72 = .ok (.iastore, 1) := by decide +kernel
theorem dX12_comes_73 : decode cX12_comes 73 = .ok (.return_, 1) := by decide +kernel
theorem dX12_add_0 : decode cX12_add 0 = .ok (.aload_n 0, 1) := by decide +kernel
theorem dX12_add_1 : decode cX12_add 1 = .ok (.iload_n 1, 1) := by decide +kernel
theorem dX12_add_2 : decode cX12_add 2 = .ok (.invokevirtual 223, 3) := by decide +kernel
theorem dX12_add_5 : decode cX12_add 5 = .ok (.ifCond .eq 14, 3) := by decide +kernel
theorem dX12_add_8 : decode cX12_add 8 = .ok (.aload_n 0, 1) := by decide +kernel
theorem dX12_add_9 : decode cX12_add 9 = .ok (.getfield 16, 3) := by decide +kernel
theorem dX12_add_12 : decode cX12_add 12 = .ok (.iconst 3, 1) := by decide +kernel
theorem dX12_add_13 : decode cX12_add 13 = .ok (.iaload, 1) := by decide +kernel
theorem dX12_add_14 : decode cX12_add 14 = .ok (.bipush 64, 2) := by decide +kernel
theorem dX12_add_16 : decode cX12_add 16 = .ok (.if_icmp .ne 5, 3) := by decide +kernel
theorem dX12_add_19 : decode cX12_add 19 = .ok (.iconst (-1), 1) := by decide +kernel
theorem dX12_add_20 : decode cX12_add 20 = .ok (.ireturn, 1) := by decide +kernel
theorem dX12_add_21 : decode cX12_add 21 = .ok (.aload_n 0, 1) := by decide +kernel
theorem dX12_add_22 : decode cX12_add 22 = .ok (.aload_n 0, 1) := by decide +kernel
theorem dX12_add_23 : decode cX12_add 23 = .ok (.getfield 48, 3) := by decide +kernel
theorem dX12_add_26 : decode cX12_add 26 = .ok (.invokevirtual 226, 3) := by decide +kernel
theorem dX12_add_29 : decode cX12_add 29 = .ok (.aload_n 0, 1) := by decide +kernel
theorem dX12_add_30 : decode cX12_add 30 = .ok (.invokevirtual 162, 3) := by decide +kernel
theorem dX12_add_33 : decode cX12_add 33 = .ok (.ifCond .ne 6, 3) := by decide +kernel
theorem dX12_add_36 : decode cX12_add 36 = .ok (.bipush (-2), 2) := by decide +kernel
theorem dX12_add_38 : decode cX12_add 38 = .ok (.ireturn, 1) := by decide +kernel
theorem dX12_add_39 : decode cX12_add 39 = .ok (.aload_n 0, 1) := by decide +kernel
theorem dX12_add_40 : decode cX12_add 40 = .ok (.invokevirtual 230, 3) := by decide +kernel
theorem dX12_add_43 : decode cX12_add 43 = .ok (.aload_n 0, 1) := by decide +kernel
theorem dX12_add_44 : decode cX12_add 44 = .ok (.aload_n 0, 1) := by decide +kernel
theorem dX12_add_45 : decode cX12_add 45 = .ok (.getfield 48, 3) := by decide +kernel
theorem dX12_add_48 : decode cX12_add 48 = .ok (.invokevirtual 233, 3) := by decide +kernel
theorem dX12_add_51 : decode cX12_add 51 = .ok (.aload_n 0, 1) := by decide +kernel
theorem dX12_add_52 : decode cX12_add 52 = .ok (.getfield 16, 3) := by decide +kernel
theorem dX12_add_55 : decode cX12_add 55 = .ok (.iconst 3, 1) := by decide +kernel
theorem dX12_add_56 : decode cX12_add 56 = .ok (.iaload, 1) := by decide +kernel
theorem dX12_add_57 : decode cX12_add 57 = .ok (.ireturn, 1) := by decide +kernel
theorem dX12_probesRow_0 : decode cX12_probesRow 0 = .ok (.iconst 0, 1) := by decide +kernel
theorem dX12_probesRow_1 : decode cX12_probesRow 1 = .ok (.istore_n 2, 1) := by decide +kernel
theorem dX12_probesRow_2 : decode cX12_probesRow 2 = .ok (.iload_n 2, 1) := by decide +kernel
theorem dX12_probesRow_3 : decode cX12_probesRow 3 = .ok (.aload_n 0, 1) := by decide +kernel
theorem dX12_probesRow_4 : decode cX12_probesRow 4 = .ok (.getfield 16, 3) := by decide +kernel
theorem dX12_probesRow_7 : decode cX12_probesRow 7 = .ok (.iconst 0, 1) := by decide +kernel
theorem dX12_probesRow_8 : decode cX12_probesRow 8 = .ok (.iaload, 1) := by decide +kernel
theorem dX12_probesRow_9 : decode cX12_probesRow 9 = .ok (.if_icmp .ge 21, 3) := by decide +kernel
theorem dX12_probesRow_12 : decode cX12_probesRow 12 = .ok (.aload_n 0, 1) := by decide +kernel
theorem dX12_probesRow_13 : decode cX12_probesRow 13 = .ok (.getfield 26, 3) := by decide +kernel
theorem dX12_probesRow_16 : decode cX12_probesRow 16 = .ok (.iload_n 2, 1) := by decide +kernel
theorem dX12_probesRow_17 : decode cX12_probesRow 17 = .ok (.aload_n 0, 1) := by decide +kernel
theorem dX12_probesRow_18 : decode cX12_probesRow 18 = .ok (.iload_n 1, 1) := by decide +kernel
theorem dX12_probesRow_19 : decode cX12_probesRow 19 = .ok (.iload_n 2, 1) := by decide +kernel
theorem dX12_probesRow_20 : decode cX12_probesRow 20 = .ok (.invokevirtual 200, 3) := by decide +kernel
theorem dX12_probesRow_23 : decode cX12_probesRow 23 = .ok (.iastore, 1) := by decide +kernel
theorem dX12_probesRow_24 : decode cX12_probesRow 24 = .ok (.iinc 2 1, 3) := by decide +kernel
theorem dX12_probesRow_27 : decode cX12_probesRow 27 = .ok (.goto (-25), 3) := by decide +kernel
theorem dX12_probesRow_30 : decode cX12_probesRow 30 = .ok (.return_, 1) := by decide +kernel
theorem dX12_tell_0 : decode cX12_tell 0 = .ok (.aload_n 0, 1) := by decide +kernel
theorem dX12_tell_1 : decode cX12_tell 1 = .ok (.iload_n 1, 1) := by decide +kernel
theorem dX12_tell_2 : decode cX12_tell 2 = .ok (.invokevirtual 236, 3) := by decide +kernel
theorem dX12_tell_5 : decode cX12_tell 5 = .ok (.ifCond .eq 33, 3) := by decide +kernel
theorem dX12_tell_8 : decode cX12_tell 8 = .ok (.aload_n 0, 1) := by decide +kernel
theorem dX12_tell_9 : decode cX12_tell 9 = .ok (.iload_n 2, 1) := by decide +kernel
theorem dX12_tell_10 : decode cX12_tell 10 = .ok (.invokevirtual 209, 3) := by decide +kernel
theorem dX12_tell_13 : decode cX12_tell 13 = .ok (.ifCond .eq 25, 3) := by decide +kernel
theorem dX12_tell_16 : decode cX12_tell 16 = .ok (.iload_n 3, 1) := by decide +kernel
theorem dX12_tell_17 : decode cX12_tell 17 = .ok (.i2l, 1) := by decide +kernel
theorem dX12_tell_18 : decode cX12_tell 18 = .ok (.ldc2_w 239, 3) := by decide +kernel
theorem dX12_tell_21 : decode cX12_tell 21 = .ok (.aload_n 0, 1) := by decide +kernel
theorem dX12_tell_22 : decode cX12_tell 22 = .ok (.getfield 16, 3) := by decide +kernel
theorem dX12_tell_25 : decode cX12_tell 25 = .ok (.iconst 5, 1) := by decide +kernel
theorem dX12_tell_26 : decode cX12_tell 26 = .ok (.iload_n 2, 1) := by decide +kernel
theorem dX12_tell_27 : decode cX12_tell 27 = .ok (.iadd, 1) := by decide +kernel
theorem dX12_tell_28 : decode cX12_tell 28 = .ok (.iaload, 1) := by decide +kernel
theorem dX12_tell_29 : decode cX12_tell 29 = .ok (.iconst 1, 1) := by decide +kernel
theorem dX12_tell_30 : decode cX12_tell 30 = .ok (.isub, 1) := by decide +kernel
theorem dX12_tell_31 : decode cX12_tell 31 = .ok (.i2l, 1) := by decide +kernel
theorem dX12_tell_32 : decode cX12_tell 32 = .ok (.invokestatic 73, 3) := by decide +kernel
theorem dX12_tell_35 : decode cX12_tell 35 = .ok (.ifCond .ne 6, 3) := by decide +kernel
theorem dX12_tell_38 : decode cX12_tell 38 = .ok (.bipush (-4), 2) := by decide +kernel
theorem dX12_tell_40 : decode cX12_tell 40 = .ok (.ireturn, 1) := by decide +kernel
theorem dX12_tell_41 : decode cX12_tell 41 = .ok (.aload_n 0, 1) := by decide +kernel
theorem dX12_tell_42 : decode cX12_tell 42 = .ok (.iload_n 1, 1) := by decide +kernel
theorem dX12_tell_43 : decode cX12_tell 43 = .ok (.iload_n 2, 1) := by decide +kernel
theorem dX12_tell_44 : decode cX12_tell 44 = .ok (.invokevirtual 200, 3) := by decide +kernel
theorem dX12_tell_47 : decode cX12_tell 47 = .ok (.istore 4, 2) := by decide +kernel
theorem dX12_tell_49 : decode cX12_tell 49 = .ok (.iload 4, 2) := by decide +kernel
theorem dX12_tell_51 : decode cX12_tell 51 = .ok (.iload_n 3, 1) := by decide +kernel
theorem dX12_tell_52 : decode cX12_tell 52 = .ok (.if_icmp .ne 6, 3) := by decide +kernel
theorem dX12_tell_55 : decode cX12_tell 55 = .ok (.bipush (-3), 2) := by decide +kernel
theorem dX12_tell_57 : decode cX12_tell 57 = .ok (.ireturn, 1) := by decide +kernel
theorem dX12_tell_58 : decode cX12_tell 58 = .ok (.aload_n 0, 1) := by decide +kernel
theorem dX12_tell_59 : decode cX12_tell 59 = .ok (.iload_n 1, 1) := by decide +kernel
theorem dX12_tell_60 : decode cX12_tell 60 = .ok (.invokevirtual 241, 3) := by decide +kernel
theorem dX12_tell_63 : decode cX12_tell 63 = .ok (.aload_n 0, 1) := by decide +kernel
theorem dX12_tell_64 : decode cX12_tell 64 = .ok (.getfield 26, 3) := by decide +kernel
theorem dX12_tell_67 : decode cX12_tell 67 = .ok (.iload_n 2, 1) := by decide +kernel
theorem dX12_tell_68 : decode cX12_tell 68 = .ok (.iload_n 3, 1) := by decide +kernel
theorem dX12_tell_69 : decode cX12_tell 69 = .ok (.iastore, 1) := by decide +kernel
theorem dX12_tell_70 : decode cX12_tell 70 = .ok (.aload_n 0, 1) := by decide +kernel
theorem dX12_tell_71 : decode cX12_tell 71 = .ok (.invokevirtual 162, 3) := by decide +kernel
theorem dX12_tell_74 : decode cX12_tell 74 = .ok (.ifCond .ne 6, 3) := by decide +kernel
theorem dX12_tell_77 : decode cX12_tell 77 = .ok (.bipush (-2), 2) := by decide +kernel
theorem dX12_tell_79 : decode cX12_tell 79 = .ok (.ireturn, 1) := by decide +kernel
theorem dX12_tell_80 : decode cX12_tell 80 = .ok (.aload_n 0, 1) := by decide +kernel
theorem dX12_tell_81 : decode cX12_tell 81 = .ok (.invokevirtual 230, 3) := by decide +kernel
theorem dX12_tell_84 : decode cX12_tell 84 = .ok (.aload_n 0, 1) := by decide +kernel
theorem dX12_tell_85 : decode cX12_tell 85 = .ok (.getfield 16, 3) := by decide +kernel
theorem dX12_tell_88 : decode cX12_tell 88 = .ok (.sipush 161, 3) := by decide +kernel
theorem dX12_tell_91 : decode cX12_tell 91 = .ok (.bipush 8, 2) := by decide +kernel
theorem dX12_tell_93 : decode cX12_tell 93 = .ok (.iload_n 1, 1) := by decide +kernel
theorem dX12_tell_94 : decode cX12_tell 94 = .ok (.imul, 1) := by decide +kernel
theorem dX12_tell_95 : decode cX12_tell 95 = .ok (.iadd, 1) := by decide +kernel
theorem dX12_tell_96 : decode cX12_tell 96 = .ok (.iload_n 2, 1) := by decide +kernel
theorem dX12_tell_97 : decode cX12_tell 97 = .ok (.iadd, 1) := by decide +kernel
theorem dX12_tell_98 : decode cX12_tell 98 = .ok (.iload_n 3, 1) := by decide +kernel
theorem dX12_tell_99 : decode cX12_tell 99 = .ok (.iastore, 1) := by decide +kernel
theorem dX12_tell_100 : decode cX12_tell 100 = .ok (.iload 4, 2) := by decide +kernel
theorem dX12_tell_102 : decode cX12_tell 102 = .ok (.ireturn, 1) := by decide +kernel
theorem dX12_cell_0 : decode cX12_cell 0 = .ok (.aload_n 0, 1) := by decide +kernel
theorem dX12_cell_1 : decode cX12_cell 1 = .ok (.iload_n 1, 1) := by decide +kernel
theorem dX12_cell_2 : decode cX12_cell 2 = .ok (.invokevirtual 236, 3) := by decide +kernel
theorem dX12_cell_5 : decode cX12_cell 5 = .ok (.ifCond .eq 20, 3) := by decide +kernel
theorem dX12_cell_8 : decode cX12_cell 8 = .ok (.aload_n 0, 1) := by decide +kernel
theorem dX12_cell_9 : decode cX12_cell 9 = .ok (.iload_n 2, 1) := by decide +kernel
theorem dX12_cell_10 : decode cX12_cell 10 = .ok (.invokevirtual 209, 3) := by decide +kernel
theorem dX12_cell_13 : decode cX12_cell 13 = .ok (.ifCond .eq 12, 3) := by decide +kernel
theorem dX12_cell_16 : decode cX12_cell 16 = .ok (.aload_n 0, 1) := by decide +kernel
theorem dX12_cell_17 : decode cX12_cell 17 = .ok (.iload_n 1, 1) := by decide +kernel
theorem dX12_cell_18 : decode cX12_cell 18 = .ok (.iload_n 2, 1) := by decide +kernel
theorem dX12_cell_19 : decode cX12_cell 19 = .ok (.invokevirtual 200, 3) := by decide +kernel
theorem dX12_cell_22 : decode cX12_cell 22 = .ok (.goto 5, 3) := by decide +kernel
theorem dX12_cell_25 : decode cX12_cell 25 = .ok (.bipush (-2), 2) := by decide +kernel
theorem dX12_cell_27 : decode cX12_cell 27 = .ok (.ireturn, 1) := by decide +kernel
theorem dX12_drops_0 : decode cX12_drops 0 = .ok (.iload_n 1, 1) := by decide +kernel
theorem dX12_drops_1 : decode cX12_drops 1 = .ok (.iconst 1, 1) := by decide +kernel
theorem dX12_drops_2 : decode cX12_drops 2 = .ok (.iadd, 1) := by decide +kernel
theorem dX12_drops_3 : decode cX12_drops 3 = .ok (.istore_n 2, 1) := by decide +kernel
theorem dX12_drops_4 : decode cX12_drops 4 = .ok (.iload_n 2, 1) := by decide +kernel
theorem dX12_drops_5 : decode cX12_drops 5 = .ok (.aload_n 0, 1) := by decide +kernel
theorem dX12_drops_6 : decode cX12_drops 6 = .ok (.getfield 16, 3) := by decide +kernel
theorem dX12_drops_9 : decode cX12_drops 9 = .ok (.iconst 3, 1) := by decide +kernel
theorem dX12_drops_10 : decode cX12_drops 10 = .ok (.iaload, 1) := by decide +kernel
theorem dX12_drops_11 : decode cX12_drops 11 = .ok (.if_icmp .ge 17, 3) := by decide +kernel
theorem dX12_drops_14 : decode cX12_drops 14 = .ok (.aload_n 0, 1) := by decide +kernel
theorem dX12_drops_15 : decode cX12_drops 15 = .ok (.iload_n 2, 1) := by decide +kernel
theorem dX12_drops_16 : decode cX12_drops 16 = .ok (.iload_n 2, 1) := by decide +kernel
theorem dX12_drops_17 : decode cX12_drops 17 = .ok (.iconst 1, 1) := by decide +kernel
theorem dX12_drops_18 : decode cX12_drops 18 = .ok (.isub, 1) := by decide +kernel
theorem dX12_drops_19 : decode cX12_drops 19 = .ok (.invokevirtual 244, 3) := by decide +kernel
theorem dX12_drops_22 : decode cX12_drops 22 = .ok (.iinc 2 1, 3) := by decide +kernel
theorem dX12_drops_25 : decode cX12_drops 25 = .ok (.goto (-21), 3) := by decide +kernel
theorem dX12_drops_28 : decode cX12_drops 28 = .ok (.aload_n 0, 1) := by decide +kernel
theorem dX12_drops_29 : decode cX12_drops 29 = .ok (.getfield 16, 3) := by decide +kernel
theorem dX12_drops_32 : decode cX12_drops 32 = .ok (.iconst 3, 1) := by decide +kernel
theorem dX12_drops_33 : decode cX12_drops 33 = .ok (.dup2, 1) := by decide +kernel
theorem dX12_drops_34 : decode cX12_drops 34 = .ok (.iaload, 1) := by decide +kernel
theorem dX12_drops_35 : decode cX12_drops 35 = .ok (.iconst 1, 1) := by decide +kernel
theorem dX12_drops_36 : decode cX12_drops 36 = .ok (.isub, 1) := by decide +kernel
theorem dX12_drops_37 : decode cX12_drops 37 = .ok (.iastore, 1) := by decide +kernel
theorem dX12_drops_38 : decode cX12_drops 38 = .ok (.return_, 1) := by decide +kernel
theorem dX12_copiesRow_0 : decode cX12_copiesRow 0 = .ok (.iconst 0, 1) := by decide +kernel
theorem dX12_copiesRow_1 : decode cX12_copiesRow 1 = .ok (.istore_n 3, 1) := by decide +kernel
theorem dX12_copiesRow_2 : decode cX12_copiesRow 2 = .ok (.iload_n 3, 1) := by decide +kernel
theorem dX12_copiesRow_3 : decode cX12_copiesRow 3 = .ok (.bipush 8, 2) := by decide +kernel
theorem dX12_copiesRow_5 : decode cX12_copiesRow 5 = .ok (.if_icmp .ge 39, 3) := by decide +kernel
theorem dX12_copiesRow_8 : decode cX12_copiesRow 8 = .ok (.aload_n 0, 1) := by decide +kernel
theorem dX12_copiesRow_9 : decode cX12_copiesRow 9 = .ok (.getfield 16, 3) := by decide +kernel
theorem dX12_copiesRow_12 : decode cX12_copiesRow 12 = .ok (.sipush 161, 3) := by decide +kernel
theorem dX12_copiesRow_15 : decode cX12_copiesRow 15 = .ok (.bipush 8, 2) := by decide +kernel
theorem dX12_copiesRow_17 : decode cX12_copiesRow 17 = .ok (.iload_n 2, 1) := by decide +kernel
theorem dX12_copiesRow_18 : decode cX12_copiesRow 18 = .ok (.imul, 1) := by decide +kernel
theorem dX12_copiesRow_19 : decode cX12_copiesRow 19 = .ok (.iadd, 1) := by decide +kernel
theorem dX12_copiesRow_20 : decode cX12_copiesRow 20 = .ok (.iload_n 3, 1) := by decide +kernel
theorem dX12_copiesRow_21 : decode cX12_copiesRow 21 = .ok (.iadd, 1) := by decide +kernel
theorem dX12_copiesRow_22 : decode cX12_copiesRow 22 = .ok (.aload_n 0, 1) := by decide +kernel
theorem dX12_copiesRow_23 : decode cX12_copiesRow 23 = .ok (.getfield 16, 3) := by decide +kernel
theorem dX12_copiesRow_26 : decode cX12_copiesRow 26 = .ok (.sipush 161, 3) := by decide +kernel
theorem dX12_copiesRow_29 : decode cX12_copiesRow 29 = .ok (.bipush 8, 2) := by decide +kernel
theorem dX12_copiesRow_31 : decode cX12_copiesRow 31 = .ok (.iload_n 1, 1) := by decide +kernel
theorem dX12_copiesRow_32 : decode cX12_copiesRow 32 = .ok (.imul, 1) := by decide +kernel
theorem dX12_copiesRow_33 : decode cX12_copiesRow 33 = .ok (.iadd, 1) := by decide +kernel
theorem dX12_copiesRow_34 : decode cX12_copiesRow 34 = .ok (.iload_n 3, 1) := by decide +kernel
theorem dX12_copiesRow_35 : decode cX12_copiesRow 35 = .ok (.iadd, 1) := by decide +kernel
theorem dX12_copiesRow_36 : decode cX12_copiesRow 36 = .ok (.iaload, 1) := by decide +kernel
theorem dX12_copiesRow_37 : decode cX12_copiesRow 37 = .ok (.iastore, 1) := by decide +kernel
theorem dX12_copiesRow_38 : decode cX12_copiesRow 38 = .ok (.iinc 3 1, 3) := by decide +kernel
theorem dX12_copiesRow_41 : decode cX12_copiesRow 41 = .ok (.goto (-39), 3) := by decide +kernel
theorem dX12_copiesRow_44 : decode cX12_copiesRow 44 = .ok (.aload_n 0, 1) := by decide +kernel
theorem dX12_copiesRow_45 : decode cX12_copiesRow 45 = .ok (.getfield 16, 3) := by decide +kernel
theorem dX12_copiesRow_48 : decode cX12_copiesRow 48 = .ok (.bipush 97, 2) := by decide +kernel
theorem dX12_copiesRow_50 : decode cX12_copiesRow 50 = .ok (.iload_n 2, 1) := by decide +kernel
theorem dX12_copiesRow_51 : decode cX12_copiesRow 51 = .ok (.iadd, 1) := by decide +kernel
theorem dX12_copiesRow_52 : decode cX12_copiesRow 52 = .ok (.aload_n 0, 1) := by decide +kernel
theorem dX12_copiesRow_53 : decode cX12_copiesRow 53 = .ok (.getfield 16, 3) := by decide +kernel
theorem dX12_copiesRow_56 : decode cX12_copiesRow 56 = .ok (.bipush 97, 2) := by decide +kernel
theorem dX12_copiesRow_58 : decode cX12_copiesRow 58 = .ok (.iload_n 1, 1) := by decide +kernel
theorem dX12_copiesRow_59 : decode cX12_copiesRow 59 = .ok (.iadd, 1) := by decide +kernel
theorem dX12_copiesRow_60 : decode cX12_copiesRow 60 = .ok (.iaload, 1) := by decide +kernel
theorem dX12_copiesRow_61 : decode cX12_copiesRow 61 = .ok (.iastore, 1) := by decide +kernel
theorem dX12_copiesRow_62 : decode cX12_copiesRow 62 = .ok (.return_, 1) := by decide +kernel
theorem dX12_drop_0 : decode cX12_drop 0 = .ok (.aload_n 0, 1) := by decide +kernel
theorem dX12_drop_1 : decode cX12_drop 1 = .ok (.iload_n 1, 1) := by decide +kernel
theorem dX12_drop_2 : decode cX12_drop 2 = .ok (.invokevirtual 236, 3) := by decide +kernel
theorem dX12_drop_5 : decode cX12_drop 5 = .ok (.ifCond .ne 5, 3) := by decide +kernel
theorem dX12_drop_8 : decode cX12_drop 8 = .ok (.iconst (-1), 1) := by decide +kernel
theorem dX12_drop_9 : decode cX12_drop 9 = .ok (.ireturn, 1) := by decide +kernel
theorem dX12_drop_10 : decode cX12_drop 10 = .ok (.aload_n 0, 1) := by decide +kernel
theorem dX12_drop_11 : decode cX12_drop 11 = .ok (.invokevirtual 230, 3) := by decide +kernel
theorem dX12_drop_14 : decode cX12_drop 14 = .ok (.aload_n 0, 1) := by decide +kernel
theorem dX12_drop_15 : decode cX12_drop 15 = .ok (.iload_n 1, 1) := by decide +kernel
theorem dX12_drop_16 : decode cX12_drop 16 = .ok (.invokevirtual 248, 3) := by decide +kernel
theorem dX12_drop_19 : decode cX12_drop 19 = .ok (.aload_n 0, 1) := by decide +kernel
theorem dX12_drop_20 : decode cX12_drop 20 = .ok (.getfield 16, 3) := by decide +kernel
theorem dX12_drop_23 : decode cX12_drop 23 = .ok (.iconst 3, 1) := by decide +kernel
theorem dX12_drop_24 : decode cX12_drop 24 = .ok (.iaload, 1) := by decide +kernel
theorem dX12_drop_25 : decode cX12_drop 25 = .ok (.ireturn, 1) := by decide +kernel
theorem dX12_open_0 : decode cX12_open 0 = .ok (.aload_n 0, 1) := by decide +kernel
theorem dX12_open_1 : decode cX12_open 1 = .ok (.invokevirtual 212, 3) := by decide +kernel
theorem dX12_open_4 : decode cX12_open 4 = .ok (.ifCond .eq 10, 3) := by decide +kernel
theorem dX12_open_7 : decode cX12_open 7 = .ok (.aload_n 0, 1) := by decide +kernel
theorem dX12_open_8 : decode cX12_open 8 = .ok (.invokevirtual 251, 3) := by decide +kernel
theorem dX12_open_11 : decode cX12_open 11 = .ok (.goto 4, 3) := by decide +kernel
theorem dX12_open_14 : decode cX12_open 14 = .ok (.iconst (-1), 1) := by decide +kernel
theorem dX12_open_15 : decode cX12_open 15 = .ok (.ireturn, 1) := by decide +kernel
theorem dX12_openMix_0 : decode cX12_openMix 0 = .ok (.aload_n 0, 1) := by decide +kernel
theorem dX12_openMix_1 : decode cX12_openMix 1 = .ok (.invokevirtual 212, 3) := by decide +kernel
theorem dX12_openMix_4 : decode cX12_openMix 4 = .ok (.ifCond .eq 7, 3) := by decide +kernel
theorem dX12_openMix_7 : decode cX12_openMix 7 = .ok (.iload_n 1, 1) := by decide +kernel
theorem dX12_openMix_8 : decode cX12_openMix 8 = .ok (.ifCond .ge 5, 3) := by decide +kernel
theorem dX12_openMix_11 : decode cX12_openMix 11 = .ok (.iconst (-1), 1) := by decide +kernel
theorem dX12_openMix_12 : decode cX12_openMix 12 = .ok (.ireturn, 1) := by decide +kernel
theorem dX12_openMix_13 : decode cX12_openMix 13 = .ok (.aload_n 0, 1) := by decide +kernel
theorem dX12_openMix_14 : decode cX12_openMix 14 = .ok (.invokevirtual 251, 3) := by decide +kernel
theorem dX12_openMix_17 : decode cX12_openMix 17 = .ok (.istore_n 2, 1) := by decide +kernel
theorem dX12_openMix_18 : decode cX12_openMix 18 = .ok (.iconst 0, 1) := by decide +kernel
theorem dX12_openMix_19 : decode cX12_openMix 19 = .ok (.istore_n 3, 1) := by decide +kernel
theorem dX12_openMix_20 : decode cX12_openMix 20 = .ok (.iconst 0, 1) := by decide +kernel
theorem dX12_openMix_21 : decode cX12_openMix 21 = .ok (.istore 4, 2) := by decide +kernel
theorem dX12_openMix_23 : decode cX12_openMix 23 = .ok (.iload 4, 2) := by decide +kernel
theorem dX12_openMix_25 : decode cX12_openMix 25 = .ok (.aload_n 0, 1) := by decide +kernel
theorem dX12_openMix_26 : decode cX12_openMix 26 = .ok (.getfield 168, 3) := by decide +kernel
theorem dX12_openMix_29 : decode cX12_openMix 29 = .ok (.if_icmp .ge 33, 3) := by decide +kernel
theorem dX12_openMix_32 : decode cX12_openMix 32 = .ok (.aload_n 0, 1) := by decide +kernel
theorem dX12_openMix_33 : decode cX12_openMix 33 = .ok (.getfield 45, 3) := by decide +kernel
theorem dX12_openMix_36 : decode cX12_openMix 36 = .ok (.iload 4, 2) := by decide +kernel
theorem dX12_openMix_38 : decode cX12_openMix 38 = .ok (.baload, 1) := by decide +kernel
theorem dX12_openMix_39 : decode cX12_openMix 39 = .ok (.ifCond .ne 6, 3) := by decide +kernel
theorem dX12_openMix_42 : decode cX12_openMix 42 = .ok (.goto 14, 3) := by decide +kernel
theorem dX12_openMix_45 : decode cX12_openMix 45 = .ok (.iload_n 3, 1) := by decide +kernel
theorem dX12_openMix_46 : decode cX12_openMix 46 = .ok (.iload_n 1, 1) := by decide +kernel
theorem dX12_openMix_47 : decode cX12_openMix 47 = .ok (.if_icmp .ne 6, 3) := by decide +kernel
theorem dX12_openMix_50 : decode cX12_openMix 50 = .ok (.iload 4, 2) := by decide +kernel
theorem dX12_openMix_52 : decode cX12_openMix 52 = .ok (.ireturn, 1) := by decide +kernel
theorem dX12_openMix_53 : decode cX12_openMix 53 = .ok (.iinc 3 1, 3) := by decide +kernel
theorem dX12_openMix_56 : decode cX12_openMix 56 = .ok (.iinc 4 1, 3) := by decide +kernel
theorem dX12_openMix_59 : decode cX12_openMix 59 = .ok (.goto (-36), 3) := by decide +kernel
theorem dX12_openMix_62 : decode cX12_openMix 62 = .ok (.bipush (-2), 2) := by decide +kernel
theorem dX12_openMix_64 : decode cX12_openMix 64 = .ok (.ireturn, 1) := by decide +kernel
theorem dX12_weight_0 : decode cX12_weight 0 = .ok (.lconst 1, 1) := by decide +kernel
theorem dX12_weight_1 : decode cX12_weight 1 = .ok (.lstore_n 3, 1) := by decide +kernel
theorem dX12_weight_2 : decode cX12_weight 2 = .ok (.iconst 0, 1) := by decide +kernel
theorem dX12_weight_3 : decode cX12_weight 3 = .ok (.istore 5, 2) := by decide +kernel
theorem dX12_weight_5 : decode cX12_weight 5 = .ok (.iload 5, 2) := by decide +kernel
theorem dX12_weight_7 : decode cX12_weight 7 = .ok (.aload_n 0, 1) := by decide +kernel
theorem dX12_weight_8 : decode cX12_weight 8 = .ok (.getfield 16, 3) := by decide +kernel
theorem dX12_weight_11 : decode cX12_weight 11 = .ok (.iconst 1, 1) := by decide +kernel
theorem dX12_weight_12 : decode cX12_weight 12 = .ok (.iaload, 1) := by decide +kernel
theorem dX12_weight_13 : decode cX12_weight 13 = .ok (.if_icmp .ge 86, 3) := by decide +kernel
theorem dX12_weight_16 : decode cX12_weight 16 = .ok (.aload_n 0, 1) := by decide +kernel
theorem dX12_weight_17 : decode cX12_weight 17 = .ok (.getfield 32, 3) := by decide +kernel
theorem dX12_weight_20 : decode cX12_weight 20 = .ok (.iconst 3, 1) := by decide +kernel
theorem dX12_weight_21 : decode cX12_weight 21 = .ok (.iload_n 2, 1) := by decide +kernel
theorem dX12_weight_22 : decode cX12_weight 22 = .ok (.imul, 1) := by decide +kernel
theorem dX12_weight_23 : decode cX12_weight 23 = .ok (.iload 5, 2) := by decide +kernel
theorem dX12_weight_25 : decode cX12_weight 25 = .ok (.iadd, 1) := by decide +kernel
theorem dX12_weight_26 : decode cX12_weight 26 = .ok (.iaload, 1) := by decide +kernel
theorem dX12_weight_27 : decode cX12_weight 27 = .ok (.istore 6, 2) := by decide +kernel
theorem dX12_weight_29 : decode cX12_weight 29 = .ok (.aload_n 0, 1) := by decide +kernel
theorem dX12_weight_30 : decode cX12_weight 30 = .ok (.getfield 35, 3) := by decide +kernel
theorem dX12_weight_33 : decode cX12_weight 33 = .ok (.iconst 3, 1) := by decide +kernel
theorem dX12_weight_34 : decode cX12_weight 34 = .ok (.iload_n 2, 1) := by decide +kernel
theorem dX12_weight_35 : decode cX12_weight 35 = .ok (.imul, 1) := by decide +kernel
theorem dX12_weight_36 : decode cX12_weight 36 = .ok (.iload 5, 2) := by decide +kernel
theorem dX12_weight_38 : decode cX12_weight 38 = .ok (.iadd, 1) := by decide +kernel
theorem dX12_weight_39 : decode cX12_weight 39 = .ok (.iaload, 1) := by decide +kernel
theorem dX12_weight_40 : decode cX12_weight 40 = .ok (.istore 7, 2) := by decide +kernel
theorem dX12_weight_42 : decode cX12_weight 42 = .ok (.aload_n 1, 1) := by decide +kernel
theorem dX12_weight_43 : decode cX12_weight 43 = .ok (.iload 6, 2) := by decide +kernel
theorem dX12_weight_45 : decode cX12_weight 45 = .ok (.iaload, 1) := by decide +kernel
theorem dX12_weight_46 : decode cX12_weight 46 = .ok (.iconst (-1), 1) := by decide +kernel
theorem dX12_weight_47 : decode cX12_weight 47 = .ok (.if_icmp .eq 14, 3) := by decide +kernel
theorem dX12_weight_50 : decode cX12_weight 50 = .ok (.aload_n 1, 1) := by decide +kernel
theorem dX12_weight_51 : decode cX12_weight 51 = .ok (.iload 6, 2) := by decide +kernel
theorem dX12_weight_53 : decode cX12_weight 53 = .ok (.iaload, 1) := by decide +kernel
theorem dX12_weight_54 : decode cX12_weight 54 = .ok (.iload 7, 2) := by decide +kernel
theorem dX12_weight_56 : decode cX12_weight 56 = .ok (.if_icmp .eq 5, 3) := by decide +kernel
theorem dX12_weight_59 : decode cX12_weight 59 = .ok (.lconst 0, 1) := by decide +kernel
theorem dX12_weight_60 : decode cX12_weight 60 = .ok (.lreturn, 1) := by decide +kernel
theorem dX12_weight_61 : decode cX12_weight 61 = .ok (.lload_n 3, 1) := by decide +kernel
theorem dX12_weight_62 : decode cX12_weight 62 = .ok (.aload_n 1, 1) := by decide +kernel
theorem dX12_weight_63 : decode cX12_weight 63 = .ok (.iload 6, 2) := by decide +kernel
theorem dX12_weight_65 : decode cX12_weight 65 = .ok (.iaload, 1) := by decide +kernel
theorem dX12_weight_66 : decode cX12_weight 66 = .ok (.iload 7, 2) := by decide +kernel
theorem dX12_weight_68 : decode cX12_weight 68 = .ok (.if_icmp .ne 9, 3) := by decide +kernel
theorem dX12_weight_71 : decode cX12_weight 71 = .ok (.ldc2_w 254, 3) := by decide +kernel
theorem dX12_weight_74 : decode cX12_weight 74 = .ok (.goto 17, 3) := by decide +kernel
theorem dX12_weight_77 : decode cX12_weight 77 = .ok (.ldc2_w 254, 3) := by decide +kernel
theorem dX12_weight_80 : decode cX12_weight 80 = .ok (.aload_n 0, 1) := by decide +kernel
theorem dX12_weight_81 : decode cX12_weight 81 = .ok (.getfield 16, 3) := by decide +kernel
theorem dX12_weight_84 : decode cX12_weight 84 = .ok (.iconst 5, 1) := by decide +kernel
theorem dX12_weight_85 : decode cX12_weight 85 = .ok (.iload 6, 2) := by decide +kernel
theorem dX12_weight_87 : decode cX12_weight 87 = .ok (.iadd, 1) := by decide +kernel
theorem dX12_weight_88 : decode cX12_weight 88 = .ok (.iaload, 1) := by decide +kernel
theorem dX12_weight_89 : decode cX12_weight 89 = .ok (.i2l, 1) := by decide +kernel
theorem dX12_weight_90 : decode cX12_weight 90 = .ok (.ldiv, 1) := by decide +kernel
theorem dX12_weight_91 : decode cX12_weight 91 = .ok (.lmul, 1) := by decide +kernel
theorem dX12_weight_92 : decode cX12_weight 92 = .ok (.lstore_n 3, 1) := by decide +kernel
theorem dX12_weight_93 : decode cX12_weight 93 = .ok (.iinc 5 1, 3) := by decide +kernel
theorem dX12_weight_96 : decode cX12_weight 96 = .ok (.goto (-91), 3) := by decide +kernel
theorem dX12_weight_99 : decode cX12_weight 99 = .ok (.lload_n 3, 1) := by decide +kernel
theorem dX12_weight_100 : decode cX12_weight 100 = .ok (.lreturn, 1) := by decide +kernel
theorem dX12_canWith_0 : decode cX12_canWith 0 = .ok (.aload_n 0, 1) := by decide +kernel
theorem dX12_canWith_1 : decode cX12_canWith 1 = .ok (.aload_n 1, 1) := by decide +kernel
theorem dX12_canWith_2 : decode cX12_canWith 2 = .ok (.invokevirtual 226, 3) := by decide +kernel
theorem dX12_canWith_5 : decode cX12_canWith 5 = .ok (.iconst 0, 1) := by decide +kernel
theorem dX12_canWith_6 : decode cX12_canWith 6 = .ok (.istore_n 3, 1) := by decide +kernel
theorem dX12_canWith_7 : decode cX12_canWith 7 = .ok (.iload_n 3, 1) := by decide +kernel
theorem dX12_canWith_8 : decode cX12_canWith 8 = .ok (.aload_n 0, 1) := by decide +kernel
theorem dX12_canWith_9 : decode cX12_canWith 9 = .ok (.getfield 16, 3) := by decide +kernel
theorem dX12_canWith_12 : decode cX12_canWith 12 = .ok (.iconst 1, 1) := by decide +kernel
theorem dX12_canWith_13 : decode cX12_canWith 13 = .ok (.iaload, 1) := by decide +kernel
theorem dX12_canWith_14 : decode cX12_canWith 14 = .ok (.if_icmp .ge 34, 3) := by decide +kernel
theorem dX12_canWith_17 : decode cX12_canWith 17 = .ok (.aload_n 0, 1) := by decide +kernel
theorem dX12_canWith_18 : decode cX12_canWith 18 = .ok (.getfield 26, 3) := by decide +kernel
theorem dX12_canWith_21 : decode cX12_canWith 21 = .ok (.aload_n 0, 1) := by decide +kernel
theorem dX12_canWith_22 : decode cX12_canWith 22 = .ok (.getfield 32, 3) := by decide +kernel
theorem dX12_canWith_25 : decode cX12_canWith 25 = .ok (.iconst 3, 1) := by decide +kernel
theorem dX12_canWith_26 : decode cX12_canWith 26 = .ok (.iload_n 2, 1) := by decide +kernel
theorem dX12_canWith_27 : decode cX12_canWith 27 = .ok (.imul, 1) := by decide +kernel
theorem dX12_canWith_28 : decode cX12_canWith 28 = .ok (.iload_n 3, 1) := by decide +kernel
theorem dX12_canWith_29 : decode cX12_canWith 29 = .ok (.iadd, 1) := by decide +kernel
theorem dX12_canWith_30 : decode cX12_canWith 30 = .ok (.iaload, 1) := by decide +kernel
theorem dX12_canWith_31 : decode cX12_canWith 31 = .ok (.aload_n 0, 1) := by decide +kernel
theorem dX12_canWith_32 : decode cX12_canWith 32 = .ok (.getfield 35, 3) := by decide +kernel
theorem dX12_canWith_35 : decode cX12_canWith 35 = .ok (.iconst 3, 1) := by decide +kernel
theorem dX12_canWith_36 : decode cX12_canWith 36 = .ok (.iload_n 2, 1) := by decide +kernel
theorem dX12_canWith_37 : decode cX12_canWith 37 = .ok (.imul, 1) := by decide +kernel
theorem dX12_canWith_38 : decode cX12_canWith 38 = .ok (.iload_n 3, 1) := by decide +kernel
theorem dX12_canWith_39 : decode cX12_canWith 39 = .ok (.iadd, 1) := by decide +kernel
theorem dX12_canWith_40 : decode cX12_canWith 40 = .ok (.iaload, 1) := by decide +kernel
theorem dX12_canWith_41 : decode cX12_canWith 41 = .ok (.iastore, 1) := by decide +kernel
theorem dX12_canWith_42 : decode cX12_canWith 42 = .ok (.iinc 3 1, 3) := by decide +kernel
theorem dX12_canWith_45 : decode cX12_canWith 45 = .ok (.goto (-38), 3) := by decide +kernel
theorem dX12_canWith_48 : decode cX12_canWith 48 = .ok (.aload_n 0, 1) := by decide +kernel
theorem dX12_canWith_49 : decode cX12_canWith 49 = .ok (.invokevirtual 162, 3) := by decide +kernel
theorem dX12_canWith_52 : decode cX12_canWith 52 = .ok (.ireturn, 1) := by decide +kernel
theorem dX12_hopeOf_0 : decode cX12_hopeOf 0 = .ok (.lconst 0, 1) := by decide +kernel
theorem dX12_hopeOf_1 : decode cX12_hopeOf 1 = .ok (.lstore_n 2, 1) := by decide +kernel
theorem dX12_hopeOf_2 : decode cX12_hopeOf 2 = .ok (.iconst 0, 1) := by decide +kernel
theorem dX12_hopeOf_3 : decode cX12_hopeOf 3 = .ok (.istore 4, 2) := by decide +kernel
theorem dX12_hopeOf_5 : decode cX12_hopeOf 5 = .ok (.iload 4, 2) := by decide +kernel
theorem dX12_hopeOf_7 : decode cX12_hopeOf 7 = .ok (.aload_n 0, 1) := by decide +kernel
theorem dX12_hopeOf_8 : decode cX12_hopeOf 8 = .ok (.getfield 168, 3) := by decide +kernel
theorem dX12_hopeOf_11 : decode cX12_hopeOf 11 = .ok (.if_icmp .ge 57, 3) := by decide +kernel
theorem dX12_hopeOf_14 : decode cX12_hopeOf 14 = .ok (.aload_n 0, 1) := by decide +kernel
theorem dX12_hopeOf_15 : decode cX12_hopeOf 15 = .ok (.getfield 45, 3) := by decide +kernel
theorem dX12_hopeOf_18 : decode cX12_hopeOf 18 = .ok (.iload 4, 2) := by decide +kernel
theorem dX12_hopeOf_20 : decode cX12_hopeOf 20 = .ok (.baload, 1) := by decide +kernel
theorem dX12_hopeOf_21 : decode cX12_hopeOf 21 = .ok (.ifCond .ne 6, 3) := by decide +kernel
theorem dX12_hopeOf_24 : decode cX12_hopeOf 24 = .ok (.goto 38, 3) := by decide +kernel
theorem dX12_hopeOf_27 : decode cX12_hopeOf 27 = .ok (.aload_n 0, 1) := by decide +kernel
theorem dX12_hopeOf_28 : decode cX12_hopeOf 28 = .ok (.aload_n 1, 1) := by decide +kernel
theorem dX12_hopeOf_29 : decode cX12_hopeOf 29 = .ok (.iload 4, 2) := by decide +kernel
theorem dX12_hopeOf_31 : decode cX12_hopeOf 31 = .ok (.invokevirtual 256, 3) := by decide +kernel
theorem dX12_hopeOf_34 : decode cX12_hopeOf 34 = .ok (.lstore 5, 2) := by decide +kernel
theorem dX12_hopeOf_36 : decode cX12_hopeOf 36 = .ok (.lload_n 2, 1) := by decide +kernel
theorem dX12_hopeOf_37 : decode cX12_hopeOf 37 = .ok (.lload 5, 2) := by decide +kernel
theorem dX12_hopeOf_39 : decode cX12_hopeOf 39 = .ok (.lconst 0, 1) := by decide +kernel
theorem dX12_hopeOf_40 : decode cX12_hopeOf 40 = .ok (.lcmp, 1) := by decide +kernel
theorem dX12_hopeOf_41 : decode cX12_hopeOf 41 = .ok (.ifCond .le 18, 3) := by decide +kernel
theorem dX12_hopeOf_44 : decode cX12_hopeOf 44 = .ok (.aload_n 0, 1) := by decide +kernel
theorem dX12_hopeOf_45 : decode cX12_hopeOf 45 = .ok (.aload_n 1, 1) := by decide +kernel
theorem dX12_hopeOf_46 : decode cX12_hopeOf 46 = .ok (.iload 4, 2) := by decide +kernel
theorem dX12_hopeOf_48 : decode cX12_hopeOf 48 = .ok (.invokevirtual 260, 3) := by decide +kernel
theorem dX12_hopeOf_51 : decode cX12_hopeOf 51 = .ok (.ifCond .eq 8, 3) := by decide +kernel
theorem dX12_hopeOf_54 : decode cX12_hopeOf 54 = .ok (.lload 5, 2) := by decide +kernel
theorem dX12_hopeOf_56 : decode cX12_hopeOf 56 = .ok (.goto 4, 3) := by decide +kernel
theorem dX12_hopeOf_59 : decode cX12_hopeOf 59 = .ok (.lconst 0, 1) := by decide +kernel
theorem dX12_hopeOf_60 : decode cX12_hopeOf 60 = .ok (.ladd, 1) := by decide +kernel
theorem dX12_hopeOf_61 : decode cX12_hopeOf 61 = .ok (.lstore_n 2, 1) := by decide +kernel
theorem dX12_hopeOf_62 : decode cX12_hopeOf 62 = .ok (.iinc 4 1, 3) := by decide +kernel
theorem dX12_hopeOf_65 : decode cX12_hopeOf 65 = .ok (.goto (-60), 3) := by decide +kernel
theorem dX12_hopeOf_68 : decode cX12_hopeOf 68 = .ok (.lload_n 2, 1) := by decide +kernel
theorem dX12_hopeOf_69 : decode cX12_hopeOf 69 = .ok (.lreturn, 1) := by decide +kernel
theorem dX12_hope_0 : decode cX12_hope 0 = .ok (.aload_n 0, 1) := by decide +kernel
theorem dX12_hope_1 : decode cX12_hope 1 = .ok (.iload_n 1, 1) := by decide +kernel
theorem dX12_hope_2 : decode cX12_hope 2 = .ok (.invokevirtual 223, 3) := by decide +kernel
theorem dX12_hope_5 : decode cX12_hope 5 = .ok (.ifCond .ne 7, 3) := by decide +kernel
theorem dX12_hope_8 : decode cX12_hope 8 = .ok (.ldc2_w 239, 3) := by decide +kernel
theorem dX12_hope_11 : decode cX12_hope 11 = .ok (.lreturn, 1) := by decide +kernel
theorem dX12_hope_12 : decode cX12_hope 12 = .ok (.aload_n 0, 1) := by decide +kernel
theorem dX12_hope_13 : decode cX12_hope 13 = .ok (.invokevirtual 251, 3) := by decide +kernel
theorem dX12_hope_16 : decode cX12_hope 16 = .ok (.istore_n 2, 1) := by decide +kernel
theorem dX12_hope_17 : decode cX12_hope 17 = .ok (.aload_n 0, 1) := by decide +kernel
theorem dX12_hope_18 : decode cX12_hope 18 = .ok (.aload_n 0, 1) := by decide +kernel
theorem dX12_hope_19 : decode cX12_hope 19 = .ok (.getfield 48, 3) := by decide +kernel
theorem dX12_hope_22 : decode cX12_hope 22 = .ok (.invokevirtual 264, 3) := by decide +kernel
theorem dX12_hope_25 : decode cX12_hope 25 = .ok (.lreturn, 1) := by decide +kernel
theorem dX12_laysGreedy_0 : decode cX12_laysGreedy 0 = .ok (.iconst 0, 1) := by decide +kernel
theorem dX12_laysGreedy_1 : decode cX12_laysGreedy 1 = .ok (.istore_n 1, 1) := by decide +kernel
theorem dX12_laysGreedy_2 : decode cX12_laysGreedy 2 = .ok (.iload_n 1, 1) := by decide +kernel
theorem dX12_laysGreedy_3 : decode cX12_laysGreedy 3 = .ok (.aload_n 0, 1) := by decide +kernel
theorem dX12_laysGreedy_4 : decode cX12_laysGreedy 4 = .ok (.getfield 16, 3) := by decide +kernel
theorem dX12_laysGreedy_7 : decode cX12_laysGreedy 7 = .ok (.iconst 0, 1) := by decide +kernel
theorem dX12_laysGreedy_8 : decode cX12_laysGreedy 8 = .ok (.iaload, 1) := by decide +kernel
theorem dX12_laysGreedy_9 : decode cX12_laysGreedy 9 = .ok (.if_icmp .ge 16, 3) := by decide +kernel
theorem dX12_laysGreedy_12 : decode cX12_laysGreedy 12 = .ok (.aload_n 0, 1) := by decide +kernel
theorem dX12_laysGreedy_13 : decode cX12_laysGreedy 13 = .ok (.getfield 51, 3) := by decide +kernel
theorem dX12_laysGreedy_16 : decode cX12_laysGreedy 16 = .ok (.iload_n 1, 1) := by decide +kernel
theorem dX12_laysGreedy_17 : decode cX12_laysGreedy 17 = .ok (.iconst (-1), 1) := by decide +kernel
theorem dX12_laysGreedy_18 : decode cX12_laysGreedy 18 = .ok (.iastore, 1) := by decide +kernel
theorem dX12_laysGreedy_19 : decode cX12_laysGreedy 19 = .ok (.iinc 1 1, 3) := by decide +kernel
theorem dX12_laysGreedy_22 : decode cX12_laysGreedy 22 = .ok (.goto (-20), 3) := by decide +kernel
theorem dX12_laysGreedy_25 : decode cX12_laysGreedy 25 = .ok (.iconst 0, 1) := by decide +kernel
theorem dX12_laysGreedy_26 : decode cX12_laysGreedy 26 = .ok (.istore_n 1, 1) := by decide +kernel
theorem dX12_laysGreedy_27 : decode cX12_laysGreedy 27 = .ok (.iload_n 1, 1) := by decide +kernel
theorem dX12_laysGreedy_28 : decode cX12_laysGreedy 28 = .ok (.aload_n 0, 1) := by decide +kernel
theorem dX12_laysGreedy_29 : decode cX12_laysGreedy 29 = .ok (.getfield 16, 3) := by decide +kernel
theorem dX12_laysGreedy_32 : decode cX12_laysGreedy 32 = .ok (.iconst 0, 1) := by decide +kernel
theorem dX12_laysGreedy_33 : decode cX12_laysGreedy 33 = .ok (.iaload, 1) := by decide +kernel
theorem dX12_laysGreedy_34 : decode cX12_laysGreedy 34 = .ok (.if_icmp .ge 96, 3) := by decide +kernel
theorem dX12_laysGreedy_37 : decode cX12_laysGreedy 37 = .ok (.iconst (-1), 1) := by decide +kernel
theorem dX12_laysGreedy_38 : decode cX12_laysGreedy 38 = .ok (.istore_n 2, 1) := by decide +kernel
theorem dX12_laysGreedy_39 : decode cX12_laysGreedy 39 = .ok (.ldc2_w 239, 3) := by decide +kernel
theorem dX12_laysGreedy_42 : decode cX12_laysGreedy 42 = .ok (.lstore_n 3, 1) := by decide +kernel
theorem dX12_laysGreedy_43 : decode cX12_laysGreedy 43 = .ok (.iconst 0, 1) := by decide +kernel
theorem dX12_laysGreedy_44 : decode cX12_laysGreedy 44 = .ok (.istore 5, 2) := by decide +kernel
theorem dX12_laysGreedy_46 : decode cX12_laysGreedy 46 = .ok (.iload 5, 2) := by decide +kernel
theorem dX12_laysGreedy_48 : decode cX12_laysGreedy 48 = .ok (.aload_n 0, 1) := by decide +kernel
theorem dX12_laysGreedy_49 : decode cX12_laysGreedy 49 = .ok (.getfield 16, 3) := by decide +kernel
theorem dX12_laysGreedy_52 : decode cX12_laysGreedy 52 = .ok (.iconst 5, 1) := by decide +kernel
theorem dX12_laysGreedy_53 : decode cX12_laysGreedy 53 = .ok (.iload_n 1, 1) := by decide +kernel
theorem dX12_laysGreedy_54 : decode cX12_laysGreedy 54 = .ok (.iadd, 1) := by decide +kernel
theorem dX12_laysGreedy_55 : decode cX12_laysGreedy 55 = .ok (.iaload, 1) := by decide +kernel
theorem dX12_laysGreedy_56 : decode cX12_laysGreedy 56 = .ok (.if_icmp .ge 61, 3) := by decide +kernel
theorem dX12_laysGreedy_59 : decode cX12_laysGreedy 59 = .ok (.aload_n 0, 1) := by decide +kernel
theorem dX12_laysGreedy_60 : decode cX12_laysGreedy 60 = .ok (.getfield 51, 3) := by decide +kernel
theorem dX12_laysGreedy_63 : decode cX12_laysGreedy 63 = .ok (.iload_n 1, 1) := by decide +kernel
theorem dX12_laysGreedy_64 : decode cX12_laysGreedy 64 = .ok (.iload 5, 2) := by decide +kernel
theorem dX12_laysGreedy_66 : decode cX12_laysGreedy 66 = .ok (.iastore, 1) := by decide +kernel
theorem dX12_laysGreedy_67 : decode cX12_laysGreedy 67 = .ok (.aload_n 0, 1) := by decide +kernel
theorem dX12_laysGreedy_68 : decode cX12_laysGreedy 68 = .ok (.aload_n 0, 1) := by decide +kernel
theorem dX12_laysGreedy_69 : decode cX12_laysGreedy 69 = .ok (.getfield 51, 3) := by decide +kernel
theorem dX12_laysGreedy_72 : decode cX12_laysGreedy 72 = .ok (.invokevirtual 226, 3) := by decide +kernel
theorem dX12_laysGreedy_75 : decode cX12_laysGreedy 75 = .ok (.aload_n 0, 1) := by decide +kernel
theorem dX12_laysGreedy_76 : decode cX12_laysGreedy 76 = .ok (.invokevirtual 162, 3) := by decide +kernel
theorem dX12_laysGreedy_79 : decode cX12_laysGreedy 79 = .ok (.ifCond .ne 6, 3) := by decide +kernel
theorem dX12_laysGreedy_82 : decode cX12_laysGreedy 82 = .ok (.goto 29, 3) := by decide +kernel
theorem dX12_laysGreedy_85 : decode cX12_laysGreedy 85 = .ok (.aload_n 0, 1) := by decide +kernel
theorem dX12_laysGreedy_86 : decode cX12_laysGreedy 86 = .ok (.aload_n 0, 1) := by decide +kernel
theorem dX12_laysGreedy_87 : decode cX12_laysGreedy 87 = .ok (.getfield 51, 3) := by decide +kernel
theorem dX12_laysGreedy_90 : decode cX12_laysGreedy 90 = .ok (.invokevirtual 264, 3) := by decide +kernel
theorem dX12_laysGreedy_93 : decode cX12_laysGreedy 93 = .ok (.lstore 6, 2) := by decide +kernel
theorem dX12_laysGreedy_95 : decode cX12_laysGreedy 95 = .ok (.lload 6, 2) := by decide +kernel
theorem dX12_laysGreedy_97 : decode cX12_laysGreedy 97 = .ok (.lload_n 3, 1) := by decide +kernel
theorem dX12_laysGreedy_98 : decode cX12_laysGreedy 98 = .ok (.lcmp, 1) := by decide +kernel
theorem dX12_laysGreedy_99 : decode cX12_laysGreedy 99 = .ok (.ifCond .gt 6, 3) := by decide +kernel
theorem dX12_laysGreedy_102 : decode cX12_laysGreedy 102 = .ok (.goto 9, 3) := by decide +kernel
theorem dX12_laysGreedy_105 : decode cX12_laysGreedy 105 = .ok (.iload 5, 2) := by decide +kernel
theorem dX12_laysGreedy_107 : decode cX12_laysGreedy 107 = .ok (.istore_n 2, 1) := by decide +kernel
theorem dX12_laysGreedy_108 : decode cX12_laysGreedy 108 = .ok (.lload 6, 2) := by decide +kernel
theorem dX12_laysGreedy_110 : decode cX12_laysGreedy 110 = .ok (.lstore_n 3, 1) := by decide +kernel
theorem dX12_laysGreedy_111 : decode cX12_laysGreedy 111 = .ok (.iinc 5 1, 3) := by decide +kernel
theorem dX12_laysGreedy_114 : decode cX12_laysGreedy 114 = .ok (.goto (-68), 3) := by decide +kernel
theorem dX12_laysGreedy_117 : decode cX12_laysGreedy 117 = .ok (.aload_n 0, 1) := by decide +kernel
theorem dX12_laysGreedy_118 : decode cX12_laysGreedy 118 = .ok (.getfield 51, 3) := by decide +kernel
theorem dX12_laysGreedy_121 : decode cX12_laysGreedy 121 = .ok (.iload_n 1, 1) := by decide +kernel
theorem dX12_laysGreedy_122 : decode cX12_laysGreedy 122 = .ok (.iload_n 2, 1) := by decide +kernel
theorem dX12_laysGreedy_123 : decode cX12_laysGreedy 123 = .ok (.iastore, 1) := by decide +kernel
theorem dX12_laysGreedy_124 : decode cX12_laysGreedy 124 = .ok (.iinc 1 1, 3) := by decide +kernel
theorem dX12_laysGreedy_127 : decode cX12_laysGreedy 127 = .ok (.goto (-100), 3) := by decide +kernel
theorem dX12_laysGreedy_130 : decode cX12_laysGreedy 130 = .ok (.return_, 1) := by decide +kernel
theorem dX12_gainOf_0 : decode cX12_gainOf 0 = .ok (.iconst 0, 1) := by decide +kernel
theorem dX12_gainOf_1 : decode cX12_gainOf 1 = .ok (.istore_n 2, 1) := by decide +kernel
theorem dX12_gainOf_2 : decode cX12_gainOf 2 = .ok (.iconst 0, 1) := by decide +kernel
theorem dX12_gainOf_3 : decode cX12_gainOf 3 = .ok (.istore_n 3, 1) := by decide +kernel
theorem dX12_gainOf_4 : decode cX12_gainOf 4 = .ok (.iload_n 3, 1) := by decide +kernel
theorem dX12_gainOf_5 : decode cX12_gainOf 5 = .ok (.aload_n 0, 1) := by decide +kernel
theorem dX12_gainOf_6 : decode cX12_gainOf 6 = .ok (.getfield 168, 3) := by decide +kernel
theorem dX12_gainOf_9 : decode cX12_gainOf 9 = .ok (.if_icmp .ge 36, 3) := by decide +kernel
theorem dX12_gainOf_12 : decode cX12_gainOf 12 = .ok (.iload_n 2, 1) := by decide +kernel
theorem dX12_gainOf_13 : decode cX12_gainOf 13 = .ok (.aload_n 0, 1) := by decide +kernel
theorem dX12_gainOf_14 : decode cX12_gainOf 14 = .ok (.iload_n 1, 1) := by decide +kernel
theorem dX12_gainOf_15 : decode cX12_gainOf 15 = .ok (.iload_n 3, 1) := by decide +kernel
theorem dX12_gainOf_16 : decode cX12_gainOf 16 = .ok (.invokevirtual 203, 3) := by decide +kernel
theorem dX12_gainOf_19 : decode cX12_gainOf 19 = .ok (.ifCond .eq 17, 3) := by decide +kernel
theorem dX12_gainOf_22 : decode cX12_gainOf 22 = .ok (.aload_n 0, 1) := by decide +kernel
theorem dX12_gainOf_23 : decode cX12_gainOf 23 = .ok (.iload_n 3, 1) := by decide +kernel
theorem dX12_gainOf_24 : decode cX12_gainOf 24 = .ok (.iconst 0, 1) := by decide +kernel
theorem dX12_gainOf_25 : decode cX12_gainOf 25 = .ok (.iload_n 1, 1) := by decide +kernel
theorem dX12_gainOf_26 : decode cX12_gainOf 26 = .ok (.invokevirtual 206, 3) := by decide +kernel
theorem dX12_gainOf_29 : decode cX12_gainOf 29 = .ok (.ifCond .ne 7, 3) := by decide +kernel
theorem dX12_gainOf_32 : decode cX12_gainOf 32 = .ok (.iconst 1, 1) := by decide +kernel
theorem dX12_gainOf_33 : decode cX12_gainOf 33 = .ok (.goto 4, 3) := by decide +kernel
theorem dX12_gainOf_36 : decode cX12_gainOf 36 = .ok (.iconst 0, 1) := by decide +kernel
theorem dX12_gainOf_37 : decode cX12_gainOf 37 = .ok (.iadd, 1) := by decide +kernel
theorem dX12_gainOf_38 : decode cX12_gainOf 38 = .ok (.istore_n 2, 1) := by decide +kernel
theorem dX12_gainOf_39 : decode cX12_gainOf 39 = .ok (.iinc 3 1, 3) := by decide +kernel
theorem dX12_gainOf_42 : decode cX12_gainOf 42 = .ok (.goto (-38), 3) := by decide +kernel
theorem dX12_gainOf_45 : decode cX12_gainOf 45 = .ok (.iload_n 2, 1) := by decide +kernel
theorem dX12_gainOf_46 : decode cX12_gainOf 46 = .ok (.ireturn, 1) := by decide +kernel
theorem dX12_greed_0 : decode cX12_greed 0 = .ok (.aload_n 0, 1) := by decide +kernel
theorem dX12_greed_1 : decode cX12_greed 1 = .ok (.invokevirtual 212, 3) := by decide +kernel
theorem dX12_greed_4 : decode cX12_greed 4 = .ok (.ifCond .eq 14, 3) := by decide +kernel
theorem dX12_greed_7 : decode cX12_greed 7 = .ok (.aload_n 0, 1) := by decide +kernel
theorem dX12_greed_8 : decode cX12_greed 8 = .ok (.getfield 16, 3) := by decide +kernel
theorem dX12_greed_11 : decode cX12_greed 11 = .ok (.iconst 3, 1) := by decide +kernel
theorem dX12_greed_12 : decode cX12_greed 12 = .ok (.iaload, 1) := by decide +kernel
theorem dX12_greed_13 : decode cX12_greed 13 = .ok (.bipush 64, 2) := by decide +kernel
theorem dX12_greed_15 : decode cX12_greed 15 = .ok (.if_icmp .ne 5, 3) := by decide +kernel
theorem dX12_greed_18 : decode cX12_greed 18 = .ok (.iconst (-1), 1) := by decide +kernel
theorem dX12_greed_19 : decode cX12_greed 19 = .ok (.ireturn, 1) := by decide +kernel
theorem dX12_greed_20 : decode cX12_greed 20 = .ok (.aload_n 0, 1) := by decide +kernel
theorem dX12_greed_21 : decode cX12_greed 21 = .ok (.invokevirtual 251, 3) := by decide +kernel
theorem dX12_greed_24 : decode cX12_greed 24 = .ok (.ifCond .ne 6, 3) := by decide +kernel
theorem dX12_greed_27 : decode cX12_greed 27 = .ok (.bipush (-2), 2) := by decide +kernel
theorem dX12_greed_29 : decode cX12_greed 29 = .ok (.ireturn, 1) := by decide +kernel
theorem dX12_greed_30 : decode cX12_greed 30 = .ok (.aload_n 0, 1) := by decide +kernel
theorem dX12_greed_31 : decode cX12_greed 31 = .ok (.invokevirtual 230, 3) := by decide +kernel
theorem dX12_greed_34 : decode cX12_greed 34 = .ok (.aload_n 0, 1) := by decide +kernel
theorem dX12_greed_35 : decode cX12_greed 35 = .ok (.invokevirtual 268, 3) := by decide +kernel
theorem dX12_greed_38 : decode cX12_greed 38 = .ok (.aload_n 0, 1) := by decide +kernel
theorem dX12_greed_39 : decode cX12_greed 39 = .ok (.aload_n 0, 1) := by decide +kernel
theorem dX12_greed_40 : decode cX12_greed 40 = .ok (.getfield 51, 3) := by decide +kernel
theorem dX12_greed_43 : decode cX12_greed 43 = .ok (.invokevirtual 233, 3) := by decide +kernel
theorem dX12_greed_46 : decode cX12_greed 46 = .ok (.aload_n 0, 1) := by decide +kernel
theorem dX12_greed_47 : decode cX12_greed 47 = .ok (.aload_n 0, 1) := by decide +kernel
theorem dX12_greed_48 : decode cX12_greed 48 = .ok (.getfield 16, 3) := by decide +kernel
theorem dX12_greed_51 : decode cX12_greed 51 = .ok (.iconst 3, 1) := by decide +kernel
theorem dX12_greed_52 : decode cX12_greed 52 = .ok (.iaload, 1) := by decide +kernel
theorem dX12_greed_53 : decode cX12_greed 53 = .ok (.iconst 1, 1) := by decide +kernel
theorem dX12_greed_54 : decode cX12_greed 54 = .ok (.isub, 1) := by decide +kernel
theorem dX12_greed_55 : decode cX12_greed 55 = .ok (.invokevirtual 271, 3) := by decide +kernel
theorem dX12_greed_58 : decode cX12_greed 58 = .ok (.ireturn, 1) := by decide +kernel
theorem dX12_fill_0 : decode cX12_fill 0 = .ok (.aload_n 0, 1) := by decide +kernel
theorem dX12_fill_1 : decode cX12_fill 1 = .ok (.invokevirtual 212, 3) := by decide +kernel
theorem dX12_fill_4 : decode cX12_fill 4 = .ok (.ifCond .ne 5, 3) := by decide +kernel
theorem dX12_fill_7 : decode cX12_fill 7 = .ok (.iconst (-1), 1) := by decide +kernel
theorem dX12_fill_8 : decode cX12_fill 8 = .ok (.ireturn, 1) := by decide +kernel
theorem dX12_fill_9 : decode cX12_fill 9 = .ok (.aload_n 0, 1) := by decide +kernel
theorem dX12_fill_10 : decode cX12_fill 10 = .ok (.getfield 16, 3) := by decide +kernel
theorem dX12_fill_13 : decode cX12_fill 13 = .ok (.iconst 3, 1) := by decide +kernel
theorem dX12_fill_14 : decode cX12_fill 14 = .ok (.iaload, 1) := by decide +kernel
theorem dX12_fill_15 : decode cX12_fill 15 = .ok (.bipush 64, 2) := by decide +kernel
theorem dX12_fill_17 : decode cX12_fill 17 = .ok (.if_icmp .eq 10, 3) := by decide +kernel
theorem dX12_fill_20 : decode cX12_fill 20 = .ok (.aload_n 0, 1) := by decide +kernel
theorem dX12_fill_21 : decode cX12_fill 21 = .ok (.invokevirtual 251, 3) := by decide +kernel
theorem dX12_fill_24 : decode cX12_fill 24 = .ok (.ifCond .ne 5, 3) := by decide +kernel
theorem dX12_fill_27 : decode cX12_fill 27 = .ok (.iconst 0, 1) := by decide +kernel
theorem dX12_fill_28 : decode cX12_fill 28 = .ok (.ireturn, 1) := by decide +kernel
theorem dX12_fill_29 : decode cX12_fill 29 = .ok (.aload_n 0, 1) := by decide +kernel
theorem dX12_fill_30 : decode cX12_fill 30 = .ok (.invokevirtual 230, 3) := by decide +kernel
theorem dX12_fill_33 : decode cX12_fill 33 = .ok (.iconst 0, 1) := by decide +kernel
theorem dX12_fill_34 : decode cX12_fill 34 = .ok (.istore_n 1, 1) := by decide +kernel
theorem dX12_fill_35 : decode cX12_fill 35 = .ok (.aload_n 0, 1) := by decide +kernel
theorem dX12_fill_36 : decode cX12_fill 36 = .ok (.getfield 16, 3) := by decide +kernel
theorem dX12_fill_39 : decode cX12_fill 39 = .ok (.iconst 3, 1) := by decide +kernel
theorem dX12_fill_40 : decode cX12_fill 40 = .ok (.iaload, 1) := by decide +kernel
theorem dX12_fill_41 : decode cX12_fill 41 = .ok (.bipush 64, 2) := by decide +kernel
theorem dX12_fill_43 : decode cX12_fill 43 = .ok (.if_icmp .ge 28, 3) := by decide +kernel
theorem dX12_fill_46 : decode cX12_fill 46 = .ok (.aload_n 0, 1) := by decide +kernel
theorem dX12_fill_47 : decode cX12_fill 47 = .ok (.invokevirtual 251, 3) := by decide +kernel
theorem dX12_fill_50 : decode cX12_fill 50 = .ok (.ifCond .le 21, 3) := by decide +kernel
theorem dX12_fill_53 : decode cX12_fill 53 = .ok (.aload_n 0, 1) := by decide +kernel
theorem dX12_fill_54 : decode cX12_fill 54 = .ok (.invokevirtual 268, 3) := by decide +kernel
theorem dX12_fill_57 : decode cX12_fill 57 = .ok (.aload_n 0, 1) := by decide +kernel
theorem dX12_fill_58 : decode cX12_fill 58 = .ok (.aload_n 0, 1) := by decide +kernel
theorem dX12_fill_59 : decode cX12_fill 59 = .ok (.getfield 51, 3) := by decide +kernel
theorem dX12_fill_62 : decode cX12_fill 62 = .ok (.invokevirtual 233, 3) := by decide +kernel
theorem dX12_fill_65 : decode cX12_fill 65 = .ok (.iinc 1 1, 3) := by decide +kernel
theorem dX12_fill_68 : decode cX12_fill 68 = .ok (.goto (-33), 3) := by decide +kernel
theorem dX12_fill_71 : decode cX12_fill 71 = .ok (.iload_n 1, 1) := by decide +kernel
theorem dX12_fill_72 : decode cX12_fill 72 = .ok (.ireturn, 1) := by decide +kernel
theorem dX12_times_0 : decode cX12_times 0 = .ok (.iload_n 0, 1) := by decide +kernel
theorem dX12_times_1 : decode cX12_times 1 = .ok (.iconst 4, 1) := by decide +kernel
theorem dX12_times_2 : decode cX12_times 2 = .ok (.if_icmp .eq 9, 3) := by decide +kernel
theorem dX12_times_5 : decode cX12_times 5 = .ok (.iload_n 1, 1) := by decide +kernel
theorem dX12_times_6 : decode cX12_times 6 = .ok (.iload_n 2, 1) := by decide +kernel
theorem dX12_times_7 : decode cX12_times 7 = .ok (.imul, 1) := by decide +kernel
theorem dX12_times_8 : decode cX12_times 8 = .ok (.iload_n 0, 1) := by decide +kernel
theorem dX12_times_9 : decode cX12_times 9 = .ok (.irem, 1) := by decide +kernel
theorem dX12_times_10 : decode cX12_times 10 = .ok (.ireturn, 1) := by decide +kernel
theorem dX12_times_11 : decode cX12_times 11 = .ok (.iload_n 1, 1) := by decide +kernel
theorem dX12_times_12 : decode cX12_times 12 = .ok (.ifCond .eq 7, 3) := by decide +kernel
theorem dX12_times_15 : decode cX12_times 15 = .ok (.iload_n 2, 1) := by decide +kernel
theorem dX12_times_16 : decode cX12_times 16 = .ok (.ifCond .ne 5, 3) := by decide +kernel
theorem dX12_times_19 : decode cX12_times 19 = .ok (.iconst 0, 1) := by decide +kernel
theorem dX12_times_20 : decode cX12_times 20 = .ok (.ireturn, 1) := by decide +kernel
theorem dX12_times_21 : decode cX12_times 21 = .ok (.iload_n 1, 1) := by decide +kernel
theorem dX12_times_22 : decode cX12_times 22 = .ok (.iconst 1, 1) := by decide +kernel
theorem dX12_times_23 : decode cX12_times 23 = .ok (.isub, 1) := by decide +kernel
theorem dX12_times_24 : decode cX12_times 24 = .ok (.iload_n 2, 1) := by decide +kernel
theorem dX12_times_25 : decode cX12_times 25 = .ok (.iadd, 1) := by decide +kernel
theorem dX12_times_26 : decode cX12_times 26 = .ok (.iconst 1, 1) := by decide +kernel
theorem dX12_times_27 : decode cX12_times 27 = .ok (.isub, 1) := by decide +kernel
theorem dX12_times_28 : decode cX12_times 28 = .ok (.iconst 3, 1) := by decide +kernel
theorem dX12_times_29 : decode cX12_times 29 = .ok (.irem, 1) := by decide +kernel
theorem dX12_times_30 : decode cX12_times 30 = .ok (.iconst 1, 1) := by decide +kernel
theorem dX12_times_31 : decode cX12_times 31 = .ok (.iadd, 1) := by decide +kernel
theorem dX12_times_32 : decode cX12_times 32 = .ok (.ireturn, 1) := by decide +kernel
theorem dX12_plus_0 : decode cX12_plus 0 = .ok (.iload_n 0, 1) := by decide +kernel
theorem dX12_plus_1 : decode cX12_plus 1 = .ok (.iconst 4, 1) := by decide +kernel
theorem dX12_plus_2 : decode cX12_plus 2 = .ok (.if_icmp .ne 9, 3) := by decide +kernel
theorem dX12_plus_5 : decode cX12_plus 5 = .ok (.iload_n 1, 1) := by decide +kernel
theorem dX12_plus_6 : decode cX12_plus 6 = .ok (.iload_n 2, 1) := by decide +kernel
theorem dX12_plus_7 : decode cX12_plus 7 = .ok (.ixor, 1) := by decide +kernel
theorem dX12_plus_8 : decode cX12_plus 8 = .ok (.goto 8, 3) := by decide +kernel
theorem dX12_plus_11 : decode cX12_plus 11 = .ok (.iload_n 1, 1) := by decide +kernel
theorem dX12_plus_12 : decode cX12_plus 12 = .ok (.iload_n 2, 1) := by decide +kernel
theorem dX12_plus_13 : decode cX12_plus 13 = .ok (.iadd, 1) := by decide +kernel
theorem dX12_plus_14 : decode cX12_plus 14 = .ok (.iload_n 0, 1) := by decide +kernel
theorem dX12_plus_15 : decode cX12_plus 15 = .ok (.irem, 1) := by decide +kernel
theorem dX12_plus_16 : decode cX12_plus 16 = .ok (.ireturn, 1) := by decide +kernel
theorem dX12_fieldFor_0 : decode cX12_fieldFor 0 = .ok (.aload_n 0, 1) := by decide +kernel
theorem dX12_fieldFor_1 : decode cX12_fieldFor 1 = .ok (.getfield 16, 3) := by decide +kernel
theorem dX12_fieldFor_4 : decode cX12_fieldFor 4 = .ok (.iconst 0, 1) := by decide +kernel
theorem dX12_fieldFor_5 : decode cX12_fieldFor 5 = .ok (.iaload, 1) := by decide +kernel
theorem dX12_fieldFor_6 : decode cX12_fieldFor 6 = .ok (.iconst 1, 1) := by decide +kernel
theorem dX12_fieldFor_7 : decode cX12_fieldFor 7 = .ok (.isub, 1) := by decide +kernel
theorem dX12_fieldFor_8 : decode cX12_fieldFor 8 = .ok (.istore_n 1, 1) := by decide +kernel
theorem dX12_fieldFor_9 : decode cX12_fieldFor 9 = .ok (.iconst 0, 1) := by decide +kernel
theorem dX12_fieldFor_10 : decode cX12_fieldFor 10 = .ok (.istore_n 2, 1) := by decide +kernel
theorem dX12_fieldFor_11 : decode cX12_fieldFor 11 = .ok (.iload_n 2, 1) := by decide +kernel
theorem dX12_fieldFor_12 : decode cX12_fieldFor 12 = .ok (.aload_n 0, 1) := by decide +kernel
theorem dX12_fieldFor_13 : decode cX12_fieldFor 13 = .ok (.getfield 16, 3) := by decide +kernel
theorem dX12_fieldFor_16 : decode cX12_fieldFor 16 = .ok (.iconst 0, 1) := by decide +kernel
theorem dX12_fieldFor_17 : decode cX12_fieldFor 17 = .ok (.iaload, 1) := by decide +kernel
theorem dX12_fieldFor_18 : decode cX12_fieldFor 18 = .ok (.if_icmp .ge 34, 3) := by decide +kernel
theorem dX12_fieldFor_21 : decode cX12_fieldFor 21 = .ok (.aload_n 0, 1) := by decide +kernel
theorem dX12_fieldFor_22 : decode cX12_fieldFor 22 = .ok (.getfield 16, 3) := by decide +kernel
theorem dX12_fieldFor_25 : decode cX12_fieldFor 25 = .ok (.iconst 5, 1) := by decide +kernel
theorem dX12_fieldFor_26 : decode cX12_fieldFor 26 = .ok (.iload_n 2, 1) := by decide +kernel
theorem dX12_fieldFor_27 : decode cX12_fieldFor 27 = .ok (.iadd, 1) := by decide +kernel
theorem dX12_fieldFor_28 : decode cX12_fieldFor 28 = .ok (.iaload, 1) := by decide +kernel
theorem dX12_fieldFor_29 : decode cX12_fieldFor 29 = .ok (.iload_n 1, 1) := by decide +kernel
theorem dX12_fieldFor_30 : decode cX12_fieldFor 30 = .ok (.if_icmp .le 14, 3) := by decide +kernel
theorem dX12_fieldFor_33 : decode cX12_fieldFor 33 = .ok (.aload_n 0, 1) := by decide +kernel
theorem dX12_fieldFor_34 : decode cX12_fieldFor 34 = .ok (.getfield 16, 3) := by decide +kernel
theorem dX12_fieldFor_37 : decode cX12_fieldFor 37 = .ok (.iconst 5, 1) := by decide +kernel
theorem dX12_fieldFor_38 : decode cX12_fieldFor 38 = .ok (.iload_n 2, 1) := by decide +kernel
theorem dX12_fieldFor_39 : decode cX12_fieldFor 39 = .ok (.iadd, 1) := by decide +kernel
theorem dX12_fieldFor_40 : decode cX12_fieldFor 40 = .ok (.iaload, 1) := by decide +kernel
theorem dX12_fieldFor_41 : decode cX12_fieldFor 41 = .ok (.goto 4, 3) := by decide +kernel
theorem dX12_fieldFor_44 : decode cX12_fieldFor 44 = .ok (.iload_n 1, 1) := by decide +kernel
theorem dX12_fieldFor_45 : decode cX12_fieldFor 45 = .ok (.istore_n 1, 1) := by decide +kernel
theorem dX12_fieldFor_46 : decode cX12_fieldFor 46 = .ok (.iinc 2 1, 3) := by decide +kernel
theorem dX12_fieldFor_49 : decode cX12_fieldFor 49 = .ok (.goto (-38), 3) := by decide +kernel
theorem dX12_fieldFor_52 : decode cX12_fieldFor 52 = .ok (.iconst 2, 1) := by decide +kernel
theorem dX12_fieldFor_53 : decode cX12_fieldFor 53 = .ok (.istore_n 2, 1) := by decide +kernel
theorem dX12_fieldFor_54 : decode cX12_fieldFor 54 = .ok (.iload_n 2, 1) := by decide +kernel
theorem dX12_fieldFor_55 : decode cX12_fieldFor 55 = .ok (.bipush 7, 2) := by decide +kernel
theorem dX12_fieldFor_57 : decode cX12_fieldFor 57 = .ok (.if_icmp .gt 22, 3) := by decide +kernel
theorem dX12_fieldFor_60 : decode cX12_fieldFor 60 = .ok (.iload_n 2, 1) := by decide +kernel
theorem dX12_fieldFor_61 : decode cX12_fieldFor 61 = .ok (.bipush 6, 2) := by decide +kernel
theorem dX12_fieldFor_63 : decode cX12_fieldFor 63 = .ok (.if_icmp .eq 10, 3) := by decide +kernel
theorem dX12_fieldFor_66 : decode cX12_fieldFor 66 = .ok (.iload_n 2, 1) := by decide +kernel
theorem dX12_fieldFor_67 : decode cX12_fieldFor 67 = .ok (.iload_n 1, 1) := by decide +kernel
theorem dX12_fieldFor_68 : decode cX12_fieldFor 68 = .ok (.if_icmp .lt 5, 3) := by decide +kernel
theorem dX12_fieldFor_71 : decode cX12_fieldFor 71 = .ok (.iload_n 2, 1) := by decide +kernel
theorem dX12_fieldFor_72 : decode cX12_fieldFor 72 = .ok (.ireturn, 1) := by decide +kernel
theorem dX12_fieldFor_73 : decode cX12_fieldFor 73 = .ok (.iinc 2 1, 3) := by decide +kernel
theorem dX12_fieldFor_76 : decode cX12_fieldFor 76 = .ok (.goto (-22), 3) := by decide +kernel
theorem dX12_fieldFor_79 : decode cX12_fieldFor 79 = .ok (.iconst (-1), 1) := by decide +kernel
theorem dX12_fieldFor_80 : decode cX12_fieldFor 80 = .ok (.ireturn, 1) := by decide +kernel
theorem dX12_valueAt_0 : decode cX12_valueAt 0 = .ok (.aload_n 0, 1) := by decide +kernel
theorem dX12_valueAt_1 : decode cX12_valueAt 1 = .ok (.getfield 16, 3) := by decide +kernel
theorem dX12_valueAt_4 : decode cX12_valueAt 4 = .ok (.iconst 1, 1) := by decide +kernel
theorem dX12_valueAt_5 : decode cX12_valueAt 5 = .ok (.iaload, 1) := by decide +kernel
theorem dX12_valueAt_6 : decode cX12_valueAt 6 = .ok (.istore_n 3, 1) := by decide +kernel
theorem dX12_valueAt_7 : decode cX12_valueAt 7 = .ok (.iload_n 2, 1) := by decide +kernel
theorem dX12_valueAt_8 : decode cX12_valueAt 8 = .ok (.iload_n 1, 1) := by decide +kernel
theorem dX12_valueAt_9 : decode cX12_valueAt 9 = .ok (.if_icmp .ne 12, 3) := by decide +kernel
theorem dX12_valueAt_12 : decode cX12_valueAt 12 = .ok (.aload_n 0, 1) := by decide +kernel
theorem dX12_valueAt_13 : decode cX12_valueAt 13 = .ok (.getfield 54, 3) := by decide +kernel
theorem dX12_valueAt_16 : decode cX12_valueAt 16 = .ok (.iload_n 3, 1) := by decide +kernel
theorem dX12_valueAt_17 : decode cX12_valueAt 17 = .ok (.iconst 1, 1) := by decide +kernel
theorem dX12_valueAt_18 : decode cX12_valueAt 18 = .ok (.isub, 1) := by decide +kernel
theorem dX12_valueAt_19 : decode cX12_valueAt 19 = .ok (.iaload, 1) := by decide +kernel
theorem dX12_valueAt_20 : decode cX12_valueAt 20 = .ok (.ireturn, 1) := by decide +kernel
theorem dX12_valueAt_21 : decode cX12_valueAt 21 = .ok (.iconst 0, 1) := by decide +kernel
theorem dX12_valueAt_22 : decode cX12_valueAt 22 = .ok (.istore 4, 2) := by decide +kernel
theorem dX12_valueAt_24 : decode cX12_valueAt 24 = .ok (.iload_n 3, 1) := by decide +kernel
theorem dX12_valueAt_25 : decode cX12_valueAt 25 = .ok (.iconst 1, 1) := by decide +kernel
theorem dX12_valueAt_26 : decode cX12_valueAt 26 = .ok (.isub, 1) := by decide +kernel
theorem dX12_valueAt_27 : decode cX12_valueAt 27 = .ok (.istore 5, 2) := by decide +kernel
theorem dX12_valueAt_29 : decode cX12_valueAt 29 = .ok (.iload 5, 2) := by decide +kernel
theorem dX12_valueAt_31 : decode cX12_valueAt 31 = .ok (.ifCond .lt 29, 3) := by decide +kernel
theorem dX12_valueAt_34 : decode cX12_valueAt 34 = .ok (.iload_n 1, 1) := by decide +kernel
theorem dX12_valueAt_35 : decode cX12_valueAt 35 = .ok (.iload_n 1, 1) := by decide +kernel
theorem dX12_valueAt_36 : decode cX12_valueAt 36 = .ok (.iload 4, 2) := by decide +kernel
theorem dX12_valueAt_38 : decode cX12_valueAt 38 = .ok (.iload_n 2, 1) := by decide +kernel
theorem dX12_valueAt_39 : decode cX12_valueAt 39 = .ok (.invokestatic 274, 3) := by decide +kernel
theorem dX12_valueAt_42 : decode cX12_valueAt 42 = .ok (.aload_n 0, 1) := by decide +kernel
theorem dX12_valueAt_43 : decode cX12_valueAt 43 = .ok (.getfield 54, 3) := by decide +kernel
theorem dX12_valueAt_46 : decode cX12_valueAt 46 = .ok (.iload 5, 2) := by decide +kernel
theorem dX12_valueAt_48 : decode cX12_valueAt 48 = .ok (.iaload, 1) := by decide +kernel
theorem dX12_valueAt_49 : decode cX12_valueAt 49 = .ok (.invokestatic 277, 3) := by decide +kernel
theorem dX12_valueAt_52 : decode cX12_valueAt 52 = .ok (.istore 4, 2) := by decide +kernel
theorem dX12_valueAt_54 : decode cX12_valueAt 54 = .ok (.iinc 5 (-1), 3) := by decide +kernel
theorem dX12_valueAt_57 : decode cX12_valueAt 57 = .ok (.goto (-28), 3) := by decide +kernel
theorem dX12_valueAt_60 : decode cX12_valueAt 60 = .ok (.iload 4, 2) := by decide +kernel
theorem dX12_valueAt_62 : decode cX12_valueAt 62 = .ok (.ireturn, 1) := by decide +kernel
theorem dX12_laysPolynomial_0 : decode cX12_laysPolynomial 0 = .ok (.iload_n 2, 1) := by decide +kernel
theorem dX12_laysPolynomial_1 : decode cX12_laysPolynomial 1 = .ok (.istore_n 3, 1) := by decide +kernel
theorem dX12_laysPolynomial_2 : decode cX12_laysPolynomial 2 = .ok (.aload_n 0, 1) := by decide +kernel
theorem dX12_laysPolynomial_3 : decode cX12_laysPolynomial 3 = .ok (.getfield 16, 3) := by decide +kernel
theorem dX12_laysPolynomial_6 : decode cX12_laysPolynomial 6 = .ok (.iconst 1, 1) := by decide +kernel
theorem dX12_laysPolynomial_7 : decode cX12_laysPolynomial 7 = .ok (.iaload, 1) := by decide +kernel
theorem dX12_laysPolynomial_8 : decode cX12_laysPolynomial 8 = .ok (.iconst 1, 1) := by decide +kernel
theorem dX12_laysPolynomial_9 : decode cX12_laysPolynomial 9 = .ok (.isub, 1) := by decide +kernel
theorem dX12_laysPolynomial_10 : decode cX12_laysPolynomial 10 = .ok (.istore 4, 2) := by decide +kernel
theorem dX12_laysPolynomial_12 : decode cX12_laysPolynomial 12 = .ok (.iload 4, 2) := by decide +kernel
theorem dX12_laysPolynomial_14 : decode cX12_laysPolynomial 14 = .ok (.ifCond .lt 23, 3) := by decide +kernel
theorem dX12_laysPolynomial_17 : decode cX12_laysPolynomial 17 = .ok (.aload_n 0, 1) := by decide +kernel
theorem dX12_laysPolynomial_18 : decode cX12_laysPolynomial 18 = .ok (.getfield 54, 3) := by decide +kernel
theorem dX12_laysPolynomial_21 : decode cX12_laysPolynomial 21 = .ok (.iload 4, 2) := by decide +kernel
theorem dX12_laysPolynomial_23 : decode cX12_laysPolynomial 23 = .ok (.iload_n 3, 1) := by decide +kernel
theorem dX12_laysPolynomial_24 : decode cX12_laysPolynomial 24 = .ok (.iload_n 1, 1) := by decide +kernel
theorem dX12_laysPolynomial_25 : decode cX12_laysPolynomial 25 = .ok (.irem, 1) := by decide +kernel
theorem dX12_laysPolynomial_26 : decode cX12_laysPolynomial 26 = .ok (.iastore, 1) := by decide +kernel
theorem dX12_laysPolynomial_27 : decode cX12_laysPolynomial 27 = .ok (.iload_n 3, 1) := by decide +kernel
theorem dX12_laysPolynomial_28 : decode cX12_laysPolynomial 28 = .ok (.iload_n 1, 1) := by decide +kernel
theorem dX12_laysPolynomial_29 : decode cX12_laysPolynomial 29 = .ok (.idiv, 1) := by decide +kernel
theorem dX12_laysPolynomial_30 : decode cX12_laysPolynomial 30 = .ok (.istore_n 3, 1) := by decide +kernel
theorem dX12_laysPolynomial_31 : decode cX12_laysPolynomial 31 = .ok (.iinc 4 (-1), 3) := by decide +kernel
theorem dX12_laysPolynomial_34 : decode cX12_laysPolynomial 34 = .ok (.goto (-22), 3) := by decide +kernel
theorem dX12_laysPolynomial_37 : decode cX12_laysPolynomial 37 = .ok (.iconst 0, 1) := by decide +kernel
theorem dX12_laysPolynomial_38 : decode cX12_laysPolynomial 38 = .ok (.istore 4, 2) := by decide +kernel
theorem dX12_laysPolynomial_40 : decode cX12_laysPolynomial 40 = .ok (.iload 4, 2) := by decide +kernel
theorem dX12_laysPolynomial_42 : decode cX12_laysPolynomial 42 = .ok (.aload_n 0, 1) := by decide +kernel
theorem dX12_laysPolynomial_43 : decode cX12_laysPolynomial 43 = .ok (.getfield 16, 3) := by decide +kernel
theorem dX12_laysPolynomial_46 : decode cX12_laysPolynomial 46 = .ok (.iconst 0, 1) := by decide +kernel
theorem dX12_laysPolynomial_47 : decode cX12_laysPolynomial 47 = .ok (.iaload, 1) := by decide +kernel
theorem dX12_laysPolynomial_48 : decode cX12_laysPolynomial 48 = .ok (.if_icmp .ge 45, 3) := by decide +kernel
theorem dX12_laysPolynomial_51 : decode cX12_laysPolynomial 51 = .ok (.aload_n 0, 1) := by decide +kernel
theorem dX12_laysPolynomial_52 : decode cX12_laysPolynomial 52 = .ok (.iload_n 1, 1) := by decide +kernel
theorem dX12_laysPolynomial_53 : decode cX12_laysPolynomial 53 = .ok (.iload 4, 2) := by decide +kernel
theorem dX12_laysPolynomial_55 : decode cX12_laysPolynomial 55 = .ok (.invokevirtual 280, 3) := by decide +kernel
theorem dX12_laysPolynomial_58 : decode cX12_laysPolynomial 58 = .ok (.istore 5, 2) := by decide +kernel
theorem dX12_laysPolynomial_60 : decode cX12_laysPolynomial 60 = .ok (.aload_n 0, 1) := by decide +kernel
theorem dX12_laysPolynomial_61 : decode cX12_laysPolynomial 61 = .ok (.getfield 48, 3) := by decide +kernel
theorem dX12_laysPolynomial_64 : decode cX12_laysPolynomial 64 = .ok (.iload 4, 2) := by decide +kernel
theorem dX12_laysPolynomial_66 : decode cX12_laysPolynomial 66 = .ok (.iload 5, 2) := by decide +kernel
theorem dX12_laysPolynomial_68 : decode cX12_laysPolynomial 68 = .ok (.aload_n 0, 1) := by decide +kernel
theorem dX12_laysPolynomial_69 : decode cX12_laysPolynomial 69 = .ok (.getfield 16, 3) := by decide +kernel
theorem dX12_laysPolynomial_72 : decode cX12_laysPolynomial 72 = .ok (.iconst 5, 1) := by decide +kernel
theorem dX12_laysPolynomial_73 : decode cX12_laysPolynomial 73 = .ok (.iload 4, 2) := by decide +kernel
theorem dX12_laysPolynomial_75 : decode cX12_laysPolynomial 75 = .ok (.iadd, 1) := by decide +kernel
theorem dX12_laysPolynomial_76 : decode cX12_laysPolynomial 76 = .ok (.iaload, 1) := by decide +kernel
theorem dX12_laysPolynomial_77 : decode cX12_laysPolynomial 77 = .ok (.if_icmp .ge 8, 3) := by decide +kernel
theorem dX12_laysPolynomial_80 : decode cX12_laysPolynomial 80 = .ok (.iload 5, 2) := by decide +kernel
theorem dX12_laysPolynomial_82 : decode cX12_laysPolynomial 82 = .ok (.goto 4, 3) := by decide +kernel
theorem dX12_laysPolynomial_85 : decode cX12_laysPolynomial 85 = .ok (.iconst (-1), 1) := by decide +kernel
theorem dX12_laysPolynomial_86 : decode cX12_laysPolynomial 86 = .ok (.iastore, 1) := by decide +kernel
theorem dX12_laysPolynomial_87 : decode cX12_laysPolynomial 87 = .ok (.iinc 4 1, 3) := by decide +kernel
theorem dX12_laysPolynomial_90 : decode cX12_laysPolynomial 90 = .ok (.goto (-50), 3) := by decide +kernel
theorem dX12_laysPolynomial_93 : decode cX12_laysPolynomial 93 = .ok (.return_, 1) := by decide +kernel
theorem dX12_power_0 : decode cX12_power 0 = .ok (.iconst 1, 1) := by decide +kernel
theorem dX12_power_1 : decode cX12_power 1 = .ok (.istore_n 2, 1) := by decide +kernel
theorem dX12_power_2 : decode cX12_power 2 = .ok (.iconst 0, 1) := by decide +kernel
theorem dX12_power_3 : decode cX12_power 3 = .ok (.istore_n 3, 1) := by decide +kernel
theorem dX12_power_4 : decode cX12_power 4 = .ok (.iload_n 3, 1) := by decide +kernel
theorem dX12_power_5 : decode cX12_power 5 = .ok (.iload_n 1, 1) := by decide +kernel
theorem dX12_power_6 : decode cX12_power 6 = .ok (.if_icmp .ge 13, 3) := by decide +kernel
theorem dX12_power_9 : decode cX12_power 9 = .ok (.iload_n 2, 1) := by decide +kernel
theorem dX12_power_10 : decode cX12_power 10 = .ok (.iload_n 0, 1) := by decide +kernel
theorem dX12_power_11 : decode cX12_power 11 = .ok (.imul, 1) := by decide +kernel
theorem dX12_power_12 : decode cX12_power 12 = .ok (.istore_n 2, 1) := by decide +kernel
theorem dX12_power_13 : decode cX12_power 13 = .ok (.iinc 3 1, 3) := by decide +kernel
theorem dX12_power_16 : decode cX12_power 16 = .ok (.goto (-12), 3) := by decide +kernel
theorem dX12_power_19 : decode cX12_power 19 = .ok (.iload_n 2, 1) := by decide +kernel
theorem dX12_power_20 : decode cX12_power 20 = .ok (.ireturn, 1) := by decide +kernel
theorem dX12_field_0 : decode cX12_field 0 = .ok (.aload_n 0, 1) := by decide +kernel
theorem dX12_field_1 : decode cX12_field 1 = .ok (.invokevirtual 212, 3) := by decide +kernel
theorem dX12_field_4 : decode cX12_field 4 = .ok (.ifCond .ne 5, 3) := by decide +kernel
theorem dX12_field_7 : decode cX12_field 7 = .ok (.iconst (-1), 1) := by decide +kernel
theorem dX12_field_8 : decode cX12_field 8 = .ok (.ireturn, 1) := by decide +kernel
theorem dX12_field_9 : decode cX12_field 9 = .ok (.aload_n 0, 1) := by decide +kernel
theorem dX12_field_10 : decode cX12_field 10 = .ok (.invokevirtual 283, 3) := by decide +kernel
theorem dX12_field_13 : decode cX12_field 13 = .ok (.istore_n 1, 1) := by decide +kernel
theorem dX12_field_14 : decode cX12_field 14 = .ok (.iload_n 1, 1) := by decide +kernel
theorem dX12_field_15 : decode cX12_field 15 = .ok (.ifCond .lt 18, 3) := by decide +kernel
theorem dX12_field_18 : decode cX12_field 18 = .ok (.iload_n 1, 1) := by decide +kernel
theorem dX12_field_19 : decode cX12_field 19 = .ok (.aload_n 0, 1) := by decide +kernel
theorem dX12_field_20 : decode cX12_field 20 = .ok (.getfield 16, 3) := by decide +kernel
theorem dX12_field_23 : decode cX12_field 23 = .ok (.iconst 1, 1) := by decide +kernel
theorem dX12_field_24 : decode cX12_field 24 = .ok (.iaload, 1) := by decide +kernel
theorem dX12_field_25 : decode cX12_field 25 = .ok (.invokestatic 286, 3) := by decide +kernel
theorem dX12_field_28 : decode cX12_field 28 = .ok (.bipush 64, 2) := by decide +kernel
theorem dX12_field_30 : decode cX12_field 30 = .ok (.if_icmp .le 6, 3) := by decide +kernel
theorem dX12_field_33 : decode cX12_field 33 = .ok (.bipush (-2), 2) := by decide +kernel
theorem dX12_field_35 : decode cX12_field 35 = .ok (.ireturn, 1) := by decide +kernel
theorem dX12_field_36 : decode cX12_field 36 = .ok (.iload_n 1, 1) := by decide +kernel
theorem dX12_field_37 : decode cX12_field 37 = .ok (.aload_n 0, 1) := by decide +kernel
theorem dX12_field_38 : decode cX12_field 38 = .ok (.getfield 16, 3) := by decide +kernel
theorem dX12_field_41 : decode cX12_field 41 = .ok (.iconst 1, 1) := by decide +kernel
theorem dX12_field_42 : decode cX12_field 42 = .ok (.iaload, 1) := by decide +kernel
theorem dX12_field_43 : decode cX12_field 43 = .ok (.invokestatic 286, 3) := by decide +kernel
theorem dX12_field_46 : decode cX12_field 46 = .ok (.istore_n 2, 1) := by decide +kernel
theorem dX12_field_47 : decode cX12_field 47 = .ok (.iconst 0, 1) := by decide +kernel
theorem dX12_field_48 : decode cX12_field 48 = .ok (.istore_n 3, 1) := by decide +kernel
theorem dX12_field_49 : decode cX12_field 49 = .ok (.iload_n 3, 1) := by decide +kernel
theorem dX12_field_50 : decode cX12_field 50 = .ok (.iload_n 2, 1) := by decide +kernel
theorem dX12_field_51 : decode cX12_field 51 = .ok (.if_icmp .ge 33, 3) := by decide +kernel
theorem dX12_field_54 : decode cX12_field 54 = .ok (.aload_n 0, 1) := by decide +kernel
theorem dX12_field_55 : decode cX12_field 55 = .ok (.iload_n 1, 1) := by decide +kernel
theorem dX12_field_56 : decode cX12_field 56 = .ok (.iload_n 3, 1) := by decide +kernel
theorem dX12_field_57 : decode cX12_field 57 = .ok (.invokevirtual 289, 3) := by decide +kernel
theorem dX12_field_60 : decode cX12_field 60 = .ok (.aload_n 0, 1) := by decide +kernel
theorem dX12_field_61 : decode cX12_field 61 = .ok (.aload_n 0, 1) := by decide +kernel
theorem dX12_field_62 : decode cX12_field 62 = .ok (.getfield 48, 3) := by decide +kernel
theorem dX12_field_65 : decode cX12_field 65 = .ok (.invokevirtual 226, 3) := by decide +kernel
theorem dX12_field_68 : decode cX12_field 68 = .ok (.aload_n 0, 1) := by decide +kernel
theorem dX12_field_69 : decode cX12_field 69 = .ok (.invokevirtual 162, 3) := by decide +kernel
theorem dX12_field_72 : decode cX12_field 72 = .ok (.ifCond .ne 6, 3) := by decide +kernel
theorem dX12_field_75 : decode cX12_field 75 = .ok (.bipush (-2), 2) := by decide +kernel
theorem dX12_field_77 : decode cX12_field 77 = .ok (.ireturn, 1) := by decide +kernel
theorem dX12_field_78 : decode cX12_field 78 = .ok (.iinc 3 1, 3) := by decide +kernel
theorem dX12_field_81 : decode cX12_field 81 = .ok (.goto (-32), 3) := by decide +kernel
theorem dX12_field_84 : decode cX12_field 84 = .ok (.aload_n 0, 1) := by decide +kernel
theorem dX12_field_85 : decode cX12_field 85 = .ok (.invokevirtual 230, 3) := by decide +kernel
theorem dX12_field_88 : decode cX12_field 88 = .ok (.aload_n 0, 1) := by decide +kernel
theorem dX12_field_89 : decode cX12_field 89 = .ok (.getfield 16, 3) := by decide +kernel
theorem dX12_field_92 : decode cX12_field 92 = .ok (.iconst 3, 1) := by decide +kernel
theorem dX12_field_93 : decode cX12_field 93 = .ok (.iconst 0, 1) := by decide +kernel
theorem dX12_field_94 : decode cX12_field 94 = .ok (.iastore, 1) := by decide +kernel
theorem dX12_field_95 : decode cX12_field 95 = .ok (.iconst 0, 1) := by decide +kernel
theorem dX12_field_96 : decode cX12_field 96 = .ok (.istore_n 3, 1) := by decide +kernel
theorem dX12_field_97 : decode cX12_field 97 = .ok (.iload_n 3, 1) := by decide +kernel
theorem dX12_field_98 : decode cX12_field 98 = .ok (.iload_n 2, 1) := by decide +kernel
theorem dX12_field_99 : decode cX12_field 99 = .ok (.if_icmp .ge 23, 3) := by decide +kernel
theorem dX12_field_102 : decode cX12_field 102 = .ok (.aload_n 0, 1) := by decide +kernel
theorem dX12_field_103 : decode cX12_field 103 = .ok (.iload_n 1, 1) := by decide +kernel
theorem dX12_field_104 : decode cX12_field 104 = .ok (.iload_n 3, 1) := by decide +kernel
theorem dX12_field_105 : decode cX12_field 105 = .ok (.invokevirtual 289, 3) := by decide +kernel
theorem dX12_field_108 : decode cX12_field 108 = .ok (.aload_n 0, 1) := by decide +kernel
theorem dX12_field_109 : decode cX12_field 109 = .ok (.aload_n 0, 1) := by decide +kernel
theorem dX12_field_110 : decode cX12_field 110 = .ok (.getfield 48, 3) := by decide +kernel
theorem dX12_field_113 : decode cX12_field 113 = .ok (.invokevirtual 233, 3) := by decide +kernel
theorem dX12_field_116 : decode cX12_field 116 = .ok (.iinc 3 1, 3) := by decide +kernel
theorem dX12_field_119 : decode cX12_field 119 = .ok (.goto (-22), 3) := by decide +kernel
theorem dX12_field_122 : decode cX12_field 122 = .ok (.iload_n 1, 1) := by decide +kernel
theorem dX12_field_123 : decode cX12_field 123 = .ok (.ireturn, 1) := by decide +kernel
theorem dX12_widen_0 : decode cX12_widen 0 = .ok (.aload_n 0, 1) := by decide +kernel
theorem dX12_widen_1 : decode cX12_widen 1 = .ok (.invokevirtual 212, 3) := by decide +kernel
theorem dX12_widen_4 : decode cX12_widen 4 = .ok (.ifCond .eq 28, 3) := by decide +kernel
theorem dX12_widen_7 : decode cX12_widen 7 = .ok (.iload_n 1, 1) := by decide +kernel
theorem dX12_widen_8 : decode cX12_widen 8 = .ok (.i2l, 1) := by decide +kernel
theorem dX12_widen_9 : decode cX12_widen 9 = .ok (.ldc2_w 123, 3) := by decide +kernel
theorem dX12_widen_12 : decode cX12_widen 12 = .ok (.ldc2_w 125, 3) := by decide +kernel
theorem dX12_widen_15 : decode cX12_widen 15 = .ok (.invokestatic 73, 3) := by decide +kernel
theorem dX12_widen_18 : decode cX12_widen 18 = .ok (.ifCond .eq 14, 3) := by decide +kernel
theorem dX12_widen_21 : decode cX12_widen 21 = .ok (.aload_n 0, 1) := by decide +kernel
theorem dX12_widen_22 : decode cX12_widen 22 = .ok (.getfield 16, 3) := by decide +kernel
theorem dX12_widen_25 : decode cX12_widen 25 = .ok (.iconst 0, 1) := by decide +kernel
theorem dX12_widen_26 : decode cX12_widen 26 = .ok (.iaload, 1) := by decide +kernel
theorem dX12_widen_27 : decode cX12_widen 27 = .ok (.bipush 8, 2) := by decide +kernel
theorem dX12_widen_29 : decode cX12_widen 29 = .ok (.if_icmp .ne 5, 3) := by decide +kernel
theorem dX12_widen_32 : decode cX12_widen 32 = .ok (.iconst (-1), 1) := by decide +kernel
theorem dX12_widen_33 : decode cX12_widen 33 = .ok (.ireturn, 1) := by decide +kernel
theorem dX12_widen_34 : decode cX12_widen 34 = .ok (.aload_n 0, 1) := by decide +kernel
theorem dX12_widen_35 : decode cX12_widen 35 = .ok (.getfield 16, 3) := by decide +kernel
theorem dX12_widen_38 : decode cX12_widen 38 = .ok (.iconst 5, 1) := by decide +kernel
theorem dX12_widen_39 : decode cX12_widen 39 = .ok (.aload_n 0, 1) := by decide +kernel
theorem dX12_widen_40 : decode cX12_widen 40 = .ok (.getfield 16, 3) := by decide +kernel
theorem dX12_widen_43 : decode cX12_widen 43 = .ok (.iconst 0, 1) := by decide +kernel
theorem dX12_widen_44 : decode cX12_widen 44 = .ok (.iaload, 1) := by decide +kernel
theorem dX12_widen_45 : decode cX12_widen 45 = .ok (.iadd, 1) := by decide +kernel
theorem dX12_widen_46 : decode cX12_widen 46 = .ok (.iload_n 1, 1) := by decide +kernel
theorem dX12_widen_47 : decode cX12_widen 47 = .ok (.iastore, 1) := by decide +kernel
theorem dX12_widen_48 : decode cX12_widen 48 = .ok (.aload_n 0, 1) := by decide +kernel
theorem dX12_widen_49 : decode cX12_widen 49 = .ok (.getfield 16, 3) := by decide +kernel
theorem dX12_widen_52 : decode cX12_widen 52 = .ok (.iconst 0, 1) := by decide +kernel
theorem dX12_widen_53 : decode cX12_widen 53 = .ok (.dup2, 1) := by decide +kernel
theorem dX12_widen_54 : decode cX12_widen 54 = .ok (.iaload, 1) := by decide +kernel
theorem dX12_widen_55 : decode cX12_widen 55 = .ok (.iconst 1, 1) := by decide +kernel
theorem dX12_widen_56 : decode cX12_widen 56 = .ok (.iadd, 1) := by decide +kernel
theorem dX12_widen_57 : decode cX12_widen 57 = .ok (.iastore, 1) := by decide +kernel
theorem dX12_widen_58 : decode cX12_widen 58 = .ok (.aload_n 0, 1) := by decide +kernel
theorem dX12_widen_59 : decode cX12_widen 59 = .ok (.invokevirtual 156, 3) := by decide +kernel
theorem dX12_widen_62 : decode cX12_widen 62 = .ok (.sipush 1200, 3) := by decide +kernel
theorem dX12_widen_65 : decode cX12_widen 65 = .ok (.if_icmp .gt 7, 3) := by decide +kernel
theorem dX12_widen_68 : decode cX12_widen 68 = .ok (.iconst 1, 1) := by decide +kernel
theorem dX12_widen_69 : decode cX12_widen 69 = .ok (.goto 4, 3) := by decide +kernel
theorem dX12_widen_72 : decode cX12_widen 72 = .ok (.iconst 0, 1) := by decide +kernel
theorem dX12_widen_73 : decode cX12_widen 73 = .ok (.istore_n 2, 1) := by decide +kernel
theorem dX12_widen_74 : decode cX12_widen 74 = .ok (.aload_n 0, 1) := by decide +kernel
theorem dX12_widen_75 : decode cX12_widen 75 = .ok (.getfield 16, 3) := by decide +kernel
theorem dX12_widen_78 : decode cX12_widen 78 = .ok (.iconst 0, 1) := by decide +kernel
theorem dX12_widen_79 : decode cX12_widen 79 = .ok (.dup2, 1) := by decide +kernel
theorem dX12_widen_80 : decode cX12_widen 80 = .ok (.iaload, 1) := by decide +kernel
theorem dX12_widen_81 : decode cX12_widen 81 = .ok (.iconst 1, 1) := by decide +kernel
theorem dX12_widen_82 : decode cX12_widen 82 = .ok (.isub, 1) := by decide +kernel
theorem dX12_widen_83 : decode cX12_widen 83 = .ok (.iastore, 1) := by decide +kernel
theorem dX12_widen_84 : decode cX12_widen 84 = .ok (.iload_n 2, 1) := by decide +kernel
theorem dX12_widen_85 : decode cX12_widen 85 = .ok (.ifCond .ne 19, 3) := by decide +kernel
theorem dX12_widen_88 : decode cX12_widen 88 = .ok (.aload_n 0, 1) := by decide +kernel
theorem dX12_widen_89 : decode cX12_widen 89 = .ok (.getfield 16, 3) := by decide +kernel
theorem dX12_widen_92 : decode cX12_widen 92 = .ok (.iconst 5, 1) := by decide +kernel
theorem dX12_widen_93 : decode cX12_widen 93 = .ok (.aload_n 0, 1) := by decide +kernel
theorem dX12_widen_94 : decode cX12_widen 94 = .ok (.getfield 16, 3) := by decide +kernel
theorem dX12_widen_97 : decode cX12_widen 97 = .ok (.iconst 0, 1) := by decide +kernel
theorem dX12_widen_98 : decode cX12_widen 98 = .ok (.iaload, 1) := by decide +kernel
theorem dX12_widen_99 : decode cX12_widen 99 = .ok (.iadd, 1) := by decide +kernel
theorem dX12_widen_100 : decode cX12_widen 100 = .ok (.iconst 0, 1) := by decide +kernel
theorem dX12_widen_101 : decode cX12_widen 101 = .ok (.iastore, 1) := by decide +kernel
theorem dX12_widen_102 : decode cX12_widen 102 = .ok (.iconst (-1), 1) := by decide +kernel
theorem dX12_widen_103 : decode cX12_widen 103 = .ok (.ireturn, 1) := by decide +kernel
theorem dX12_widen_104 : decode cX12_widen 104 = .ok (.aload_n 0, 1) := by decide +kernel
theorem dX12_widen_105 : decode cX12_widen 105 = .ok (.getfield 16, 3) := by decide +kernel
theorem dX12_widen_108 : decode cX12_widen 108 = .ok (.iconst 5, 1) := by decide +kernel
theorem dX12_widen_109 : decode cX12_widen 109 = .ok (.aload_n 0, 1) := by decide +kernel
theorem dX12_widen_110 : decode cX12_widen 110 = .ok (.getfield 16, 3) := by decide +kernel
theorem dX12_widen_113 : decode cX12_widen 113 = .ok (.iconst 0, 1) := by decide +kernel
theorem dX12_widen_114 : decode cX12_widen 114 = .ok (.iaload, 1) := by decide +kernel
theorem dX12_widen_115 : decode cX12_widen 115 = .ok (.iadd, 1) := by decide +kernel
theorem dX12_widen_116 : decode cX12_widen 116 = .ok (.iconst 0, 1) := by decide +kernel
theorem dX12_widen_117 : decode cX12_widen 117 = .ok (.iastore, 1) := by decide +kernel
theorem dX12_widen_118 : decode cX12_widen 118 = .ok (.aload_n 0, 1) := by decide +kernel
theorem dX12_widen_119 : decode cX12_widen 119 = .ok (.invokevirtual 230, 3) := by decide +kernel
theorem dX12_widen_122 : decode cX12_widen 122 = .ok (.aload_n 0, 1) := by decide +kernel
theorem dX12_widen_123 : decode cX12_widen 123 = .ok (.getfield 16, 3) := by decide +kernel
theorem dX12_widen_126 : decode cX12_widen 126 = .ok (.iconst 5, 1) := by decide +kernel
theorem dX12_widen_127 : decode cX12_widen 127 = .ok (.aload_n 0, 1) := by decide +kernel
theorem dX12_widen_128 : decode cX12_widen 128 = .ok (.getfield 16, 3) := by decide +kernel
theorem dX12_widen_131 : decode cX12_widen 131 = .ok (.iconst 0, 1) := by decide +kernel
theorem dX12_widen_132 : decode cX12_widen 132 = .ok (.iaload, 1) := by decide +kernel
theorem dX12_widen_133 : decode cX12_widen 133 = .ok (.iadd, 1) := by decide +kernel
theorem dX12_widen_134 : decode cX12_widen 134 = .ok (.iload_n 1, 1) := by decide +kernel
theorem dX12_widen_135 : decode cX12_widen 135 = .ok (.iastore, 1) := by decide +kernel
theorem dX12_widen_136 : decode cX12_widen 136 = .ok (.iconst 0, 1) := by decide +kernel
theorem dX12_widen_137 : decode cX12_widen 137 = .ok (.istore_n 3, 1) := by decide +kernel
theorem dX12_widen_138 : decode cX12_widen 138 = .ok (.iload_n 3, 1) := by decide +kernel
theorem dX12_widen_139 : decode cX12_widen 139 = .ok (.aload_n 0, 1) := by decide +kernel
theorem dX12_widen_140 : decode cX12_widen 140 = .ok (.getfield 16, 3) := by decide +kernel
theorem dX12_widen_143 : decode cX12_widen 143 = .ok (.iconst 3, 1) := by decide +kernel
theorem dX12_widen_144 : decode cX12_widen 144 = .ok (.iaload, 1) := by decide +kernel
theorem dX12_widen_145 : decode cX12_widen 145 = .ok (.if_icmp .ge 30, 3) := by decide +kernel
theorem dX12_widen_148 : decode cX12_widen 148 = .ok (.aload_n 0, 1) := by decide +kernel
theorem dX12_widen_149 : decode cX12_widen 149 = .ok (.getfield 16, 3) := by decide +kernel
theorem dX12_widen_152 : decode cX12_widen 152 = .ok (.sipush 161, 3) := by decide +kernel
theorem dX12_widen_155 : decode cX12_widen 155 = .ok (.bipush 8, 2) := by decide +kernel
theorem dX12_widen_157 : decode cX12_widen 157 = .ok (.iload_n 3, 1) := by decide +kernel
theorem dX12_widen_158 : decode cX12_widen 158 = .ok (.imul, 1) := by decide +kernel
theorem dX12_widen_159 : decode cX12_widen 159 = .ok (.iadd, 1) := by decide +kernel
theorem dX12_widen_160 : decode cX12_widen 160 = .ok (.aload_n 0, 1) := by decide +kernel
theorem dX12_widen_161 : decode cX12_widen 161 = .ok (.getfield 16, 3) := by decide +kernel
theorem dX12_widen_164 : decode cX12_widen 164 = .ok (.iconst 0, 1) := by decide +kernel
theorem dX12_widen_165 : decode cX12_widen 165 = .ok (.iaload, 1) := by decide +kernel
theorem dX12_widen_166 : decode cX12_widen 166 = .ok (.iadd, 1) := by decide +kernel
theorem dX12_widen_167 : decode cX12_widen 167 = .ok (.iconst (-1), 1) := by decide +kernel
theorem dX12_widen_168 : decode cX12_widen 168 = .ok (.iastore, 1) := by decide +kernel
theorem dX12_widen_169 : decode cX12_widen 169 = .ok (.iinc 3 1, 3) := by decide +kernel
theorem dX12_widen_172 : decode cX12_widen 172 = .ok (.goto (-34), 3) := by decide +kernel
theorem dX12_widen_175 : decode cX12_widen 175 = .ok (.aload_n 0, 1) := by decide +kernel
theorem dX12_widen_176 : decode cX12_widen 176 = .ok (.getfield 16, 3) := by decide +kernel
theorem dX12_widen_179 : decode cX12_widen 179 = .ok (.iconst 0, 1) := by decide +kernel
theorem dX12_widen_180 : decode cX12_widen 180 = .ok (.dup2, 1) := by decide +kernel
theorem dX12_widen_181 : decode cX12_widen 181 = .ok (.iaload, 1) := by decide +kernel
theorem dX12_widen_182 : decode cX12_widen 182 = .ok (.iconst 1, 1) := by decide +kernel
theorem dX12_widen_183 : decode cX12_widen 183 = .ok (.iadd, 1) := by decide +kernel
theorem dX12_widen_184 : decode cX12_widen 184 = .ok (.iastore, 1) := by decide +kernel
theorem dX12_widen_185 : decode cX12_widen 185 = .ok (.aload_n 0, 1) := by decide +kernel
theorem dX12_widen_186 : decode cX12_widen 186 = .ok (.invokevirtual 159, 3) := by decide +kernel
theorem dX12_widen_189 : decode cX12_widen 189 = .ok (.aload_n 0, 1) := by decide +kernel
theorem dX12_widen_190 : decode cX12_widen 190 = .ok (.getfield 168, 3) := by decide +kernel
theorem dX12_widen_193 : decode cX12_widen 193 = .ok (.ireturn, 1) := by decide +kernel
theorem dX12_moreBy_0 : decode cX12_moreBy 0 = .ok (.iconst 0, 1) := by decide +kernel
theorem dX12_moreBy_1 : decode cX12_moreBy 1 = .ok (.istore_n 3, 1) := by decide +kernel
theorem dX12_moreBy_2 : decode cX12_moreBy 2 = .ok (.iconst 0, 1) := by decide +kernel
theorem dX12_moreBy_3 : decode cX12_moreBy 3 = .ok (.istore 4, 2) := by decide +kernel
theorem dX12_moreBy_5 : decode cX12_moreBy 5 = .ok (.iload 4, 2) := by decide +kernel
theorem dX12_moreBy_7 : decode cX12_moreBy 7 = .ok (.aload_n 0, 1) := by decide +kernel
theorem dX12_moreBy_8 : decode cX12_moreBy 8 = .ok (.getfield 168, 3) := by decide +kernel
theorem dX12_moreBy_11 : decode cX12_moreBy 11 = .ok (.if_icmp .ge 96, 3) := by decide +kernel
theorem dX12_moreBy_14 : decode cX12_moreBy 14 = .ok (.aload_n 0, 1) := by decide +kernel
theorem dX12_moreBy_15 : decode cX12_moreBy 15 = .ok (.getfield 45, 3) := by decide +kernel
theorem dX12_moreBy_18 : decode cX12_moreBy 18 = .ok (.iload 4, 2) := by decide +kernel
theorem dX12_moreBy_20 : decode cX12_moreBy 20 = .ok (.baload, 1) := by decide +kernel
theorem dX12_moreBy_21 : decode cX12_moreBy 21 = .ok (.ifCond .eq 80, 3) := by decide +kernel
theorem dX12_moreBy_24 : decode cX12_moreBy 24 = .ok (.aload_n 0, 1) := by decide +kernel
theorem dX12_moreBy_25 : decode cX12_moreBy 25 = .ok (.iload_n 1, 1) := by decide +kernel
theorem dX12_moreBy_26 : decode cX12_moreBy 26 = .ok (.iload 4, 2) := by decide +kernel
theorem dX12_moreBy_28 : decode cX12_moreBy 28 = .ok (.invokevirtual 203, 3) := by decide +kernel
theorem dX12_moreBy_31 : decode cX12_moreBy 31 = .ok (.ifCond .ne 6, 3) := by decide +kernel
theorem dX12_moreBy_34 : decode cX12_moreBy 34 = .ok (.goto 67, 3) := by decide +kernel
theorem dX12_moreBy_37 : decode cX12_moreBy 37 = .ok (.iconst 0, 1) := by decide +kernel
theorem dX12_moreBy_38 : decode cX12_moreBy 38 = .ok (.istore 5, 2) := by decide +kernel
theorem dX12_moreBy_40 : decode cX12_moreBy 40 = .ok (.iconst 0, 1) := by decide +kernel
theorem dX12_moreBy_41 : decode cX12_moreBy 41 = .ok (.istore 6, 2) := by decide +kernel
theorem dX12_moreBy_43 : decode cX12_moreBy 43 = .ok (.iload 6, 2) := by decide +kernel
theorem dX12_moreBy_45 : decode cX12_moreBy 45 = .ok (.aload_n 0, 1) := by decide +kernel
theorem dX12_moreBy_46 : decode cX12_moreBy 46 = .ok (.getfield 16, 3) := by decide +kernel
theorem dX12_moreBy_49 : decode cX12_moreBy 49 = .ok (.iconst 1, 1) := by decide +kernel
theorem dX12_moreBy_50 : decode cX12_moreBy 50 = .ok (.iaload, 1) := by decide +kernel
theorem dX12_moreBy_51 : decode cX12_moreBy 51 = .ok (.if_icmp .ge 37, 3) := by decide +kernel
theorem dX12_moreBy_54 : decode cX12_moreBy 54 = .ok (.iload 5, 2) := by decide +kernel
theorem dX12_moreBy_56 : decode cX12_moreBy 56 = .ok (.ifCond .ne 19, 3) := by decide +kernel
theorem dX12_moreBy_59 : decode cX12_moreBy 59 = .ok (.aload_n 0, 1) := by decide +kernel
theorem dX12_moreBy_60 : decode cX12_moreBy 60 = .ok (.getfield 32, 3) := by decide +kernel
theorem dX12_moreBy_63 : decode cX12_moreBy 63 = .ok (.iconst 3, 1) := by decide +kernel
theorem dX12_moreBy_64 : decode cX12_moreBy 64 = .ok (.iload 4, 2) := by decide +kernel
theorem dX12_moreBy_66 : decode cX12_moreBy 66 = .ok (.imul, 1) := by decide +kernel
theorem dX12_moreBy_67 : decode cX12_moreBy 67 = .ok (.iload 6, 2) := by decide +kernel
theorem dX12_moreBy_69 : decode cX12_moreBy 69 = .ok (.iadd, 1) := by decide +kernel
theorem dX12_moreBy_70 : decode cX12_moreBy 70 = .ok (.iaload, 1) := by decide +kernel
theorem dX12_moreBy_71 : decode cX12_moreBy 71 = .ok (.iload_n 2, 1) := by decide +kernel
theorem dX12_moreBy_72 : decode cX12_moreBy 72 = .ok (.if_icmp .ne 7, 3) := by decide +kernel
theorem dX12_moreBy_75 : decode cX12_moreBy 75 = .ok (.iconst 1, 1) := by decide +kernel
theorem dX12_moreBy_76 : decode cX12_moreBy 76 = .ok (.goto 4, 3) := by decide +kernel
theorem dX12_moreBy_79 : decode cX12_moreBy 79 = .ok (.iconst 0, 1) := by decide +kernel
theorem dX12_moreBy_80 : decode cX12_moreBy 80 = .ok (.istore 5, 2) := by decide +kernel
theorem dX12_moreBy_82 : decode cX12_moreBy 82 = .ok (.iinc 6 1, 3) := by decide +kernel
theorem dX12_moreBy_85 : decode cX12_moreBy 85 = .ok (.goto (-42), 3) := by decide +kernel
theorem dX12_moreBy_88 : decode cX12_moreBy 88 = .ok (.iload_n 3, 1) := by decide +kernel
theorem dX12_moreBy_89 : decode cX12_moreBy 89 = .ok (.iload 5, 2) := by decide +kernel
theorem dX12_moreBy_91 : decode cX12_moreBy 91 = .ok (.ifCond .eq 7, 3) := by decide +kernel
theorem dX12_moreBy_94 : decode cX12_moreBy 94 = .ok (.iconst 1, 1) := by decide +kernel
theorem dX12_moreBy_95 : decode cX12_moreBy 95 = .ok (.goto 4, 3) := by decide +kernel
theorem dX12_moreBy_98 : decode cX12_moreBy 98 = .ok (.iconst 0, 1) := by decide +kernel
theorem dX12_moreBy_99 : decode cX12_moreBy 99 = .ok (.iadd, 1) := by decide +kernel
theorem dX12_moreBy_100 : decode cX12_moreBy 100 = .ok (.istore_n 3, 1) := by decide +kernel
theorem dX12_moreBy_101 : decode cX12_moreBy 101 = .ok (.iinc 4 1, 3) := by decide +kernel
theorem dX12_moreBy_104 : decode cX12_moreBy 104 = .ok (.goto (-99), 3) := by decide +kernel
theorem dX12_moreBy_107 : decode cX12_moreBy 107 = .ok (.iload_n 3, 1) := by decide +kernel
theorem dX12_moreBy_108 : decode cX12_moreBy 108 = .ok (.ireturn, 1) := by decide +kernel
theorem dX12_settles_0 : decode cX12_settles 0 = .ok (.aload_n 0, 1) := by decide +kernel
theorem dX12_settles_1 : decode cX12_settles 1 = .ok (.invokevirtual 251, 3) := by decide +kernel
theorem dX12_settles_4 : decode cX12_settles 4 = .ok (.istore_n 3, 1) := by decide +kernel
theorem dX12_settles_5 : decode cX12_settles 5 = .ok (.sipush 161, 3) := by decide +kernel
theorem dX12_settles_8 : decode cX12_settles 8 = .ok (.bipush 8, 2) := by decide +kernel
theorem dX12_settles_10 : decode cX12_settles 10 = .ok (.iload_n 1, 1) := by decide +kernel
theorem dX12_settles_11 : decode cX12_settles 11 = .ok (.imul, 1) := by decide +kernel
theorem dX12_settles_12 : decode cX12_settles 12 = .ok (.iadd, 1) := by decide +kernel
theorem dX12_settles_13 : decode cX12_settles 13 = .ok (.iload_n 2, 1) := by decide +kernel
theorem dX12_settles_14 : decode cX12_settles 14 = .ok (.iadd, 1) := by decide +kernel
theorem dX12_settles_15 : decode cX12_settles 15 = .ok (.istore 4, 2) := by decide +kernel
theorem dX12_settles_17 : decode cX12_settles 17 = .ok (.iconst (-1), 1) := by decide +kernel
theorem dX12_settles_18 : decode cX12_settles 18 = .ok (.istore 5, 2) := by decide +kernel
theorem dX12_settles_20 : decode cX12_settles 20 = .ok (.iconst (-1), 1) := by decide +kernel
theorem dX12_settles_21 : decode cX12_settles 21 = .ok (.istore 6, 2) := by decide +kernel
theorem dX12_settles_23 : decode cX12_settles 23 = .ok (.iconst 0, 1) := by decide +kernel
theorem dX12_settles_24 : decode cX12_settles 24 = .ok (.istore 7, 2) := by decide +kernel
theorem dX12_settles_26 : decode cX12_settles 26 = .ok (.iload 7, 2) := by decide +kernel
theorem dX12_settles_28 : decode cX12_settles 28 = .ok (.aload_n 0, 1) := by decide +kernel
theorem dX12_settles_29 : decode cX12_settles 29 = .ok (.getfield 16, 3) := by decide +kernel
theorem dX12_settles_32 : decode cX12_settles 32 = .ok (.iconst 5, 1) := by decide +kernel
theorem dX12_settles_33 : decode cX12_settles 33 = .ok (.iload_n 2, 1) := by decide +kernel
theorem dX12_settles_34 : decode cX12_settles 34 = .ok (.iadd, 1) := by decide +kernel
theorem dX12_settles_35 : decode cX12_settles 35 = .ok (.iaload, 1) := by decide +kernel
theorem dX12_settles_36 : decode cX12_settles 36 = .ok (.if_icmp .ge 75, 3) := by decide +kernel
theorem dX12_settles_39 : decode cX12_settles 39 = .ok (.aload_n 0, 1) := by decide +kernel
theorem dX12_settles_40 : decode cX12_settles 40 = .ok (.iload_n 1, 1) := by decide +kernel
theorem dX12_settles_41 : decode cX12_settles 41 = .ok (.invokevirtual 241, 3) := by decide +kernel
theorem dX12_settles_44 : decode cX12_settles 44 = .ok (.aload_n 0, 1) := by decide +kernel
theorem dX12_settles_45 : decode cX12_settles 45 = .ok (.getfield 26, 3) := by decide +kernel
theorem dX12_settles_48 : decode cX12_settles 48 = .ok (.iload_n 2, 1) := by decide +kernel
theorem dX12_settles_49 : decode cX12_settles 49 = .ok (.iload 7, 2) := by decide +kernel
theorem dX12_settles_51 : decode cX12_settles 51 = .ok (.iastore, 1) := by decide +kernel
theorem dX12_settles_52 : decode cX12_settles 52 = .ok (.aload_n 0, 1) := by decide +kernel
theorem dX12_settles_53 : decode cX12_settles 53 = .ok (.invokevirtual 162, 3) := by decide +kernel
theorem dX12_settles_56 : decode cX12_settles 56 = .ok (.ifCond .ne 6, 3) := by decide +kernel
theorem dX12_settles_59 : decode cX12_settles 59 = .ok (.goto 46, 3) := by decide +kernel
theorem dX12_settles_62 : decode cX12_settles 62 = .ok (.aload_n 0, 1) := by decide +kernel
theorem dX12_settles_63 : decode cX12_settles 63 = .ok (.getfield 16, 3) := by decide +kernel
theorem dX12_settles_66 : decode cX12_settles 66 = .ok (.iload 4, 2) := by decide +kernel
theorem dX12_settles_68 : decode cX12_settles 68 = .ok (.iload 7, 2) := by decide +kernel
theorem dX12_settles_70 : decode cX12_settles 70 = .ok (.iastore, 1) := by decide +kernel
theorem dX12_settles_71 : decode cX12_settles 71 = .ok (.aload_n 0, 1) := by decide +kernel
theorem dX12_settles_72 : decode cX12_settles 72 = .ok (.iload_n 1, 1) := by decide +kernel
theorem dX12_settles_73 : decode cX12_settles 73 = .ok (.iload_n 2, 1) := by decide +kernel
theorem dX12_settles_74 : decode cX12_settles 74 = .ok (.invokevirtual 292, 3) := by decide +kernel
theorem dX12_settles_77 : decode cX12_settles 77 = .ok (.istore 8, 2) := by decide +kernel
theorem dX12_settles_79 : decode cX12_settles 79 = .ok (.aload_n 0, 1) := by decide +kernel
theorem dX12_settles_80 : decode cX12_settles 80 = .ok (.getfield 16, 3) := by decide +kernel
theorem dX12_settles_83 : decode cX12_settles 83 = .ok (.iload 4, 2) := by decide +kernel
theorem dX12_settles_85 : decode cX12_settles 85 = .ok (.iconst (-1), 1) := by decide +kernel
theorem dX12_settles_86 : decode cX12_settles 86 = .ok (.iastore, 1) := by decide +kernel
theorem dX12_settles_87 : decode cX12_settles 87 = .ok (.iload 8, 2) := by decide +kernel
theorem dX12_settles_89 : decode cX12_settles 89 = .ok (.iload 6, 2) := by decide +kernel
theorem dX12_settles_91 : decode cX12_settles 91 = .ok (.if_icmp .gt 6, 3) := by decide +kernel
theorem dX12_settles_94 : decode cX12_settles 94 = .ok (.goto 11, 3) := by decide +kernel
theorem dX12_settles_97 : decode cX12_settles 97 = .ok (.iload 7, 2) := by decide +kernel
theorem dX12_settles_99 : decode cX12_settles 99 = .ok (.istore 5, 2) := by decide +kernel
theorem dX12_settles_101 : decode cX12_settles 101 = .ok (.iload 8, 2) := by decide +kernel
theorem dX12_settles_103 : decode cX12_settles 103 = .ok (.istore 6, 2) := by decide +kernel
theorem dX12_settles_105 : decode cX12_settles 105 = .ok (.iinc 7 1, 3) := by decide +kernel
theorem dX12_settles_108 : decode cX12_settles 108 = .ok (.goto (-82), 3) := by decide +kernel
theorem dX12_settles_111 : decode cX12_settles 111 = .ok (.aload_n 0, 1) := by decide +kernel
theorem dX12_settles_112 : decode cX12_settles 112 = .ok (.getfield 16, 3) := by decide +kernel
theorem dX12_settles_115 : decode cX12_settles 115 = .ok (.iload 4, 2) := by decide +kernel
theorem dX12_settles_117 : decode cX12_settles 117 = .ok (.iload 5, 2) := by decide +kernel
theorem dX12_settles_119 : decode cX12_settles 119 = .ok (.iastore, 1) := by decide +kernel
theorem dX12_settles_120 : decode cX12_settles 120 = .ok (.return_, 1) := by decide +kernel
theorem dX12_settle_0 : decode cX12_settle 0 = .ok (.aload_n 0, 1) := by decide +kernel
theorem dX12_settle_1 : decode cX12_settle 1 = .ok (.invokevirtual 212, 3) := by decide +kernel
theorem dX12_settle_4 : decode cX12_settle 4 = .ok (.ifCond .ne 5, 3) := by decide +kernel
theorem dX12_settle_7 : decode cX12_settle 7 = .ok (.iconst (-1), 1) := by decide +kernel
theorem dX12_settle_8 : decode cX12_settle 8 = .ok (.ireturn, 1) := by decide +kernel
theorem dX12_settle_9 : decode cX12_settle 9 = .ok (.aload_n 0, 1) := by decide +kernel
theorem dX12_settle_10 : decode cX12_settle 10 = .ok (.invokevirtual 230, 3) := by decide +kernel
theorem dX12_settle_13 : decode cX12_settle 13 = .ok (.iconst 0, 1) := by decide +kernel
theorem dX12_settle_14 : decode cX12_settle 14 = .ok (.istore_n 1, 1) := by decide +kernel
theorem dX12_settle_15 : decode cX12_settle 15 = .ok (.iconst 0, 1) := by decide +kernel
theorem dX12_settle_16 : decode cX12_settle 16 = .ok (.istore_n 2, 1) := by decide +kernel
theorem dX12_settle_17 : decode cX12_settle 17 = .ok (.iload_n 2, 1) := by decide +kernel
theorem dX12_settle_18 : decode cX12_settle 18 = .ok (.aload_n 0, 1) := by decide +kernel
theorem dX12_settle_19 : decode cX12_settle 19 = .ok (.getfield 16, 3) := by decide +kernel
theorem dX12_settle_22 : decode cX12_settle 22 = .ok (.iconst 3, 1) := by decide +kernel
theorem dX12_settle_23 : decode cX12_settle 23 = .ok (.iaload, 1) := by decide +kernel
theorem dX12_settle_24 : decode cX12_settle 24 = .ok (.if_icmp .ge 49, 3) := by decide +kernel
theorem dX12_settle_27 : decode cX12_settle 27 = .ok (.iconst 0, 1) := by decide +kernel
theorem dX12_settle_28 : decode cX12_settle 28 = .ok (.istore_n 3, 1) := by decide +kernel
theorem dX12_settle_29 : decode cX12_settle 29 = .ok (.iload_n 3, 1) := by decide +kernel
theorem dX12_settle_30 : decode cX12_settle 30 = .ok (.aload_n 0, 1) := by decide +kernel
theorem dX12_settle_31 : decode cX12_settle 31 = .ok (.getfield 16, 3) := by decide +kernel
theorem dX12_settle_34 : decode cX12_settle 34 = .ok (.iconst 0, 1) := by decide +kernel
theorem dX12_settle_35 : decode cX12_settle 35 = .ok (.iaload, 1) := by decide +kernel
theorem dX12_settle_36 : decode cX12_settle 36 = .ok (.if_icmp .ge 31, 3) := by decide +kernel
theorem dX12_settle_39 : decode cX12_settle 39 = .ok (.aload_n 0, 1) := by decide +kernel
theorem dX12_settle_40 : decode cX12_settle 40 = .ok (.iload_n 2, 1) := by decide +kernel
theorem dX12_settle_41 : decode cX12_settle 41 = .ok (.iload_n 3, 1) := by decide +kernel
theorem dX12_settle_42 : decode cX12_settle 42 = .ok (.invokevirtual 200, 3) := by decide +kernel
theorem dX12_settle_45 : decode cX12_settle 45 = .ok (.iconst (-1), 1) := by decide +kernel
theorem dX12_settle_46 : decode cX12_settle 46 = .ok (.if_icmp .eq 6, 3) := by decide +kernel
theorem dX12_settle_49 : decode cX12_settle 49 = .ok (.goto 12, 3) := by decide +kernel
theorem dX12_settle_52 : decode cX12_settle 52 = .ok (.aload_n 0, 1) := by decide +kernel
theorem dX12_settle_53 : decode cX12_settle 53 = .ok (.iload_n 2, 1) := by decide +kernel
theorem dX12_settle_54 : decode cX12_settle 54 = .ok (.iload_n 3, 1) := by decide +kernel
theorem dX12_settle_55 : decode cX12_settle 55 = .ok (.invokevirtual 295, 3) := by decide +kernel
theorem dX12_settle_58 : decode cX12_settle 58 = .ok (.iinc 1 1, 3) := by decide +kernel
theorem dX12_settle_61 : decode cX12_settle 61 = .ok (.iinc 3 1, 3) := by decide +kernel
theorem dX12_settle_64 : decode cX12_settle 64 = .ok (.goto (-35), 3) := by decide +kernel
theorem dX12_settle_67 : decode cX12_settle 67 = .ok (.iinc 2 1, 3) := by decide +kernel
theorem dX12_settle_70 : decode cX12_settle 70 = .ok (.goto (-53), 3) := by decide +kernel
theorem dX12_settle_73 : decode cX12_settle 73 = .ok (.iload_n 1, 1) := by decide +kernel
theorem dX12_settle_74 : decode cX12_settle 74 = .ok (.ireturn, 1) := by decide +kernel
theorem dX12_isNeeded_0 : decode cX12_isNeeded 0 = .ok (.iconst 0, 1) := by decide +kernel
theorem dX12_isNeeded_1 : decode cX12_isNeeded 1 = .ok (.istore_n 2, 1) := by decide +kernel
theorem dX12_isNeeded_2 : decode cX12_isNeeded 2 = .ok (.iload_n 2, 1) := by decide +kernel
theorem dX12_isNeeded_3 : decode cX12_isNeeded 3 = .ok (.aload_n 0, 1) := by decide +kernel
theorem dX12_isNeeded_4 : decode cX12_isNeeded 4 = .ok (.getfield 168, 3) := by decide +kernel
theorem dX12_isNeeded_7 : decode cX12_isNeeded 7 = .ok (.if_icmp .ge 36, 3) := by decide +kernel
theorem dX12_isNeeded_10 : decode cX12_isNeeded 10 = .ok (.aload_n 0, 1) := by decide +kernel
theorem dX12_isNeeded_11 : decode cX12_isNeeded 11 = .ok (.iload_n 1, 1) := by decide +kernel
theorem dX12_isNeeded_12 : decode cX12_isNeeded 12 = .ok (.iload_n 2, 1) := by decide +kernel
theorem dX12_isNeeded_13 : decode cX12_isNeeded 13 = .ok (.invokevirtual 203, 3) := by decide +kernel
theorem dX12_isNeeded_16 : decode cX12_isNeeded 16 = .ok (.ifCond .eq 21, 3) := by decide +kernel
theorem dX12_isNeeded_19 : decode cX12_isNeeded 19 = .ok (.aload_n 0, 1) := by decide +kernel
theorem dX12_isNeeded_20 : decode cX12_isNeeded 20 = .ok (.iload_n 2, 1) := by decide +kernel
theorem dX12_isNeeded_21 : decode cX12_isNeeded 21 = .ok (.iconst 0, 1) := by decide +kernel
theorem dX12_isNeeded_22 : decode cX12_isNeeded 22 = .ok (.aload_n 0, 1) := by decide +kernel
theorem dX12_isNeeded_23 : decode cX12_isNeeded 23 = .ok (.getfield 16, 3) := by decide +kernel
theorem dX12_isNeeded_26 : decode cX12_isNeeded 26 = .ok (.iconst 3, 1) := by decide +kernel
theorem dX12_isNeeded_27 : decode cX12_isNeeded 27 = .ok (.iaload, 1) := by decide +kernel
theorem dX12_isNeeded_28 : decode cX12_isNeeded 28 = .ok (.invokevirtual 206, 3) := by decide +kernel
theorem dX12_isNeeded_31 : decode cX12_isNeeded 31 = .ok (.iconst 1, 1) := by decide +kernel
theorem dX12_isNeeded_32 : decode cX12_isNeeded 32 = .ok (.if_icmp .ne 5, 3) := by decide +kernel
theorem dX12_isNeeded_35 : decode cX12_isNeeded 35 = .ok (.iconst 1, 1) := by decide +kernel
theorem dX12_isNeeded_36 : decode cX12_isNeeded 36 = .ok (.ireturn, 1) := by decide +kernel
theorem dX12_isNeeded_37 : decode cX12_isNeeded 37 = .ok (.iinc 2 1, 3) := by decide +kernel
theorem dX12_isNeeded_40 : decode cX12_isNeeded 40 = .ok (.goto (-38), 3) := by decide +kernel
theorem dX12_isNeeded_43 : decode cX12_isNeeded 43 = .ok (.iconst 0, 1) := by decide +kernel
theorem dX12_isNeeded_44 : decode cX12_isNeeded 44 = .ok (.ireturn, 1) := by decide +kernel
theorem dX12_thin_0 : decode cX12_thin 0 = .ok (.aload_n 0, 1) := by decide +kernel
theorem dX12_thin_1 : decode cX12_thin 1 = .ok (.invokevirtual 212, 3) := by decide +kernel
theorem dX12_thin_4 : decode cX12_thin 4 = .ok (.ifCond .ne 5, 3) := by decide +kernel
theorem dX12_thin_7 : decode cX12_thin 7 = .ok (.iconst (-1), 1) := by decide +kernel
theorem dX12_thin_8 : decode cX12_thin 8 = .ok (.ireturn, 1) := by decide +kernel
theorem dX12_thin_9 : decode cX12_thin 9 = .ok (.aload_n 0, 1) := by decide +kernel
theorem dX12_thin_10 : decode cX12_thin 10 = .ok (.invokevirtual 230, 3) := by decide +kernel
theorem dX12_thin_13 : decode cX12_thin 13 = .ok (.iconst 0, 1) := by decide +kernel
theorem dX12_thin_14 : decode cX12_thin 14 = .ok (.istore_n 1, 1) := by decide +kernel
theorem dX12_thin_15 : decode cX12_thin 15 = .ok (.aload_n 0, 1) := by decide +kernel
theorem dX12_thin_16 : decode cX12_thin 16 = .ok (.getfield 16, 3) := by decide +kernel
theorem dX12_thin_19 : decode cX12_thin 19 = .ok (.iconst 3, 1) := by decide +kernel
theorem dX12_thin_20 : decode cX12_thin 20 = .ok (.iaload, 1) := by decide +kernel
theorem dX12_thin_21 : decode cX12_thin 21 = .ok (.iconst 1, 1) := by decide +kernel
theorem dX12_thin_22 : decode cX12_thin 22 = .ok (.isub, 1) := by decide +kernel
theorem dX12_thin_23 : decode cX12_thin 23 = .ok (.istore_n 2, 1) := by decide +kernel
theorem dX12_thin_24 : decode cX12_thin 24 = .ok (.iload_n 2, 1) := by decide +kernel
theorem dX12_thin_25 : decode cX12_thin 25 = .ok (.ifCond .lt 28, 3) := by decide +kernel
theorem dX12_thin_28 : decode cX12_thin 28 = .ok (.aload_n 0, 1) := by decide +kernel
theorem dX12_thin_29 : decode cX12_thin 29 = .ok (.iload_n 2, 1) := by decide +kernel
theorem dX12_thin_30 : decode cX12_thin 30 = .ok (.invokevirtual 298, 3) := by decide +kernel
theorem dX12_thin_33 : decode cX12_thin 33 = .ok (.ifCond .eq 6, 3) := by decide +kernel
theorem dX12_thin_36 : decode cX12_thin 36 = .ok (.goto 11, 3) := by decide +kernel
theorem dX12_thin_39 : decode cX12_thin 39 = .ok (.aload_n 0, 1) := by decide +kernel
theorem dX12_thin_40 : decode cX12_thin 40 = .ok (.iload_n 2, 1) := by decide +kernel
theorem dX12_thin_41 : decode cX12_thin 41 = .ok (.invokevirtual 248, 3) := by decide +kernel
theorem dX12_thin_44 : decode cX12_thin 44 = .ok (.iinc 1 1, 3) := by decide +kernel
theorem dX12_thin_47 : decode cX12_thin 47 = .ok (.iinc 2 (-1), 3) := by decide +kernel
theorem dX12_thin_50 : decode cX12_thin 50 = .ok (.goto (-26), 3) := by decide +kernel
theorem dX12_thin_53 : decode cX12_thin 53 = .ok (.iload_n 1, 1) := by decide +kernel
theorem dX12_thin_54 : decode cX12_thin 54 = .ok (.ireturn, 1) := by decide +kernel
theorem dX12_bringsTo_0 : decode cX12_bringsTo 0 = .ok (.iconst 0, 1) := by decide +kernel
theorem dX12_bringsTo_1 : decode cX12_bringsTo 1 = .ok (.istore_n 3, 1) := by decide +kernel
theorem dX12_bringsTo_2 : decode cX12_bringsTo 2 = .ok (.iload_n 3, 1) := by decide +kernel
theorem dX12_bringsTo_3 : decode cX12_bringsTo 3 = .ok (.bipush 8, 2) := by decide +kernel
theorem dX12_bringsTo_5 : decode cX12_bringsTo 5 = .ok (.if_icmp .ge 21, 3) := by decide +kernel
theorem dX12_bringsTo_8 : decode cX12_bringsTo 8 = .ok (.aload_n 0, 1) := by decide +kernel
theorem dX12_bringsTo_9 : decode cX12_bringsTo 9 = .ok (.getfield 57, 3) := by decide +kernel
theorem dX12_bringsTo_12 : decode cX12_bringsTo 12 = .ok (.iload_n 3, 1) := by decide +kernel
theorem dX12_bringsTo_13 : decode cX12_bringsTo 13 = .ok (.aload_n 0, 1) := by decide +kernel
theorem dX12_bringsTo_14 : decode cX12_bringsTo 14 = .ok (.iload_n 1, 1) := by decide +kernel
theorem dX12_bringsTo_15 : decode cX12_bringsTo 15 = .ok (.iload_n 3, 1) := by decide +kernel
theorem dX12_bringsTo_16 : decode cX12_bringsTo 16 = .ok (.invokevirtual 200, 3) := by decide +kernel
theorem dX12_bringsTo_19 : decode cX12_bringsTo 19 = .ok (.iastore, 1) := by decide +kernel
theorem dX12_bringsTo_20 : decode cX12_bringsTo 20 = .ok (.iinc 3 1, 3) := by decide +kernel
theorem dX12_bringsTo_23 : decode cX12_bringsTo 23 = .ok (.goto (-21), 3) := by decide +kernel
theorem dX12_bringsTo_26 : decode cX12_bringsTo 26 = .ok (.aload_n 0, 1) := by decide +kernel
theorem dX12_bringsTo_27 : decode cX12_bringsTo 27 = .ok (.getfield 57, 3) := by decide +kernel
theorem dX12_bringsTo_30 : decode cX12_bringsTo 30 = .ok (.bipush 8, 2) := by decide +kernel
theorem dX12_bringsTo_32 : decode cX12_bringsTo 32 = .ok (.aload_n 0, 1) := by decide +kernel
theorem dX12_bringsTo_33 : decode cX12_bringsTo 33 = .ok (.getfield 16, 3) := by decide +kernel
theorem dX12_bringsTo_36 : decode cX12_bringsTo 36 = .ok (.bipush 97, 2) := by decide +kernel
theorem dX12_bringsTo_38 : decode cX12_bringsTo 38 = .ok (.iload_n 1, 1) := by decide +kernel
theorem dX12_bringsTo_39 : decode cX12_bringsTo 39 = .ok (.iadd, 1) := by decide +kernel
theorem dX12_bringsTo_40 : decode cX12_bringsTo 40 = .ok (.iaload, 1) := by decide +kernel
theorem dX12_bringsTo_41 : decode cX12_bringsTo 41 = .ok (.iastore, 1) := by decide +kernel
theorem dX12_bringsTo_42 : decode cX12_bringsTo 42 = .ok (.iload_n 1, 1) := by decide +kernel
theorem dX12_bringsTo_43 : decode cX12_bringsTo 43 = .ok (.istore_n 3, 1) := by decide +kernel
theorem dX12_bringsTo_44 : decode cX12_bringsTo 44 = .ok (.iload_n 3, 1) := by decide +kernel
theorem dX12_bringsTo_45 : decode cX12_bringsTo 45 = .ok (.iload_n 2, 1) := by decide +kernel
theorem dX12_bringsTo_46 : decode cX12_bringsTo 46 = .ok (.if_icmp .le 17, 3) := by decide +kernel
theorem dX12_bringsTo_49 : decode cX12_bringsTo 49 = .ok (.aload_n 0, 1) := by decide +kernel
theorem dX12_bringsTo_50 : decode cX12_bringsTo 50 = .ok (.iload_n 3, 1) := by decide +kernel
theorem dX12_bringsTo_51 : decode cX12_bringsTo 51 = .ok (.iconst 1, 1) := by decide +kernel
theorem dX12_bringsTo_52 : decode cX12_bringsTo 52 = .ok (.isub, 1) := by decide +kernel
theorem dX12_bringsTo_53 : decode cX12_bringsTo 53 = .ok (.iload_n 3, 1) := by decide +kernel
theorem dX12_bringsTo_54 : decode cX12_bringsTo 54 = .ok (.invokevirtual 244, 3) := by decide +kernel
theorem dX12_bringsTo_57 : decode cX12_bringsTo 57 = .ok (.iinc 3 (-1), 3) := by decide +kernel
theorem dX12_bringsTo_60 : decode cX12_bringsTo 60 = .ok (.goto (-16), 3) := by decide +kernel
theorem dX12_bringsTo_63 : decode cX12_bringsTo 63 = .ok (.iconst 0, 1) := by decide +kernel
theorem dX12_bringsTo_64 : decode cX12_bringsTo 64 = .ok (.istore_n 3, 1) := by decide +kernel
theorem dX12_bringsTo_65 : decode cX12_bringsTo 65 = .ok (.iload_n 3, 1) := by decide +kernel
theorem dX12_bringsTo_66 : decode cX12_bringsTo 66 = .ok (.bipush 8, 2) := by decide +kernel
theorem dX12_bringsTo_68 : decode cX12_bringsTo 68 = .ok (.if_icmp .ge 30, 3) := by decide +kernel
theorem dX12_bringsTo_71 : decode cX12_bringsTo 71 = .ok (.aload_n 0, 1) := by decide +kernel
theorem dX12_bringsTo_72 : decode cX12_bringsTo 72 = .ok (.getfield 16, 3) := by decide +kernel
theorem dX12_bringsTo_75 : decode cX12_bringsTo 75 = .ok (.sipush 161, 3) := by decide +kernel
theorem dX12_bringsTo_78 : decode cX12_bringsTo 78 = .ok (.bipush 8, 2) := by decide +kernel
theorem dX12_bringsTo_80 : decode cX12_bringsTo 80 = .ok (.iload_n 2, 1) := by decide +kernel
theorem dX12_bringsTo_81 : decode cX12_bringsTo 81 = .ok (.imul, 1) := by decide +kernel
theorem dX12_bringsTo_82 : decode cX12_bringsTo 82 = .ok (.iadd, 1) := by decide +kernel
theorem dX12_bringsTo_83 : decode cX12_bringsTo 83 = .ok (.iload_n 3, 1) := by decide +kernel
theorem dX12_bringsTo_84 : decode cX12_bringsTo 84 = .ok (.iadd, 1) := by decide +kernel
theorem dX12_bringsTo_85 : decode cX12_bringsTo 85 = .ok (.aload_n 0, 1) := by decide +kernel
theorem dX12_bringsTo_86 : decode cX12_bringsTo 86 = .ok (.getfield 57, 3) := by decide +kernel
theorem dX12_bringsTo_89 : decode cX12_bringsTo 89 = .ok (.iload_n 3, 1) := by decide +kernel
theorem dX12_bringsTo_90 : decode cX12_bringsTo 90 = .ok (.iaload, 1) := by decide +kernel
theorem dX12_bringsTo_91 : decode cX12_bringsTo 91 = .ok (.iastore, 1) := by decide +kernel
theorem dX12_bringsTo_92 : decode cX12_bringsTo 92 = .ok (.iinc 3 1, 3) := by decide +kernel
theorem dX12_bringsTo_95 : decode cX12_bringsTo 95 = .ok (.goto (-30), 3) := by decide +kernel
theorem dX12_bringsTo_98 : decode cX12_bringsTo 98 = .ok (.aload_n 0, 1) := by decide +kernel
theorem dX12_bringsTo_99 : decode cX12_bringsTo 99 = .ok (.getfield 16, 3) := by decide +kernel
theorem dX12_bringsTo_102 : decode cX12_bringsTo 102 = .ok (.bipush 97, 2) := by decide +kernel
theorem dX12_bringsTo_104 : decode cX12_bringsTo 104 = .ok (.iload_n 2, 1) := by decide +kernel
theorem dX12_bringsTo_105 : decode cX12_bringsTo 105 = .ok (.iadd, 1) := by decide +kernel
theorem dX12_bringsTo_106 : decode cX12_bringsTo 106 = .ok (.aload_n 0, 1) := by decide +kernel
theorem dX12_bringsTo_107 : decode cX12_bringsTo 107 = .ok (.getfield 57, 3) := by decide +kernel
theorem dX12_bringsTo_110 : decode cX12_bringsTo 110 = .ok (.bipush 8, 2) := by decide +kernel
theorem dX12_bringsTo_112 : decode cX12_bringsTo 112 = .ok (.iaload, 1) := by decide +kernel
theorem dX12_bringsTo_113 : decode cX12_bringsTo 113 = .ok (.iastore, 1) := by decide +kernel
theorem dX12_bringsTo_114 : decode cX12_bringsTo 114 = .ok (.return_, 1) := by decide +kernel
theorem dX12_newIn_0 : decode cX12_newIn 0 = .ok (.iconst 0, 1) := by decide +kernel
theorem dX12_newIn_1 : decode cX12_newIn 1 = .ok (.istore_n 3, 1) := by decide +kernel
theorem dX12_newIn_2 : decode cX12_newIn 2 = .ok (.iconst 0, 1) := by decide +kernel
theorem dX12_newIn_3 : decode cX12_newIn 3 = .ok (.istore 4, 2) := by decide +kernel
theorem dX12_newIn_5 : decode cX12_newIn 5 = .ok (.iload 4, 2) := by decide +kernel
theorem dX12_newIn_7 : decode cX12_newIn 7 = .ok (.aload_n 0, 1) := by decide +kernel
theorem dX12_newIn_8 : decode cX12_newIn 8 = .ok (.getfield 168, 3) := by decide +kernel
theorem dX12_newIn_11 : decode cX12_newIn 11 = .ok (.if_icmp .ge 38, 3) := by decide +kernel
theorem dX12_newIn_14 : decode cX12_newIn 14 = .ok (.iload_n 3, 1) := by decide +kernel
theorem dX12_newIn_15 : decode cX12_newIn 15 = .ok (.aload_n 0, 1) := by decide +kernel
theorem dX12_newIn_16 : decode cX12_newIn 16 = .ok (.iload_n 1, 1) := by decide +kernel
theorem dX12_newIn_17 : decode cX12_newIn 17 = .ok (.iload 4, 2) := by decide +kernel
theorem dX12_newIn_19 : decode cX12_newIn 19 = .ok (.invokevirtual 203, 3) := by decide +kernel
theorem dX12_newIn_22 : decode cX12_newIn 22 = .ok (.ifCond .eq 18, 3) := by decide +kernel
theorem dX12_newIn_25 : decode cX12_newIn 25 = .ok (.aload_n 0, 1) := by decide +kernel
theorem dX12_newIn_26 : decode cX12_newIn 26 = .ok (.iload 4, 2) := by decide +kernel
theorem dX12_newIn_28 : decode cX12_newIn 28 = .ok (.iconst 0, 1) := by decide +kernel
theorem dX12_newIn_29 : decode cX12_newIn 29 = .ok (.iload_n 2, 1) := by decide +kernel
theorem dX12_newIn_30 : decode cX12_newIn 30 = .ok (.invokevirtual 206, 3) := by decide +kernel
theorem dX12_newIn_33 : decode cX12_newIn 33 = .ok (.ifCond .ne 7, 3) := by decide +kernel
theorem dX12_newIn_36 : decode cX12_newIn 36 = .ok (.iconst 1, 1) := by decide +kernel
theorem dX12_newIn_37 : decode cX12_newIn 37 = .ok (.goto 4, 3) := by decide +kernel
theorem dX12_newIn_40 : decode cX12_newIn 40 = .ok (.iconst 0, 1) := by decide +kernel
theorem dX12_newIn_41 : decode cX12_newIn 41 = .ok (.iadd, 1) := by decide +kernel
theorem dX12_newIn_42 : decode cX12_newIn 42 = .ok (.istore_n 3, 1) := by decide +kernel
theorem dX12_newIn_43 : decode cX12_newIn 43 = .ok (.iinc 4 1, 3) := by decide +kernel
theorem dX12_newIn_46 : decode cX12_newIn 46 = .ok (.goto (-41), 3) := by decide +kernel
theorem dX12_newIn_49 : decode cX12_newIn 49 = .ok (.iload_n 3, 1) := by decide +kernel
theorem dX12_newIn_50 : decode cX12_newIn 50 = .ok (.ireturn, 1) := by decide +kernel
theorem dX12_order_0 : decode cX12_order 0 = .ok (.aload_n 0, 1) := by decide +kernel
theorem dX12_order_1 : decode cX12_order 1 = .ok (.invokevirtual 212, 3) := by decide +kernel
theorem dX12_order_4 : decode cX12_order 4 = .ok (.ifCond .ne 5, 3) := by decide +kernel
theorem dX12_order_7 : decode cX12_order 7 = .ok (.iconst (-1), 1) := by decide +kernel
theorem dX12_order_8 : decode cX12_order 8 = .ok (.ireturn, 1) := by decide +kernel
theorem dX12_order_9 : decode cX12_order 9 = .ok (.aload_n 0, 1) := by decide +kernel
theorem dX12_order_10 : decode cX12_order 10 = .ok (.invokevirtual 230, 3) := by decide +kernel
theorem dX12_order_13 : decode cX12_order 13 = .ok (.iconst 0, 1) := by decide +kernel
theorem dX12_order_14 : decode cX12_order 14 = .ok (.istore_n 1, 1) := by decide +kernel
theorem dX12_order_15 : decode cX12_order 15 = .ok (.iconst 0, 1) := by decide +kernel
theorem dX12_order_16 : decode cX12_order 16 = .ok (.istore_n 2, 1) := by decide +kernel
theorem dX12_order_17 : decode cX12_order 17 = .ok (.iload_n 2, 1) := by decide +kernel
theorem dX12_order_18 : decode cX12_order 18 = .ok (.aload_n 0, 1) := by decide +kernel
theorem dX12_order_19 : decode cX12_order 19 = .ok (.getfield 16, 3) := by decide +kernel
theorem dX12_order_22 : decode cX12_order 22 = .ok (.iconst 3, 1) := by decide +kernel
theorem dX12_order_23 : decode cX12_order 23 = .ok (.iaload, 1) := by decide +kernel
theorem dX12_order_24 : decode cX12_order 24 = .ok (.if_icmp .ge 86, 3) := by decide +kernel
theorem dX12_order_27 : decode cX12_order 27 = .ok (.iload_n 2, 1) := by decide +kernel
theorem dX12_order_28 : decode cX12_order 28 = .ok (.istore_n 3, 1) := by decide +kernel
theorem dX12_order_29 : decode cX12_order 29 = .ok (.aload_n 0, 1) := by decide +kernel
theorem dX12_order_30 : decode cX12_order 30 = .ok (.iload_n 2, 1) := by decide +kernel
theorem dX12_order_31 : decode cX12_order 31 = .ok (.iload_n 2, 1) := by decide +kernel
theorem dX12_order_32 : decode cX12_order 32 = .ok (.invokevirtual 301, 3) := by decide +kernel
theorem dX12_order_35 : decode cX12_order 35 = .ok (.istore 4, 2) := by decide +kernel
theorem dX12_order_37 : decode cX12_order 37 = .ok (.iload_n 2, 1) := by decide +kernel
theorem dX12_order_38 : decode cX12_order 38 = .ok (.iconst 1, 1) := by decide +kernel
theorem dX12_order_39 : decode cX12_order 39 = .ok (.iadd, 1) := by decide +kernel
theorem dX12_order_40 : decode cX12_order 40 = .ok (.istore 5, 2) := by decide +kernel
theorem dX12_order_42 : decode cX12_order 42 = .ok (.iload 5, 2) := by decide +kernel
theorem dX12_order_44 : decode cX12_order 44 = .ok (.aload_n 0, 1) := by decide +kernel
theorem dX12_order_45 : decode cX12_order 45 = .ok (.getfield 16, 3) := by decide +kernel
theorem dX12_order_48 : decode cX12_order 48 = .ok (.iconst 3, 1) := by decide +kernel
theorem dX12_order_49 : decode cX12_order 49 = .ok (.iaload, 1) := by decide +kernel
theorem dX12_order_50 : decode cX12_order 50 = .ok (.if_icmp .ge 35, 3) := by decide +kernel
theorem dX12_order_53 : decode cX12_order 53 = .ok (.aload_n 0, 1) := by decide +kernel
theorem dX12_order_54 : decode cX12_order 54 = .ok (.iload 5, 2) := by decide +kernel
theorem dX12_order_56 : decode cX12_order 56 = .ok (.iload_n 2, 1) := by decide +kernel
theorem dX12_order_57 : decode cX12_order 57 = .ok (.invokevirtual 301, 3) := by decide +kernel
theorem dX12_order_60 : decode cX12_order 60 = .ok (.istore 6, 2) := by decide +kernel
theorem dX12_order_62 : decode cX12_order 62 = .ok (.iload 6, 2) := by decide +kernel
theorem dX12_order_64 : decode cX12_order 64 = .ok (.iload 4, 2) := by decide +kernel
theorem dX12_order_66 : decode cX12_order 66 = .ok (.if_icmp .gt 6, 3) := by decide +kernel
theorem dX12_order_69 : decode cX12_order 69 = .ok (.goto 10, 3) := by decide +kernel
theorem dX12_order_72 : decode cX12_order 72 = .ok (.iload 5, 2) := by decide +kernel
theorem dX12_order_74 : decode cX12_order 74 = .ok (.istore_n 3, 1) := by decide +kernel
theorem dX12_order_75 : decode cX12_order 75 = .ok (.iload 6, 2) := by decide +kernel
theorem dX12_order_77 : decode cX12_order 77 = .ok (.istore 4, 2) := by decide +kernel
theorem dX12_order_79 : decode cX12_order 79 = .ok (.iinc 5 1, 3) := by decide +kernel
theorem dX12_order_82 : decode cX12_order 82 = .ok (.goto (-40), 3) := by decide +kernel
theorem dX12_order_85 : decode cX12_order 85 = .ok (.aload_n 0, 1) := by decide +kernel
theorem dX12_order_86 : decode cX12_order 86 = .ok (.iload_n 3, 1) := by decide +kernel
theorem dX12_order_87 : decode cX12_order 87 = .ok (.iload_n 2, 1) := by decide +kernel
theorem dX12_order_88 : decode cX12_order 88 = .ok (.invokevirtual 304, 3) := by decide +kernel
theorem dX12_order_91 : decode cX12_order 91 = .ok (.iload_n 1, 1) := by decide +kernel
theorem dX12_order_92 : decode cX12_order 92 = .ok (.iload 4, 2) := by decide +kernel
theorem dX12_order_94 : decode cX12_order 94 = .ok (.ifCond .le 7, 3) := by decide +kernel
theorem dX12_order_97 : decode cX12_order 97 = .ok (.iconst 1, 1) := by decide +kernel
theorem dX12_order_98 : decode cX12_order 98 = .ok (.goto 4, 3) := by decide +kernel
theorem dX12_order_101 : decode cX12_order 101 = .ok (.iconst 0, 1) := by decide +kernel
theorem dX12_order_102 : decode cX12_order 102 = .ok (.iadd, 1) := by decide +kernel
theorem dX12_order_103 : decode cX12_order 103 = .ok (.istore_n 1, 1) := by decide +kernel
theorem dX12_order_104 : decode cX12_order 104 = .ok (.iinc 2 1, 3) := by decide +kernel
theorem dX12_order_107 : decode cX12_order 107 = .ok (.goto (-90), 3) := by decide +kernel
theorem dX12_order_110 : decode cX12_order 110 = .ok (.iload_n 1, 1) := by decide +kernel
theorem dX12_order_111 : decode cX12_order 111 = .ok (.ireturn, 1) := by decide +kernel
theorem dX12_draw_0 : decode cX12_draw 0 = .ok (.aload_n 0, 1) := by decide +kernel
theorem dX12_draw_1 : decode cX12_draw 1 = .ok (.getfield 16, 3) := by decide +kernel
theorem dX12_draw_4 : decode cX12_draw 4 = .ok (.iconst 4, 1) := by decide +kernel
theorem dX12_draw_5 : decode cX12_draw 5 = .ok (.aload_n 0, 1) := by decide +kernel
theorem dX12_draw_6 : decode cX12_draw 6 = .ok (.getfield 16, 3) := by decide +kernel
theorem dX12_draw_9 : decode cX12_draw 9 = .ok (.iconst 4, 1) := by decide +kernel
theorem dX12_draw_10 : decode cX12_draw 10 = .ok (.iaload, 1) := by decide +kernel
theorem dX12_draw_11 : decode cX12_draw 11 = .ok (.i2l, 1) := by decide +kernel
theorem dX12_draw_12 : decode cX12_draw 12 = .ok (.ldc2_w 307, 3) := by decide +kernel
theorem dX12_draw_15 : decode cX12_draw 15 = .ok (.lmul, 1) := by decide +kernel
theorem dX12_draw_16 : decode cX12_draw 16 = .ok (.ldc2_w 309, 3) := by decide +kernel
theorem dX12_draw_19 : decode cX12_draw 19 = .ok (.ladd, 1) := by decide +kernel
theorem dX12_draw_20 : decode cX12_draw 20 = .ok (.ldc2_w 311, 3) := by decide +kernel
theorem dX12_draw_23 : decode cX12_draw 23 = .ok (.lrem, 1) := by decide +kernel
theorem dX12_draw_24 : decode cX12_draw 24 = .ok (.l2i, 1) := by decide +kernel
theorem dX12_draw_25 : decode cX12_draw 25 = .ok (.iastore, 1) := by decide +kernel
theorem dX12_draw_26 : decode cX12_draw 26 = .ok (.aload_n 0, 1) := by decide +kernel
theorem dX12_draw_27 : decode cX12_draw 27 = .ok (.getfield 16, 3) := by decide +kernel
theorem dX12_draw_30 : decode cX12_draw 30 = .ok (.iconst 4, 1) := by decide +kernel
theorem dX12_draw_31 : decode cX12_draw 31 = .ok (.iaload, 1) := by decide +kernel
theorem dX12_draw_32 : decode cX12_draw 32 = .ok (.ldc_w 313, 3) := by decide +kernel
theorem dX12_draw_35 : decode cX12_draw 35 = .ok (.idiv, 1) := by decide +kernel
theorem dX12_draw_36 : decode cX12_draw 36 = .ok (.iload_n 1, 1) := by decide +kernel
theorem dX12_draw_37 : decode cX12_draw 37 = .ok (.irem, 1) := by decide +kernel
theorem dX12_draw_38 : decode cX12_draw 38 = .ok (.ireturn, 1) := by decide +kernel
theorem dX12_canGreedy_0 : decode cX12_canGreedy 0 = .ok (.aload_n 0, 1) := by decide +kernel
theorem dX12_canGreedy_1 : decode cX12_canGreedy 1 = .ok (.aload_n 0, 1) := by decide +kernel
theorem dX12_canGreedy_2 : decode cX12_canGreedy 2 = .ok (.getfield 51, 3) := by decide +kernel
theorem dX12_canGreedy_5 : decode cX12_canGreedy 5 = .ok (.invokevirtual 226, 3) := by decide +kernel
theorem dX12_canGreedy_8 : decode cX12_canGreedy 8 = .ok (.aload_n 0, 1) := by decide +kernel
theorem dX12_canGreedy_9 : decode cX12_canGreedy 9 = .ok (.getfield 26, 3) := by decide +kernel
theorem dX12_canGreedy_12 : decode cX12_canGreedy 12 = .ok (.iload_n 1, 1) := by decide +kernel
theorem dX12_canGreedy_13 : decode cX12_canGreedy 13 = .ok (.iload_n 2, 1) := by decide +kernel
theorem dX12_canGreedy_14 : decode cX12_canGreedy 14 = .ok (.iastore, 1) := by decide +kernel
theorem dX12_canGreedy_15 : decode cX12_canGreedy 15 = .ok (.aload_n 0, 1) := by decide +kernel
theorem dX12_canGreedy_16 : decode cX12_canGreedy 16 = .ok (.invokevirtual 162, 3) := by decide +kernel
theorem dX12_canGreedy_19 : decode cX12_canGreedy 19 = .ok (.ireturn, 1) := by decide +kernel
theorem dX12_drawn_0 : decode cX12_drawn 0 = .ok (.aload_n 0, 1) := by decide +kernel
theorem dX12_drawn_1 : decode cX12_drawn 1 = .ok (.invokevirtual 212, 3) := by decide +kernel
theorem dX12_drawn_4 : decode cX12_drawn 4 = .ok (.ifCond .eq 14, 3) := by decide +kernel
theorem dX12_drawn_7 : decode cX12_drawn 7 = .ok (.aload_n 0, 1) := by decide +kernel
theorem dX12_drawn_8 : decode cX12_drawn 8 = .ok (.getfield 16, 3) := by decide +kernel
theorem dX12_drawn_11 : decode cX12_drawn 11 = .ok (.iconst 3, 1) := by decide +kernel
theorem dX12_drawn_12 : decode cX12_drawn 12 = .ok (.iaload, 1) := by decide +kernel
theorem dX12_drawn_13 : decode cX12_drawn 13 = .ok (.bipush 64, 2) := by decide +kernel
theorem dX12_drawn_15 : decode cX12_drawn 15 = .ok (.if_icmp .ne 5, 3) := by decide +kernel
theorem dX12_drawn_18 : decode cX12_drawn 18 = .ok (.iconst (-1), 1) := by decide +kernel
theorem dX12_drawn_19 : decode cX12_drawn 19 = .ok (.ireturn, 1) := by decide +kernel
theorem dX12_drawn_20 : decode cX12_drawn 20 = .ok (.aload_n 0, 1) := by decide +kernel
theorem dX12_drawn_21 : decode cX12_drawn 21 = .ok (.invokevirtual 230, 3) := by decide +kernel
theorem dX12_drawn_24 : decode cX12_drawn 24 = .ok (.iconst 0, 1) := by decide +kernel
theorem dX12_drawn_25 : decode cX12_drawn 25 = .ok (.istore_n 1, 1) := by decide +kernel
theorem dX12_drawn_26 : decode cX12_drawn 26 = .ok (.iconst 0, 1) := by decide +kernel
theorem dX12_drawn_27 : decode cX12_drawn 27 = .ok (.istore_n 2, 1) := by decide +kernel
theorem dX12_drawn_28 : decode cX12_drawn 28 = .ok (.iload_n 2, 1) := by decide +kernel
theorem dX12_drawn_29 : decode cX12_drawn 29 = .ok (.aload_n 0, 1) := by decide +kernel
theorem dX12_drawn_30 : decode cX12_drawn 30 = .ok (.getfield 16, 3) := by decide +kernel
theorem dX12_drawn_33 : decode cX12_drawn 33 = .ok (.iconst 0, 1) := by decide +kernel
theorem dX12_drawn_34 : decode cX12_drawn 34 = .ok (.iaload, 1) := by decide +kernel
theorem dX12_drawn_35 : decode cX12_drawn 35 = .ok (.if_icmp .ge 16, 3) := by decide +kernel
theorem dX12_drawn_38 : decode cX12_drawn 38 = .ok (.aload_n 0, 1) := by decide +kernel
theorem dX12_drawn_39 : decode cX12_drawn 39 = .ok (.getfield 51, 3) := by decide +kernel
theorem dX12_drawn_42 : decode cX12_drawn 42 = .ok (.iload_n 2, 1) := by decide +kernel
theorem dX12_drawn_43 : decode cX12_drawn 43 = .ok (.iconst (-1), 1) := by decide +kernel
theorem dX12_drawn_44 : decode cX12_drawn 44 = .ok (.iastore, 1) := by decide +kernel
theorem dX12_drawn_45 : decode cX12_drawn 45 = .ok (.iinc 2 1, 3) := by decide +kernel
theorem dX12_drawn_48 : decode cX12_drawn 48 = .ok (.goto (-20), 3) := by decide +kernel
theorem dX12_drawn_51 : decode cX12_drawn 51 = .ok (.iconst 0, 1) := by decide +kernel
theorem dX12_drawn_52 : decode cX12_drawn 52 = .ok (.istore_n 2, 1) := by decide +kernel
theorem dX12_drawn_53 : decode cX12_drawn 53 = .ok (.iload_n 2, 1) := by decide +kernel
theorem dX12_drawn_54 : decode cX12_drawn 54 = .ok (.aload_n 0, 1) := by decide +kernel
theorem dX12_drawn_55 : decode cX12_drawn 55 = .ok (.getfield 16, 3) := by decide +kernel
theorem dX12_drawn_58 : decode cX12_drawn 58 = .ok (.iconst 0, 1) := by decide +kernel
theorem dX12_drawn_59 : decode cX12_drawn 59 = .ok (.iaload, 1) := by decide +kernel
theorem dX12_drawn_60 : decode cX12_drawn 60 = .ok (.if_icmp .ge 118, 3) := by decide +kernel
theorem dX12_drawn_63 : decode cX12_drawn 63 = .ok (.iconst 0, 1) := by decide +kernel
theorem dX12_drawn_64 : decode cX12_drawn 64 = .ok (.istore_n 3, 1) := by decide +kernel
theorem dX12_drawn_65 : decode cX12_drawn 65 = .ok (.iconst 0, 1) := by decide +kernel
theorem dX12_drawn_66 : decode cX12_drawn 66 = .ok (.istore 4, 2) := by decide +kernel
theorem dX12_drawn_68 : decode cX12_drawn 68 = .ok (.iload 4, 2) := by decide +kernel
theorem dX12_drawn_70 : decode cX12_drawn 70 = .ok (.aload_n 0, 1) := by decide +kernel
theorem dX12_drawn_71 : decode cX12_drawn 71 = .ok (.getfield 16, 3) := by decide +kernel
theorem dX12_drawn_74 : decode cX12_drawn 74 = .ok (.iconst 5, 1) := by decide +kernel
theorem dX12_drawn_75 : decode cX12_drawn 75 = .ok (.iload_n 2, 1) := by decide +kernel
theorem dX12_drawn_76 : decode cX12_drawn 76 = .ok (.iadd, 1) := by decide +kernel
theorem dX12_drawn_77 : decode cX12_drawn 77 = .ok (.iaload, 1) := by decide +kernel
theorem dX12_drawn_78 : decode cX12_drawn 78 = .ok (.if_icmp .ge 27, 3) := by decide +kernel
theorem dX12_drawn_81 : decode cX12_drawn 81 = .ok (.iload_n 3, 1) := by decide +kernel
theorem dX12_drawn_82 : decode cX12_drawn 82 = .ok (.aload_n 0, 1) := by decide +kernel
theorem dX12_drawn_83 : decode cX12_drawn 83 = .ok (.iload_n 2, 1) := by decide +kernel
theorem dX12_drawn_84 : decode cX12_drawn 84 = .ok (.iload 4, 2) := by decide +kernel
theorem dX12_drawn_86 : decode cX12_drawn 86 = .ok (.invokevirtual 314, 3) := by decide +kernel
theorem dX12_drawn_89 : decode cX12_drawn 89 = .ok (.ifCond .eq 7, 3) := by decide +kernel
theorem dX12_drawn_92 : decode cX12_drawn 92 = .ok (.iconst 1, 1) := by decide +kernel
theorem dX12_drawn_93 : decode cX12_drawn 93 = .ok (.goto 4, 3) := by decide +kernel
theorem dX12_drawn_96 : decode cX12_drawn 96 = .ok (.iconst 0, 1) := by decide +kernel
theorem dX12_drawn_97 : decode cX12_drawn 97 = .ok (.iadd, 1) := by decide +kernel
theorem dX12_drawn_98 : decode cX12_drawn 98 = .ok (.istore_n 3, 1) := by decide +kernel
theorem dX12_drawn_99 : decode cX12_drawn 99 = .ok (.iinc 4 1, 3) := by decide +kernel
theorem dX12_drawn_102 : decode cX12_drawn 102 = .ok (.goto (-34), 3) := by decide +kernel
theorem dX12_drawn_105 : decode cX12_drawn 105 = .ok (.aload_n 0, 1) := by decide +kernel
theorem dX12_drawn_106 : decode cX12_drawn 106 = .ok (.iload_n 3, 1) := by decide +kernel
theorem dX12_drawn_107 : decode cX12_drawn 107 = .ok (.invokevirtual 317, 3) := by decide +kernel
theorem dX12_drawn_110 : decode cX12_drawn 110 = .ok (.istore 4, 2) := by decide +kernel
theorem dX12_drawn_112 : decode cX12_drawn 112 = .ok (.iconst 0, 1) := by decide +kernel
theorem dX12_drawn_113 : decode cX12_drawn 113 = .ok (.istore 5, 2) := by decide +kernel
theorem dX12_drawn_115 : decode cX12_drawn 115 = .ok (.aload_n 0, 1) := by decide +kernel
theorem dX12_drawn_116 : decode cX12_drawn 116 = .ok (.iload_n 2, 1) := by decide +kernel
theorem dX12_drawn_117 : decode cX12_drawn 117 = .ok (.iload 5, 2) := by decide +kernel
theorem dX12_drawn_119 : decode cX12_drawn 119 = .ok (.invokevirtual 314, 3) := by decide +kernel
theorem dX12_drawn_122 : decode cX12_drawn 122 = .ok (.ifCond .eq 8, 3) := by decide +kernel
theorem dX12_drawn_125 : decode cX12_drawn 125 = .ok (.iload 4, 2) := by decide +kernel
theorem dX12_drawn_127 : decode cX12_drawn 127 = .ok (.ifCond .le 29, 3) := by decide +kernel
theorem dX12_drawn_130 : decode cX12_drawn 130 = .ok (.iload 4, 2) := by decide +kernel
theorem dX12_drawn_132 : decode cX12_drawn 132 = .ok (.aload_n 0, 1) := by decide +kernel
theorem dX12_drawn_133 : decode cX12_drawn 133 = .ok (.iload_n 2, 1) := by decide +kernel
theorem dX12_drawn_134 : decode cX12_drawn 134 = .ok (.iload 5, 2) := by decide +kernel
theorem dX12_drawn_136 : decode cX12_drawn 136 = .ok (.invokevirtual 314, 3) := by decide +kernel
theorem dX12_drawn_139 : decode cX12_drawn 139 = .ok (.ifCond .eq 7, 3) := by decide +kernel
theorem dX12_drawn_142 : decode cX12_drawn 142 = .ok (.iconst 1, 1) := by decide +kernel
theorem dX12_drawn_143 : decode cX12_drawn 143 = .ok (.goto 4, 3) := by decide +kernel
theorem dX12_drawn_146 : decode cX12_drawn 146 = .ok (.iconst 0, 1) := by decide +kernel
theorem dX12_drawn_147 : decode cX12_drawn 147 = .ok (.isub, 1) := by decide +kernel
theorem dX12_drawn_148 : decode cX12_drawn 148 = .ok (.istore 4, 2) := by decide +kernel
theorem dX12_drawn_150 : decode cX12_drawn 150 = .ok (.iinc 5 1, 3) := by decide +kernel
theorem dX12_drawn_153 : decode cX12_drawn 153 = .ok (.goto (-38), 3) := by decide +kernel
theorem dX12_drawn_156 : decode cX12_drawn 156 = .ok (.aload_n 0, 1) := by decide +kernel
theorem dX12_drawn_157 : decode cX12_drawn 157 = .ok (.getfield 51, 3) := by decide +kernel
theorem dX12_drawn_160 : decode cX12_drawn 160 = .ok (.iload_n 2, 1) := by decide +kernel
theorem dX12_drawn_161 : decode cX12_drawn 161 = .ok (.iload 5, 2) := by decide +kernel
theorem dX12_drawn_163 : decode cX12_drawn 163 = .ok (.iastore, 1) := by decide +kernel
theorem dX12_drawn_164 : decode cX12_drawn 164 = .ok (.bipush 10, 2) := by decide +kernel
theorem dX12_drawn_166 : decode cX12_drawn 166 = .ok (.iload_n 1, 1) := by decide +kernel
theorem dX12_drawn_167 : decode cX12_drawn 167 = .ok (.imul, 1) := by decide +kernel
theorem dX12_drawn_168 : decode cX12_drawn 168 = .ok (.iload 5, 2) := by decide +kernel
theorem dX12_drawn_170 : decode cX12_drawn 170 = .ok (.iadd, 1) := by decide +kernel
theorem dX12_drawn_171 : decode cX12_drawn 171 = .ok (.istore_n 1, 1) := by decide +kernel
theorem dX12_drawn_172 : decode cX12_drawn 172 = .ok (.iinc 2 1, 3) := by decide +kernel
theorem dX12_drawn_175 : decode cX12_drawn 175 = .ok (.goto (-122), 3) := by decide +kernel
theorem dX12_drawn_178 : decode cX12_drawn 178 = .ok (.aload_n 0, 1) := by decide +kernel
theorem dX12_drawn_179 : decode cX12_drawn 179 = .ok (.aload_n 0, 1) := by decide +kernel
theorem dX12_drawn_180 : decode cX12_drawn 180 = .ok (.getfield 51, 3) := by decide +kernel
theorem dX12_drawn_183 : decode cX12_drawn 183 = .ok (.invokevirtual 233, 3) := by decide +kernel
theorem dX12_drawn_186 : decode cX12_drawn 186 = .ok (.iload_n 1, 1) := by decide +kernel
theorem dX12_drawn_187 : decode cX12_drawn 187 = .ok (.ireturn, 1) := by decide +kernel
theorem dX12_draws_0 : decode cX12_draws 0 = .ok (.iload_n 1, 1) := by decide +kernel
theorem dX12_draws_1 : decode cX12_draws 1 = .ok (.ifCond .ge 5, 3) := by decide +kernel
theorem dX12_draws_4 : decode cX12_draws 4 = .ok (.iconst (-1), 1) := by decide +kernel
theorem dX12_draws_5 : decode cX12_draws 5 = .ok (.ireturn, 1) := by decide +kernel
theorem dX12_draws_6 : decode cX12_draws 6 = .ok (.aload_n 0, 1) := by decide +kernel
theorem dX12_draws_7 : decode cX12_draws 7 = .ok (.getfield 16, 3) := by decide +kernel
theorem dX12_draws_10 : decode cX12_draws 10 = .ok (.iconst 4, 1) := by decide +kernel
theorem dX12_draws_11 : decode cX12_draws 11 = .ok (.iaload, 1) := by decide +kernel
theorem dX12_draws_12 : decode cX12_draws 12 = .ok (.istore_n 2, 1) := by decide +kernel
theorem dX12_draws_13 : decode cX12_draws 13 = .ok (.aload_n 0, 1) := by decide +kernel
theorem dX12_draws_14 : decode cX12_draws 14 = .ok (.getfield 16, 3) := by decide +kernel
theorem dX12_draws_17 : decode cX12_draws 17 = .ok (.iconst 4, 1) := by decide +kernel
theorem dX12_draws_18 : decode cX12_draws 18 = .ok (.iload_n 1, 1) := by decide +kernel
theorem dX12_draws_19 : decode cX12_draws 19 = .ok (.iastore, 1) := by decide +kernel
theorem dX12_draws_20 : decode cX12_draws 20 = .ok (.iload_n 2, 1) := by decide +kernel
theorem dX12_draws_21 : decode cX12_draws 21 = .ok (.ireturn, 1) := by decide +kernel
theorem dX12_gain_0 : decode cX12_gain 0 = .ok (.aload_n 0, 1) := by decide +kernel
theorem dX12_gain_1 : decode cX12_gain 1 = .ok (.iload_n 1, 1) := by decide +kernel
theorem dX12_gain_2 : decode cX12_gain 2 = .ok (.invokevirtual 236, 3) := by decide +kernel
theorem dX12_gain_5 : decode cX12_gain 5 = .ok (.ifCond .eq 11, 3) := by decide +kernel
theorem dX12_gain_8 : decode cX12_gain 8 = .ok (.aload_n 0, 1) := by decide +kernel
theorem dX12_gain_9 : decode cX12_gain 9 = .ok (.iload_n 1, 1) := by decide +kernel
theorem dX12_gain_10 : decode cX12_gain 10 = .ok (.invokevirtual 271, 3) := by decide +kernel
theorem dX12_gain_13 : decode cX12_gain 13 = .ok (.goto 4, 3) := by decide +kernel
theorem dX12_gain_16 : decode cX12_gain 16 = .ok (.iconst (-1), 1) := by decide +kernel
theorem dX12_gain_17 : decode cX12_gain 17 = .ok (.ireturn, 1) := by decide +kernel
theorem dX12_least_0 : decode cX12_least 0 = .ok (.aload_n 0, 1) := by decide +kernel
theorem dX12_least_1 : decode cX12_least 1 = .ok (.invokevirtual 212, 3) := by decide +kernel
theorem dX12_least_4 : decode cX12_least 4 = .ok (.ifCond .ne 5, 3) := by decide +kernel
theorem dX12_least_7 : decode cX12_least 7 = .ok (.iconst (-1), 1) := by decide +kernel
theorem dX12_least_8 : decode cX12_least 8 = .ok (.ireturn, 1) := by decide +kernel
theorem dX12_least_9 : decode cX12_least 9 = .ok (.iconst 0, 1) := by decide +kernel
theorem dX12_least_10 : decode cX12_least 10 = .ok (.istore_n 1, 1) := by decide +kernel
theorem dX12_least_11 : decode cX12_least 11 = .ok (.iconst 0, 1) := by decide +kernel
theorem dX12_least_12 : decode cX12_least 12 = .ok (.istore_n 2, 1) := by decide +kernel
theorem dX12_least_13 : decode cX12_least 13 = .ok (.iconst 0, 1) := by decide +kernel
theorem dX12_least_14 : decode cX12_least 14 = .ok (.istore_n 3, 1) := by decide +kernel
theorem dX12_least_15 : decode cX12_least 15 = .ok (.iload_n 3, 1) := by decide +kernel
theorem dX12_least_16 : decode cX12_least 16 = .ok (.aload_n 0, 1) := by decide +kernel
theorem dX12_least_17 : decode cX12_least 17 = .ok (.getfield 168, 3) := by decide +kernel
theorem dX12_least_20 : decode cX12_least 20 = .ok (.if_icmp .ge 116, 3) := by decide +kernel
theorem dX12_least_23 : decode cX12_least 23 = .ok (.iload_n 3, 1) := by decide +kernel
theorem dX12_least_24 : decode cX12_least 24 = .ok (.ifCond .le 7, 3) := by decide +kernel
theorem dX12_least_27 : decode cX12_least 27 = .ok (.iconst 1, 1) := by decide +kernel
theorem dX12_least_28 : decode cX12_least 28 = .ok (.goto 4, 3) := by decide +kernel
theorem dX12_least_31 : decode cX12_least 31 = .ok (.iconst 0, 1) := by decide +kernel
theorem dX12_least_32 : decode cX12_least 32 = .ok (.istore 4, 2) := by decide +kernel
theorem dX12_least_34 : decode cX12_least 34 = .ok (.iconst 0, 1) := by decide +kernel
theorem dX12_least_35 : decode cX12_least 35 = .ok (.istore 5, 2) := by decide +kernel
theorem dX12_least_37 : decode cX12_least 37 = .ok (.iload 5, 2) := by decide +kernel
theorem dX12_least_39 : decode cX12_least 39 = .ok (.aload_n 0, 1) := by decide +kernel
theorem dX12_least_40 : decode cX12_least 40 = .ok (.getfield 16, 3) := by decide +kernel
theorem dX12_least_43 : decode cX12_least 43 = .ok (.iconst 1, 1) := by decide +kernel
theorem dX12_least_44 : decode cX12_least 44 = .ok (.iaload, 1) := by decide +kernel
theorem dX12_least_45 : decode cX12_least 45 = .ok (.if_icmp .ge 48, 3) := by decide +kernel
theorem dX12_least_48 : decode cX12_least 48 = .ok (.iload 4, 2) := by decide +kernel
theorem dX12_least_50 : decode cX12_least 50 = .ok (.ifCond .eq 43, 3) := by decide +kernel
theorem dX12_least_53 : decode cX12_least 53 = .ok (.aload_n 0, 1) := by decide +kernel
theorem dX12_least_54 : decode cX12_least 54 = .ok (.getfield 32, 3) := by decide +kernel
theorem dX12_least_57 : decode cX12_least 57 = .ok (.iconst 3, 1) := by decide +kernel
theorem dX12_least_58 : decode cX12_least 58 = .ok (.iload_n 3, 1) := by decide +kernel
theorem dX12_least_59 : decode cX12_least 59 = .ok (.imul, 1) := by decide +kernel
theorem dX12_least_60 : decode cX12_least 60 = .ok (.iload 5, 2) := by decide +kernel
theorem dX12_least_62 : decode cX12_least 62 = .ok (.iadd, 1) := by decide +kernel
theorem dX12_least_63 : decode cX12_least 63 = .ok (.iaload, 1) := by decide +kernel
theorem dX12_least_64 : decode cX12_least 64 = .ok (.aload_n 0, 1) := by decide +kernel
theorem dX12_least_65 : decode cX12_least 65 = .ok (.getfield 32, 3) := by decide +kernel
theorem dX12_least_68 : decode cX12_least 68 = .ok (.iconst 3, 1) := by decide +kernel
theorem dX12_least_69 : decode cX12_least 69 = .ok (.iload_n 3, 1) := by decide +kernel
theorem dX12_least_70 : decode cX12_least 70 = .ok (.imul, 1) := by decide +kernel
theorem dX12_least_71 : decode cX12_least 71 = .ok (.iconst 3, 1) := by decide +kernel
theorem dX12_least_72 : decode cX12_least 72 = .ok (.isub, 1) := by decide +kernel
theorem dX12_least_73 : decode cX12_least 73 = .ok (.iload 5, 2) := by decide +kernel
theorem dX12_least_75 : decode cX12_least 75 = .ok (.iadd, 1) := by decide +kernel
theorem dX12_least_76 : decode cX12_least 76 = .ok (.iaload, 1) := by decide +kernel
theorem dX12_least_77 : decode cX12_least 77 = .ok (.if_icmp .ne 7, 3) := by decide +kernel
theorem dX12_least_80 : decode cX12_least 80 = .ok (.iconst 1, 1) := by decide +kernel
theorem dX12_least_81 : decode cX12_least 81 = .ok (.goto 4, 3) := by decide +kernel
theorem dX12_least_84 : decode cX12_least 84 = .ok (.iconst 0, 1) := by decide +kernel
theorem dX12_least_85 : decode cX12_least 85 = .ok (.istore 4, 2) := by decide +kernel
theorem dX12_least_87 : decode cX12_least 87 = .ok (.iinc 5 1, 3) := by decide +kernel
theorem dX12_least_90 : decode cX12_least 90 = .ok (.goto (-53), 3) := by decide +kernel
theorem dX12_least_93 : decode cX12_least 93 = .ok (.iload 4, 2) := by decide +kernel
theorem dX12_least_95 : decode cX12_least 95 = .ok (.ifCond .eq 7, 3) := by decide +kernel
theorem dX12_least_98 : decode cX12_least 98 = .ok (.iload_n 2, 1) := by decide +kernel
theorem dX12_least_99 : decode cX12_least 99 = .ok (.goto 4, 3) := by decide +kernel
theorem dX12_least_102 : decode cX12_least 102 = .ok (.iconst 0, 1) := by decide +kernel
theorem dX12_least_103 : decode cX12_least 103 = .ok (.aload_n 0, 1) := by decide +kernel
theorem dX12_least_104 : decode cX12_least 104 = .ok (.getfield 38, 3) := by decide +kernel
theorem dX12_least_107 : decode cX12_least 107 = .ok (.iload_n 3, 1) := by decide +kernel
theorem dX12_least_108 : decode cX12_least 108 = .ok (.baload, 1) := by decide +kernel
theorem dX12_least_109 : decode cX12_least 109 = .ok (.ifCond .eq 7, 3) := by decide +kernel
theorem dX12_least_112 : decode cX12_least 112 = .ok (.iconst 1, 1) := by decide +kernel
theorem dX12_least_113 : decode cX12_least 113 = .ok (.goto 4, 3) := by decide +kernel
theorem dX12_least_116 : decode cX12_least 116 = .ok (.iconst 0, 1) := by decide +kernel
theorem dX12_least_117 : decode cX12_least 117 = .ok (.iadd, 1) := by decide +kernel
theorem dX12_least_118 : decode cX12_least 118 = .ok (.istore_n 2, 1) := by decide +kernel
theorem dX12_least_119 : decode cX12_least 119 = .ok (.iload_n 2, 1) := by decide +kernel
theorem dX12_least_120 : decode cX12_least 120 = .ok (.iload_n 1, 1) := by decide +kernel
theorem dX12_least_121 : decode cX12_least 121 = .ok (.if_icmp .le 7, 3) := by decide +kernel
theorem dX12_least_124 : decode cX12_least 124 = .ok (.iload_n 2, 1) := by decide +kernel
theorem dX12_least_125 : decode cX12_least 125 = .ok (.goto 4, 3) := by decide +kernel
theorem dX12_least_128 : decode cX12_least 128 = .ok (.iload_n 1, 1) := by decide +kernel
theorem dX12_least_129 : decode cX12_least 129 = .ok (.istore_n 1, 1) := by decide +kernel
theorem dX12_least_130 : decode cX12_least 130 = .ok (.iinc 3 1, 3) := by decide +kernel
theorem dX12_least_133 : decode cX12_least 133 = .ok (.goto (-118), 3) := by decide +kernel
theorem dX12_least_136 : decode cX12_least 136 = .ok (.iload_n 1, 1) := by decide +kernel
theorem dX12_least_137 : decode cX12_least 137 = .ok (.ireturn, 1) := by decide +kernel
theorem dX12_lawful_0 : decode cX12_lawful 0 = .ok (.aload_n 0, 1) := by decide +kernel
theorem dX12_lawful_1 : decode cX12_lawful 1 = .ok (.iload_n 1, 1) := by decide +kernel
theorem dX12_lawful_2 : decode cX12_lawful 2 = .ok (.invokevirtual 223, 3) := by decide +kernel
theorem dX12_lawful_5 : decode cX12_lawful 5 = .ok (.ifCond .ne 5, 3) := by decide +kernel
theorem dX12_lawful_8 : decode cX12_lawful 8 = .ok (.iconst (-1), 1) := by decide +kernel
theorem dX12_lawful_9 : decode cX12_lawful 9 = .ok (.ireturn, 1) := by decide +kernel
theorem dX12_lawful_10 : decode cX12_lawful 10 = .ok (.aload_n 0, 1) := by decide +kernel
theorem dX12_lawful_11 : decode cX12_lawful 11 = .ok (.aload_n 0, 1) := by decide +kernel
theorem dX12_lawful_12 : decode cX12_lawful 12 = .ok (.getfield 48, 3) := by decide +kernel
theorem dX12_lawful_15 : decode cX12_lawful 15 = .ok (.invokevirtual 226, 3) := by decide +kernel
theorem dX12_lawful_18 : decode cX12_lawful 18 = .ok (.aload_n 0, 1) := by decide +kernel
theorem dX12_lawful_19 : decode cX12_lawful 19 = .ok (.iconst 0, 1) := by decide +kernel
theorem dX12_lawful_20 : decode cX12_lawful 20 = .ok (.invokevirtual 182, 3) := by decide +kernel
theorem dX12_lawful_23 : decode cX12_lawful 23 = .ok (.ireturn, 1) := by decide +kernel
theorem dX12_result_0 : decode cX12_result 0 = .ok (.aload_n 0, 1) := by decide +kernel
theorem dX12_result_1 : decode cX12_result 1 = .ok (.iload_n 1, 1) := by decide +kernel
theorem dX12_result_2 : decode cX12_result 2 = .ok (.invokevirtual 236, 3) := by decide +kernel
theorem dX12_result_5 : decode cX12_result 5 = .ok (.ifCond .eq 15, 3) := by decide +kernel
theorem dX12_result_8 : decode cX12_result 8 = .ok (.iload_n 2, 1) := by decide +kernel
theorem dX12_result_9 : decode cX12_result 9 = .ok (.i2l, 1) := by decide +kernel
theorem dX12_result_10 : decode cX12_result 10 = .ok (.lconst 0, 1) := by decide +kernel
theorem dX12_result_11 : decode cX12_result 11 = .ok (.ldc2_w 123, 3) := by decide +kernel
theorem dX12_result_14 : decode cX12_result 14 = .ok (.invokestatic 73, 3) := by decide +kernel
theorem dX12_result_17 : decode cX12_result 17 = .ok (.ifCond .ne 5, 3) := by decide +kernel
theorem dX12_result_20 : decode cX12_result 20 = .ok (.iconst (-1), 1) := by decide +kernel
theorem dX12_result_21 : decode cX12_result 21 = .ok (.ireturn, 1) := by decide +kernel
theorem dX12_result_22 : decode cX12_result 22 = .ok (.aload_n 0, 1) := by decide +kernel
theorem dX12_result_23 : decode cX12_result 23 = .ok (.getfield 16, 3) := by decide +kernel
theorem dX12_result_26 : decode cX12_result 26 = .ok (.bipush 97, 2) := by decide +kernel
theorem dX12_result_28 : decode cX12_result 28 = .ok (.iload_n 1, 1) := by decide +kernel
theorem dX12_result_29 : decode cX12_result 29 = .ok (.iadd, 1) := by decide +kernel
theorem dX12_result_30 : decode cX12_result 30 = .ok (.iaload, 1) := by decide +kernel
theorem dX12_result_31 : decode cX12_result 31 = .ok (.istore_n 3, 1) := by decide +kernel
theorem dX12_result_32 : decode cX12_result 32 = .ok (.iload_n 3, 1) := by decide +kernel
theorem dX12_result_33 : decode cX12_result 33 = .ok (.iload_n 2, 1) := by decide +kernel
theorem dX12_result_34 : decode cX12_result 34 = .ok (.if_icmp .ne 6, 3) := by decide +kernel
theorem dX12_result_37 : decode cX12_result 37 = .ok (.bipush (-2), 2) := by decide +kernel
theorem dX12_result_39 : decode cX12_result 39 = .ok (.ireturn, 1) := by decide +kernel
theorem dX12_result_40 : decode cX12_result 40 = .ok (.aload_n 0, 1) := by decide +kernel
theorem dX12_result_41 : decode cX12_result 41 = .ok (.invokevirtual 230, 3) := by decide +kernel
theorem dX12_result_44 : decode cX12_result 44 = .ok (.aload_n 0, 1) := by decide +kernel
theorem dX12_result_45 : decode cX12_result 45 = .ok (.getfield 16, 3) := by decide +kernel
theorem dX12_result_48 : decode cX12_result 48 = .ok (.bipush 97, 2) := by decide +kernel
theorem dX12_result_50 : decode cX12_result 50 = .ok (.iload_n 1, 1) := by decide +kernel
theorem dX12_result_51 : decode cX12_result 51 = .ok (.iadd, 1) := by decide +kernel
theorem dX12_result_52 : decode cX12_result 52 = .ok (.iload_n 2, 1) := by decide +kernel
theorem dX12_result_53 : decode cX12_result 53 = .ok (.iastore, 1) := by decide +kernel
theorem dX12_result_54 : decode cX12_result 54 = .ok (.iload_n 3, 1) := by decide +kernel
theorem dX12_result_55 : decode cX12_result 55 = .ok (.ireturn, 1) := by decide +kernel
theorem dX12_hasLevels_0 : decode cX12_hasLevels 0 = .ok (.iconst 0, 1) := by decide +kernel
theorem dX12_hasLevels_1 : decode cX12_hasLevels 1 = .ok (.istore 4, 2) := by decide +kernel
theorem dX12_hasLevels_3 : decode cX12_hasLevels 3 = .ok (.iload 4, 2) := by decide +kernel
theorem dX12_hasLevels_5 : decode cX12_hasLevels 5 = .ok (.iload_n 3, 1) := by decide +kernel
theorem dX12_hasLevels_6 : decode cX12_hasLevels 6 = .ok (.if_icmp .ge 34, 3) := by decide +kernel
theorem dX12_hasLevels_9 : decode cX12_hasLevels 9 = .ok (.aload_n 0, 1) := by decide +kernel
theorem dX12_hasLevels_10 : decode cX12_hasLevels 10 = .ok (.iload_n 1, 1) := by decide +kernel
theorem dX12_hasLevels_11 : decode cX12_hasLevels 11 = .ok (.aload_n 0, 1) := by decide +kernel
theorem dX12_hasLevels_12 : decode cX12_hasLevels 12 = .ok (.getfield 42, 3) := by decide +kernel
theorem dX12_hasLevels_15 : decode cX12_hasLevels 15 = .ok (.iload 4, 2) := by decide +kernel
theorem dX12_hasLevels_17 : decode cX12_hasLevels 17 = .ok (.iaload, 1) := by decide +kernel
theorem dX12_hasLevels_18 : decode cX12_hasLevels 18 = .ok (.invokevirtual 200, 3) := by decide +kernel
theorem dX12_hasLevels_21 : decode cX12_hasLevels 21 = .ok (.aload_n 0, 1) := by decide +kernel
theorem dX12_hasLevels_22 : decode cX12_hasLevels 22 = .ok (.iload_n 2, 1) := by decide +kernel
theorem dX12_hasLevels_23 : decode cX12_hasLevels 23 = .ok (.iload 4, 2) := by decide +kernel
theorem dX12_hasLevels_25 : decode cX12_hasLevels 25 = .ok (.iload_n 3, 1) := by decide +kernel
theorem dX12_hasLevels_26 : decode cX12_hasLevels 26 = .ok (.invokevirtual 193, 3) := by decide +kernel
theorem dX12_hasLevels_29 : decode cX12_hasLevels 29 = .ok (.if_icmp .eq 5, 3) := by decide +kernel
theorem dX12_hasLevels_32 : decode cX12_hasLevels 32 = .ok (.iconst 0, 1) := by decide +kernel
theorem dX12_hasLevels_33 : decode cX12_hasLevels 33 = .ok (.ireturn, 1) := by decide +kernel
theorem dX12_hasLevels_34 : decode cX12_hasLevels 34 = .ok (.iinc 4 1, 3) := by decide +kernel
theorem dX12_hasLevels_37 : decode cX12_hasLevels 37 = .ok (.goto (-34), 3) := by decide +kernel
theorem dX12_hasLevels_40 : decode cX12_hasLevels 40 = .ok (.iconst 1, 1) := by decide +kernel
theorem dX12_hasLevels_41 : decode cX12_hasLevels 41 = .ok (.ireturn, 1) := by decide +kernel
theorem dX12_isGuilty_0 : decode cX12_isGuilty 0 = .ok (.iconst 0, 1) := by decide +kernel
theorem dX12_isGuilty_1 : decode cX12_isGuilty 1 = .ok (.istore_n 3, 1) := by decide +kernel
theorem dX12_isGuilty_2 : decode cX12_isGuilty 2 = .ok (.iconst 0, 1) := by decide +kernel
theorem dX12_isGuilty_3 : decode cX12_isGuilty 3 = .ok (.istore 4, 2) := by decide +kernel
theorem dX12_isGuilty_5 : decode cX12_isGuilty 5 = .ok (.iload 4, 2) := by decide +kernel
theorem dX12_isGuilty_7 : decode cX12_isGuilty 7 = .ok (.aload_n 0, 1) := by decide +kernel
theorem dX12_isGuilty_8 : decode cX12_isGuilty 8 = .ok (.getfield 16, 3) := by decide +kernel
theorem dX12_isGuilty_11 : decode cX12_isGuilty 11 = .ok (.iconst 3, 1) := by decide +kernel
theorem dX12_isGuilty_12 : decode cX12_isGuilty 12 = .ok (.iaload, 1) := by decide +kernel
theorem dX12_isGuilty_13 : decode cX12_isGuilty 13 = .ok (.if_icmp .ge 69, 3) := by decide +kernel
theorem dX12_isGuilty_16 : decode cX12_isGuilty 16 = .ok (.aload_n 0, 1) := by decide +kernel
theorem dX12_isGuilty_17 : decode cX12_isGuilty 17 = .ok (.getfield 16, 3) := by decide +kernel
theorem dX12_isGuilty_20 : decode cX12_isGuilty 20 = .ok (.bipush 97, 2) := by decide +kernel
theorem dX12_isGuilty_22 : decode cX12_isGuilty 22 = .ok (.iload 4, 2) := by decide +kernel
theorem dX12_isGuilty_24 : decode cX12_isGuilty 24 = .ok (.iadd, 1) := by decide +kernel
theorem dX12_isGuilty_25 : decode cX12_isGuilty 25 = .ok (.iaload, 1) := by decide +kernel
theorem dX12_isGuilty_26 : decode cX12_isGuilty 26 = .ok (.istore 5, 2) := by decide +kernel
theorem dX12_isGuilty_28 : decode cX12_isGuilty 28 = .ok (.iload 5, 2) := by decide +kernel
theorem dX12_isGuilty_30 : decode cX12_isGuilty 30 = .ok (.ifCond .ne 6, 3) := by decide +kernel
theorem dX12_isGuilty_33 : decode cX12_isGuilty 33 = .ok (.goto 43, 3) := by decide +kernel
theorem dX12_isGuilty_36 : decode cX12_isGuilty 36 = .ok (.aload_n 0, 1) := by decide +kernel
theorem dX12_isGuilty_37 : decode cX12_isGuilty 37 = .ok (.iload 4, 2) := by decide +kernel
theorem dX12_isGuilty_39 : decode cX12_isGuilty 39 = .ok (.iload_n 1, 1) := by decide +kernel
theorem dX12_isGuilty_40 : decode cX12_isGuilty 40 = .ok (.iload_n 2, 1) := by decide +kernel
theorem dX12_isGuilty_41 : decode cX12_isGuilty 41 = .ok (.invokevirtual 320, 3) := by decide +kernel
theorem dX12_isGuilty_44 : decode cX12_isGuilty 44 = .ok (.iload 5, 2) := by decide +kernel
theorem dX12_isGuilty_46 : decode cX12_isGuilty 46 = .ok (.iconst 2, 1) := by decide +kernel
theorem dX12_isGuilty_47 : decode cX12_isGuilty 47 = .ok (.if_icmp .ne 7, 3) := by decide +kernel
theorem dX12_isGuilty_50 : decode cX12_isGuilty 50 = .ok (.iconst 1, 1) := by decide +kernel
theorem dX12_isGuilty_51 : decode cX12_isGuilty 51 = .ok (.goto 4, 3) := by decide +kernel
theorem dX12_isGuilty_54 : decode cX12_isGuilty 54 = .ok (.iconst 0, 1) := by decide +kernel
theorem dX12_isGuilty_55 : decode cX12_isGuilty 55 = .ok (.if_icmp .eq 5, 3) := by decide +kernel
theorem dX12_isGuilty_58 : decode cX12_isGuilty 58 = .ok (.iconst 0, 1) := by decide +kernel
theorem dX12_isGuilty_59 : decode cX12_isGuilty 59 = .ok (.ireturn, 1) := by decide +kernel
theorem dX12_isGuilty_60 : decode cX12_isGuilty 60 = .ok (.iload_n 3, 1) := by decide +kernel
theorem dX12_isGuilty_61 : decode cX12_isGuilty 61 = .ok (.ifCond .ne 9, 3) := by decide +kernel
theorem dX12_isGuilty_64 : decode cX12_isGuilty 64 = .ok (.iload 5, 2) := by decide +kernel
theorem dX12_isGuilty_66 : decode cX12_isGuilty 66 = .ok (.iconst 2, 1) := by decide +kernel
theorem dX12_isGuilty_67 : decode cX12_isGuilty 67 = .ok (.if_icmp .ne 7, 3) := by decide +kernel
theorem dX12_isGuilty_70 : decode cX12_isGuilty 70 = .ok (.iconst 1, 1) := by decide +kernel
theorem dX12_isGuilty_71 : decode cX12_isGuilty 71 = .ok (.goto 4, 3) := by decide +kernel
theorem dX12_isGuilty_74 : decode cX12_isGuilty 74 = .ok (.iconst 0, 1) := by decide +kernel
theorem dX12_isGuilty_75 : decode cX12_isGuilty 75 = .ok (.istore_n 3, 1) := by decide +kernel
theorem dX12_isGuilty_76 : decode cX12_isGuilty 76 = .ok (.iinc 4 1, 3) := by decide +kernel
theorem dX12_isGuilty_79 : decode cX12_isGuilty 79 = .ok (.goto (-74), 3) := by decide +kernel
theorem dX12_isGuilty_82 : decode cX12_isGuilty 82 = .ok (.iload_n 3, 1) := by decide +kernel
theorem dX12_isGuilty_83 : decode cX12_isGuilty 83 = .ok (.ireturn, 1) := by decide +kernel
theorem dX12_guilty_0 : decode cX12_guilty 0 = .ok (.aload_n 0, 1) := by decide +kernel
theorem dX12_guilty_1 : decode cX12_guilty 1 = .ok (.invokevirtual 212, 3) := by decide +kernel
theorem dX12_guilty_4 : decode cX12_guilty 4 = .ok (.ifCond .eq 24, 3) := by decide +kernel
theorem dX12_guilty_7 : decode cX12_guilty 7 = .ok (.iload_n 1, 1) := by decide +kernel
theorem dX12_guilty_8 : decode cX12_guilty 8 = .ok (.i2l, 1) := by decide +kernel
theorem dX12_guilty_9 : decode cX12_guilty 9 = .ok (.lconst 1, 1) := by decide +kernel
theorem dX12_guilty_10 : decode cX12_guilty 10 = .ok (.aload_n 0, 1) := by decide +kernel
theorem dX12_guilty_11 : decode cX12_guilty 11 = .ok (.getfield 16, 3) := by decide +kernel
theorem dX12_guilty_14 : decode cX12_guilty 14 = .ok (.iconst 1, 1) := by decide +kernel
theorem dX12_guilty_15 : decode cX12_guilty 15 = .ok (.iaload, 1) := by decide +kernel
theorem dX12_guilty_16 : decode cX12_guilty 16 = .ok (.i2l, 1) := by decide +kernel
theorem dX12_guilty_17 : decode cX12_guilty 17 = .ok (.invokestatic 73, 3) := by decide +kernel
theorem dX12_guilty_20 : decode cX12_guilty 20 = .ok (.ifCond .eq 8, 3) := by decide +kernel
theorem dX12_guilty_23 : decode cX12_guilty 23 = .ok (.iload_n 2, 1) := by decide +kernel
theorem dX12_guilty_24 : decode cX12_guilty 24 = .ok (.iconst (-1), 1) := by decide +kernel
theorem dX12_guilty_25 : decode cX12_guilty 25 = .ok (.if_icmp .ge 5, 3) := by decide +kernel
theorem dX12_guilty_28 : decode cX12_guilty 28 = .ok (.iconst (-1), 1) := by decide +kernel
theorem dX12_guilty_29 : decode cX12_guilty 29 = .ok (.ireturn, 1) := by decide +kernel
theorem dX12_guilty_30 : decode cX12_guilty 30 = .ok (.iconst 0, 1) := by decide +kernel
theorem dX12_guilty_31 : decode cX12_guilty 31 = .ok (.istore_n 3, 1) := by decide +kernel
theorem dX12_guilty_32 : decode cX12_guilty 32 = .ok (.iconst 0, 1) := by decide +kernel
theorem dX12_guilty_33 : decode cX12_guilty 33 = .ok (.istore 4, 2) := by decide +kernel
theorem dX12_guilty_35 : decode cX12_guilty 35 = .ok (.aload_n 0, 1) := by decide +kernel
theorem dX12_guilty_36 : decode cX12_guilty 36 = .ok (.iload_n 1, 1) := by decide +kernel
theorem dX12_guilty_37 : decode cX12_guilty 37 = .ok (.invokevirtual 186, 3) := by decide +kernel
theorem dX12_guilty_40 : decode cX12_guilty 40 = .ok (.iconst 1, 1) := by decide +kernel
theorem dX12_guilty_41 : decode cX12_guilty 41 = .ok (.istore 5, 2) := by decide +kernel
theorem dX12_guilty_43 : decode cX12_guilty 43 = .ok (.iload 5, 2) := by decide +kernel
theorem dX12_guilty_45 : decode cX12_guilty 45 = .ok (.ifCond .eq 60, 3) := by decide +kernel
theorem dX12_guilty_48 : decode cX12_guilty 48 = .ok (.aload_n 0, 1) := by decide +kernel
theorem dX12_guilty_49 : decode cX12_guilty 49 = .ok (.iload_n 1, 1) := by decide +kernel
theorem dX12_guilty_50 : decode cX12_guilty 50 = .ok (.invokevirtual 190, 3) := by decide +kernel
theorem dX12_guilty_53 : decode cX12_guilty 53 = .ok (.istore 6, 2) := by decide +kernel
theorem dX12_guilty_55 : decode cX12_guilty 55 = .ok (.iconst 0, 1) := by decide +kernel
theorem dX12_guilty_56 : decode cX12_guilty 56 = .ok (.istore 7, 2) := by decide +kernel
theorem dX12_guilty_58 : decode cX12_guilty 58 = .ok (.iload 7, 2) := by decide +kernel
theorem dX12_guilty_60 : decode cX12_guilty 60 = .ok (.iload 6, 2) := by decide +kernel
theorem dX12_guilty_62 : decode cX12_guilty 62 = .ok (.if_icmp .ge 33, 3) := by decide +kernel
theorem dX12_guilty_65 : decode cX12_guilty 65 = .ok (.aload_n 0, 1) := by decide +kernel
theorem dX12_guilty_66 : decode cX12_guilty 66 = .ok (.iload 7, 2) := by decide +kernel
theorem dX12_guilty_68 : decode cX12_guilty 68 = .ok (.iload_n 1, 1) := by decide +kernel
theorem dX12_guilty_69 : decode cX12_guilty 69 = .ok (.invokevirtual 323, 3) := by decide +kernel
theorem dX12_guilty_72 : decode cX12_guilty 72 = .ok (.ifCond .eq 14, 3) := by decide +kernel
theorem dX12_guilty_75 : decode cX12_guilty 75 = .ok (.iload 4, 2) := by decide +kernel
theorem dX12_guilty_77 : decode cX12_guilty 77 = .ok (.iload_n 2, 1) := by decide +kernel
theorem dX12_guilty_78 : decode cX12_guilty 78 = .ok (.if_icmp .ne 5, 3) := by decide +kernel
theorem dX12_guilty_81 : decode cX12_guilty 81 = .ok (.iload_n 3, 1) := by decide +kernel
theorem dX12_guilty_82 : decode cX12_guilty 82 = .ok (.ireturn, 1) := by decide +kernel
theorem dX12_guilty_83 : decode cX12_guilty 83 = .ok (.iinc 4 1, 3) := by decide +kernel
theorem dX12_guilty_86 : decode cX12_guilty 86 = .ok (.iinc 3 1, 3) := by decide +kernel
theorem dX12_guilty_89 : decode cX12_guilty 89 = .ok (.iinc 7 1, 3) := by decide +kernel
theorem dX12_guilty_92 : decode cX12_guilty 92 = .ok (.goto (-34), 3) := by decide +kernel
theorem dX12_guilty_95 : decode cX12_guilty 95 = .ok (.aload_n 0, 1) := by decide +kernel
theorem dX12_guilty_96 : decode cX12_guilty 96 = .ok (.iload_n 1, 1) := by decide +kernel
theorem dX12_guilty_97 : decode cX12_guilty 97 = .ok (.invokevirtual 197, 3) := by decide +kernel
theorem dX12_guilty_100 : decode cX12_guilty 100 = .ok (.istore 5, 2) := by decide +kernel
theorem dX12_guilty_102 : decode cX12_guilty 102 = .ok (.goto (-59), 3) := by decide +kernel
theorem dX12_guilty_105 : decode cX12_guilty 105 = .ok (.iload_n 2, 1) := by decide +kernel
theorem dX12_guilty_106 : decode cX12_guilty 106 = .ok (.iconst (-1), 1) := by decide +kernel
theorem dX12_guilty_107 : decode cX12_guilty 107 = .ok (.if_icmp .ne 8, 3) := by decide +kernel
theorem dX12_guilty_110 : decode cX12_guilty 110 = .ok (.iload 4, 2) := by decide +kernel
theorem dX12_guilty_112 : decode cX12_guilty 112 = .ok (.goto 5, 3) := by decide +kernel
theorem dX12_guilty_115 : decode cX12_guilty 115 = .ok (.bipush (-2), 2) := by decide +kernel
theorem dX12_guilty_117 : decode cX12_guilty 117 = .ok (.ireturn, 1) := by decide +kernel
theorem dX12_guiltyIn_0 : decode cX12_guiltyIn 0 = .ok (.iconst 0, 1) := by decide +kernel
theorem dX12_guiltyIn_1 : decode cX12_guiltyIn 1 = .ok (.istore_n 2, 1) := by decide +kernel
theorem dX12_guiltyIn_2 : decode cX12_guiltyIn 2 = .ok (.aload_n 0, 1) := by decide +kernel
theorem dX12_guiltyIn_3 : decode cX12_guiltyIn 3 = .ok (.aload_n 0, 1) := by decide +kernel
theorem dX12_guiltyIn_4 : decode cX12_guiltyIn 4 = .ok (.getfield 16, 3) := by decide +kernel
theorem dX12_guiltyIn_7 : decode cX12_guiltyIn 7 = .ok (.iconst 1, 1) := by decide +kernel
theorem dX12_guiltyIn_8 : decode cX12_guiltyIn 8 = .ok (.iaload, 1) := by decide +kernel
theorem dX12_guiltyIn_9 : decode cX12_guiltyIn 9 = .ok (.invokevirtual 186, 3) := by decide +kernel
theorem dX12_guiltyIn_12 : decode cX12_guiltyIn 12 = .ok (.iconst 1, 1) := by decide +kernel
theorem dX12_guiltyIn_13 : decode cX12_guiltyIn 13 = .ok (.istore_n 3, 1) := by decide +kernel
theorem dX12_guiltyIn_14 : decode cX12_guiltyIn 14 = .ok (.iload_n 3, 1) := by decide +kernel
theorem dX12_guiltyIn_15 : decode cX12_guiltyIn 15 = .ok (.ifCond .eq 88, 3) := by decide +kernel
theorem dX12_guiltyIn_18 : decode cX12_guiltyIn 18 = .ok (.aload_n 0, 1) := by decide +kernel
theorem dX12_guiltyIn_19 : decode cX12_guiltyIn 19 = .ok (.aload_n 0, 1) := by decide +kernel
theorem dX12_guiltyIn_20 : decode cX12_guiltyIn 20 = .ok (.getfield 16, 3) := by decide +kernel
theorem dX12_guiltyIn_23 : decode cX12_guiltyIn 23 = .ok (.iconst 1, 1) := by decide +kernel
theorem dX12_guiltyIn_24 : decode cX12_guiltyIn 24 = .ok (.iaload, 1) := by decide +kernel
theorem dX12_guiltyIn_25 : decode cX12_guiltyIn 25 = .ok (.invokevirtual 190, 3) := by decide +kernel
theorem dX12_guiltyIn_28 : decode cX12_guiltyIn 28 = .ok (.istore 4, 2) := by decide +kernel
theorem dX12_guiltyIn_30 : decode cX12_guiltyIn 30 = .ok (.iconst 0, 1) := by decide +kernel
theorem dX12_guiltyIn_31 : decode cX12_guiltyIn 31 = .ok (.istore 5, 2) := by decide +kernel
theorem dX12_guiltyIn_33 : decode cX12_guiltyIn 33 = .ok (.iload 5, 2) := by decide +kernel
theorem dX12_guiltyIn_35 : decode cX12_guiltyIn 35 = .ok (.iload 4, 2) := by decide +kernel
theorem dX12_guiltyIn_37 : decode cX12_guiltyIn 37 = .ok (.if_icmp .ge 52, 3) := by decide +kernel
theorem dX12_guiltyIn_40 : decode cX12_guiltyIn 40 = .ok (.iload_n 2, 1) := by decide +kernel
theorem dX12_guiltyIn_41 : decode cX12_guiltyIn 41 = .ok (.aload_n 0, 1) := by decide +kernel
theorem dX12_guiltyIn_42 : decode cX12_guiltyIn 42 = .ok (.iload 5, 2) := by decide +kernel
theorem dX12_guiltyIn_44 : decode cX12_guiltyIn 44 = .ok (.aload_n 0, 1) := by decide +kernel
theorem dX12_guiltyIn_45 : decode cX12_guiltyIn 45 = .ok (.getfield 16, 3) := by decide +kernel
theorem dX12_guiltyIn_48 : decode cX12_guiltyIn 48 = .ok (.iconst 1, 1) := by decide +kernel
theorem dX12_guiltyIn_49 : decode cX12_guiltyIn 49 = .ok (.iaload, 1) := by decide +kernel
theorem dX12_guiltyIn_50 : decode cX12_guiltyIn 50 = .ok (.invokevirtual 323, 3) := by decide +kernel
theorem dX12_guiltyIn_53 : decode cX12_guiltyIn 53 = .ok (.ifCond .eq 27, 3) := by decide +kernel
theorem dX12_guiltyIn_56 : decode cX12_guiltyIn 56 = .ok (.iload_n 1, 1) := by decide +kernel
theorem dX12_guiltyIn_57 : decode cX12_guiltyIn 57 = .ok (.ifCond .lt 19, 3) := by decide +kernel
theorem dX12_guiltyIn_60 : decode cX12_guiltyIn 60 = .ok (.aload_n 0, 1) := by decide +kernel
theorem dX12_guiltyIn_61 : decode cX12_guiltyIn 61 = .ok (.iload_n 1, 1) := by decide +kernel
theorem dX12_guiltyIn_62 : decode cX12_guiltyIn 62 = .ok (.iload 5, 2) := by decide +kernel
theorem dX12_guiltyIn_64 : decode cX12_guiltyIn 64 = .ok (.aload_n 0, 1) := by decide +kernel
theorem dX12_guiltyIn_65 : decode cX12_guiltyIn 65 = .ok (.getfield 16, 3) := by decide +kernel
theorem dX12_guiltyIn_68 : decode cX12_guiltyIn 68 = .ok (.iconst 1, 1) := by decide +kernel
theorem dX12_guiltyIn_69 : decode cX12_guiltyIn 69 = .ok (.iaload, 1) := by decide +kernel
theorem dX12_guiltyIn_70 : decode cX12_guiltyIn 70 = .ok (.invokevirtual 320, 3) := by decide +kernel
theorem dX12_guiltyIn_73 : decode cX12_guiltyIn 73 = .ok (.ifCond .eq 7, 3) := by decide +kernel
theorem dX12_guiltyIn_76 : decode cX12_guiltyIn 76 = .ok (.iconst 1, 1) := by decide +kernel
theorem dX12_guiltyIn_77 : decode cX12_guiltyIn 77 = .ok (.goto 4, 3) := by decide +kernel
theorem dX12_guiltyIn_80 : decode cX12_guiltyIn 80 = .ok (.iconst 0, 1) := by decide +kernel
theorem dX12_guiltyIn_81 : decode cX12_guiltyIn 81 = .ok (.iadd, 1) := by decide +kernel
theorem dX12_guiltyIn_82 : decode cX12_guiltyIn 82 = .ok (.istore_n 2, 1) := by decide +kernel
theorem dX12_guiltyIn_83 : decode cX12_guiltyIn 83 = .ok (.iinc 5 1, 3) := by decide +kernel
theorem dX12_guiltyIn_86 : decode cX12_guiltyIn 86 = .ok (.goto (-53), 3) := by decide +kernel
theorem dX12_guiltyIn_89 : decode cX12_guiltyIn 89 = .ok (.aload_n 0, 1) := by decide +kernel
theorem dX12_guiltyIn_90 : decode cX12_guiltyIn 90 = .ok (.aload_n 0, 1) := by decide +kernel
theorem dX12_guiltyIn_91 : decode cX12_guiltyIn 91 = .ok (.getfield 16, 3) := by decide +kernel
theorem dX12_guiltyIn_94 : decode cX12_guiltyIn 94 = .ok (.iconst 1, 1) := by decide +kernel
theorem dX12_guiltyIn_95 : decode cX12_guiltyIn 95 = .ok (.iaload, 1) := by decide +kernel
theorem dX12_guiltyIn_96 : decode cX12_guiltyIn 96 = .ok (.invokevirtual 197, 3) := by decide +kernel
theorem dX12_guiltyIn_99 : decode cX12_guiltyIn 99 = .ok (.istore_n 3, 1) := by decide +kernel
theorem dX12_guiltyIn_100 : decode cX12_guiltyIn 100 = .ok (.goto (-86), 3) := by decide +kernel
theorem dX12_guiltyIn_103 : decode cX12_guiltyIn 103 = .ok (.iload_n 2, 1) := by decide +kernel
theorem dX12_guiltyIn_104 : decode cX12_guiltyIn 104 = .ok (.ireturn, 1) := by decide +kernel
theorem dX12_ask_0 : decode cX12_ask 0 = .ok (.aload_n 0, 1) := by decide +kernel
theorem dX12_ask_1 : decode cX12_ask 1 = .ok (.invokevirtual 212, 3) := by decide +kernel
theorem dX12_ask_4 : decode cX12_ask 4 = .ok (.ifCond .eq 13, 3) := by decide +kernel
theorem dX12_ask_7 : decode cX12_ask 7 = .ok (.iload_n 1, 1) := by decide +kernel
theorem dX12_ask_8 : decode cX12_ask 8 = .ok (.i2l, 1) := by decide +kernel
theorem dX12_ask_9 : decode cX12_ask 9 = .ok (.lconst 0, 1) := by decide +kernel
theorem dX12_ask_10 : decode cX12_ask 10 = .ok (.lconst 1, 1) := by decide +kernel
theorem dX12_ask_11 : decode cX12_ask 11 = .ok (.invokestatic 73, 3) := by decide +kernel
theorem dX12_ask_14 : decode cX12_ask 14 = .ok (.ifCond .ne 5, 3) := by decide +kernel
theorem dX12_ask_17 : decode cX12_ask 17 = .ok (.iconst (-1), 1) := by decide +kernel
theorem dX12_ask_18 : decode cX12_ask 18 = .ok (.ireturn, 1) := by decide +kernel
theorem dX12_ask_19 : decode cX12_ask 19 = .ok (.aload_n 0, 1) := by decide +kernel
theorem dX12_ask_20 : decode cX12_ask 20 = .ok (.iconst (-1), 1) := by decide +kernel
theorem dX12_ask_21 : decode cX12_ask 21 = .ok (.invokevirtual 326, 3) := by decide +kernel
theorem dX12_ask_24 : decode cX12_ask 24 = .ok (.istore_n 2, 1) := by decide +kernel
theorem dX12_ask_25 : decode cX12_ask 25 = .ok (.iconst (-1), 1) := by decide +kernel
theorem dX12_ask_26 : decode cX12_ask 26 = .ok (.istore_n 3, 1) := by decide +kernel
theorem dX12_ask_27 : decode cX12_ask 27 = .ok (.iconst (-1), 1) := by decide +kernel
theorem dX12_ask_28 : decode cX12_ask 28 = .ok (.istore 4, 2) := by decide +kernel
theorem dX12_ask_30 : decode cX12_ask 30 = .ok (.iconst 0, 1) := by decide +kernel
theorem dX12_ask_31 : decode cX12_ask 31 = .ok (.istore 5, 2) := by decide +kernel
theorem dX12_ask_33 : decode cX12_ask 33 = .ok (.iload 5, 2) := by decide +kernel
theorem dX12_ask_35 : decode cX12_ask 35 = .ok (.aload_n 0, 1) := by decide +kernel
theorem dX12_ask_36 : decode cX12_ask 36 = .ok (.getfield 16, 3) := by decide +kernel
theorem dX12_ask_39 : decode cX12_ask 39 = .ok (.iconst 3, 1) := by decide +kernel
theorem dX12_ask_40 : decode cX12_ask 40 = .ok (.iaload, 1) := by decide +kernel
theorem dX12_ask_41 : decode cX12_ask 41 = .ok (.if_icmp .ge 74, 3) := by decide +kernel
theorem dX12_ask_44 : decode cX12_ask 44 = .ok (.iload_n 2, 1) := by decide +kernel
theorem dX12_ask_45 : decode cX12_ask 45 = .ok (.ifCond .le 70, 3) := by decide +kernel
theorem dX12_ask_48 : decode cX12_ask 48 = .ok (.aload_n 0, 1) := by decide +kernel
theorem dX12_ask_49 : decode cX12_ask 49 = .ok (.getfield 16, 3) := by decide +kernel
theorem dX12_ask_52 : decode cX12_ask 52 = .ok (.bipush 97, 2) := by decide +kernel
theorem dX12_ask_54 : decode cX12_ask 54 = .ok (.iload 5, 2) := by decide +kernel
theorem dX12_ask_56 : decode cX12_ask 56 = .ok (.iadd, 1) := by decide +kernel
theorem dX12_ask_57 : decode cX12_ask 57 = .ok (.iaload, 1) := by decide +kernel
theorem dX12_ask_58 : decode cX12_ask 58 = .ok (.ifCond .eq 6, 3) := by decide +kernel
theorem dX12_ask_61 : decode cX12_ask 61 = .ok (.goto 48, 3) := by decide +kernel
theorem dX12_ask_64 : decode cX12_ask 64 = .ok (.aload_n 0, 1) := by decide +kernel
theorem dX12_ask_65 : decode cX12_ask 65 = .ok (.iload 5, 2) := by decide +kernel
theorem dX12_ask_67 : decode cX12_ask 67 = .ok (.invokevirtual 326, 3) := by decide +kernel
theorem dX12_ask_70 : decode cX12_ask 70 = .ok (.istore 6, 2) := by decide +kernel
theorem dX12_ask_72 : decode cX12_ask 72 = .ok (.iload 6, 2) := by decide +kernel
theorem dX12_ask_74 : decode cX12_ask 74 = .ok (.iload_n 2, 1) := by decide +kernel
theorem dX12_ask_75 : decode cX12_ask 75 = .ok (.iload 6, 2) := by decide +kernel
theorem dX12_ask_77 : decode cX12_ask 77 = .ok (.isub, 1) := by decide +kernel
theorem dX12_ask_78 : decode cX12_ask 78 = .ok (.if_icmp .ge 8, 3) := by decide +kernel
theorem dX12_ask_81 : decode cX12_ask 81 = .ok (.iload 6, 2) := by decide +kernel
theorem dX12_ask_83 : decode cX12_ask 83 = .ok (.goto 7, 3) := by decide +kernel
theorem dX12_ask_86 : decode cX12_ask 86 = .ok (.iload_n 2, 1) := by decide +kernel
theorem dX12_ask_87 : decode cX12_ask 87 = .ok (.iload 6, 2) := by decide +kernel
theorem dX12_ask_89 : decode cX12_ask 89 = .ok (.isub, 1) := by decide +kernel
theorem dX12_ask_90 : decode cX12_ask 90 = .ok (.istore 7, 2) := by decide +kernel
theorem dX12_ask_92 : decode cX12_ask 92 = .ok (.iload 7, 2) := by decide +kernel
theorem dX12_ask_94 : decode cX12_ask 94 = .ok (.iload 4, 2) := by decide +kernel
theorem dX12_ask_96 : decode cX12_ask 96 = .ok (.if_icmp .gt 6, 3) := by decide +kernel
theorem dX12_ask_99 : decode cX12_ask 99 = .ok (.goto 10, 3) := by decide +kernel
theorem dX12_ask_102 : decode cX12_ask 102 = .ok (.iload 5, 2) := by decide +kernel
theorem dX12_ask_104 : decode cX12_ask 104 = .ok (.istore_n 3, 1) := by decide +kernel
theorem dX12_ask_105 : decode cX12_ask 105 = .ok (.iload 7, 2) := by decide +kernel
theorem dX12_ask_107 : decode cX12_ask 107 = .ok (.istore 4, 2) := by decide +kernel
theorem dX12_ask_109 : decode cX12_ask 109 = .ok (.iinc 5 1, 3) := by decide +kernel
theorem dX12_ask_112 : decode cX12_ask 112 = .ok (.goto (-79), 3) := by decide +kernel
theorem dX12_ask_115 : decode cX12_ask 115 = .ok (.iload_n 3, 1) := by decide +kernel
theorem dX12_ask_116 : decode cX12_ask 116 = .ok (.ifCond .ge 8, 3) := by decide +kernel
theorem dX12_ask_119 : decode cX12_ask 119 = .ok (.bipush (-2), 2) := by decide +kernel
theorem dX12_ask_121 : decode cX12_ask 121 = .ok (.goto 13, 3) := by decide +kernel
theorem dX12_ask_124 : decode cX12_ask 124 = .ok (.iload_n 1, 1) := by decide +kernel
theorem dX12_ask_125 : decode cX12_ask 125 = .ok (.ifCond .ne 7, 3) := by decide +kernel
theorem dX12_ask_128 : decode cX12_ask 128 = .ok (.iload_n 3, 1) := by decide +kernel
theorem dX12_ask_129 : decode cX12_ask 129 = .ok (.goto 5, 3) := by decide +kernel
theorem dX12_ask_132 : decode cX12_ask 132 = .ok (.iload 4, 2) := by decide +kernel
theorem dX12_ask_134 : decode cX12_ask 134 = .ok (.ireturn, 1) := by decide +kernel
theorem dX12_keepsAct_0 : decode cX12_keepsAct 0 = .ok (.aload_n 0, 1) := by decide +kernel
theorem dX12_keepsAct_1 : decode cX12_keepsAct 1 = .ok (.getfield 165, 3) := by decide +kernel
theorem dX12_keepsAct_4 : decode cX12_keepsAct 4 = .ok (.bipush 8, 2) := by decide +kernel
theorem dX12_keepsAct_6 : decode cX12_keepsAct 6 = .ok (.if_icmp .ne 46, 3) := by decide +kernel
theorem dX12_keepsAct_9 : decode cX12_keepsAct 9 = .ok (.sipush 673, 3) := by decide +kernel
theorem dX12_keepsAct_12 : decode cX12_keepsAct 12 = .ok (.istore_n 1, 1) := by decide +kernel
theorem dX12_keepsAct_13 : decode cX12_keepsAct 13 = .ok (.iload_n 1, 1) := by decide +kernel
theorem dX12_keepsAct_14 : decode cX12_keepsAct 14 = .ok (.sipush 5384, 3) := by decide +kernel
theorem dX12_keepsAct_17 : decode cX12_keepsAct 17 = .ok (.if_icmp .ge 25, 3) := by decide +kernel
theorem dX12_keepsAct_20 : decode cX12_keepsAct 20 = .ok (.aload_n 0, 1) := by decide +kernel
theorem dX12_keepsAct_21 : decode cX12_keepsAct 21 = .ok (.getfield 60, 3) := by decide +kernel
theorem dX12_keepsAct_24 : decode cX12_keepsAct 24 = .ok (.iload_n 1, 1) := by decide +kernel
theorem dX12_keepsAct_25 : decode cX12_keepsAct 25 = .ok (.sipush 673, 3) := by decide +kernel
theorem dX12_keepsAct_28 : decode cX12_keepsAct 28 = .ok (.isub, 1) := by decide +kernel
theorem dX12_keepsAct_29 : decode cX12_keepsAct 29 = .ok (.aload_n 0, 1) := by decide +kernel
theorem dX12_keepsAct_30 : decode cX12_keepsAct 30 = .ok (.getfield 60, 3) := by decide +kernel
theorem dX12_keepsAct_33 : decode cX12_keepsAct 33 = .ok (.iload_n 1, 1) := by decide +kernel
theorem dX12_keepsAct_34 : decode cX12_keepsAct 34 = .ok (.iaload, 1) := by decide +kernel
theorem dX12_keepsAct_35 : decode cX12_keepsAct 35 = .ok (.iastore, 1) := by decide +kernel
theorem dX12_keepsAct_36 : decode cX12_keepsAct 36 = .ok (.iinc 1 1, 3) := by decide +kernel
theorem dX12_keepsAct_39 : decode cX12_keepsAct 39 = .ok (.goto (-26), 3) := by decide +kernel
theorem dX12_keepsAct_42 : decode cX12_keepsAct 42 = .ok (.aload_n 0, 1) := by decide +kernel
theorem dX12_keepsAct_43 : decode cX12_keepsAct 43 = .ok (.dup, 1) := by decide +kernel
theorem dX12_keepsAct_44 : decode cX12_keepsAct 44 = .ok (.getfield 165, 3) := by decide +kernel
theorem dX12_keepsAct_47 : decode cX12_keepsAct 47 = .ok (.iconst 1, 1) := by decide +kernel
theorem dX12_keepsAct_48 : decode cX12_keepsAct 48 = .ok (.isub, 1) := by decide +kernel
theorem dX12_keepsAct_49 : decode cX12_keepsAct 49 = .ok (.putfield 165, 3) := by decide +kernel
theorem dX12_keepsAct_52 : decode cX12_keepsAct 52 = .ok (.aload_n 0, 1) := by decide +kernel
theorem dX12_keepsAct_53 : decode cX12_keepsAct 53 = .ok (.getfield 16, 3) := by decide +kernel
theorem dX12_keepsAct_56 : decode cX12_keepsAct 56 = .ok (.iconst 0, 1) := by decide +kernel
theorem dX12_keepsAct_57 : decode cX12_keepsAct 57 = .ok (.aload_n 0, 1) := by decide +kernel
theorem dX12_keepsAct_58 : decode cX12_keepsAct 58 = .ok (.getfield 60, 3) := by decide +kernel
theorem dX12_keepsAct_61 : decode cX12_keepsAct 61 = .ok (.sipush 673, 3) := by decide +kernel
theorem dX12_keepsAct_64 : decode cX12_keepsAct 64 = .ok (.aload_n 0, 1) := by decide +kernel
theorem dX12_keepsAct_65 : decode cX12_keepsAct 65 = .ok (.getfield 165, 3) := by decide +kernel
theorem dX12_keepsAct_68 : decode cX12_keepsAct 68 = .ok (.imul, 1) := by decide +kernel
theorem dX12_keepsAct_69 : decode cX12_keepsAct 69 = .ok (.invokestatic 152, 3) := by decide +kernel
theorem dX12_keepsAct_72 : decode cX12_keepsAct 72 = .ok (.aload_n 0, 1) := by decide +kernel
theorem dX12_keepsAct_73 : decode cX12_keepsAct 73 = .ok (.dup, 1) := by decide +kernel
theorem dX12_keepsAct_74 : decode cX12_keepsAct 74 = .ok (.getfield 165, 3) := by decide +kernel
theorem dX12_keepsAct_77 : decode cX12_keepsAct 77 = .ok (.iconst 1, 1) := by decide +kernel
theorem dX12_keepsAct_78 : decode cX12_keepsAct 78 = .ok (.iadd, 1) := by decide +kernel
theorem dX12_keepsAct_79 : decode cX12_keepsAct 79 = .ok (.putfield 165, 3) := by decide +kernel
theorem dX12_keepsAct_82 : decode cX12_keepsAct 82 = .ok (.return_, 1) := by decide +kernel
theorem dX12_undo_0 : decode cX12_undo 0 = .ok (.aload_n 0, 1) := by decide +kernel
theorem dX12_undo_1 : decode cX12_undo 1 = .ok (.getfield 165, 3) := by decide +kernel
theorem dX12_undo_4 : decode cX12_undo 4 = .ok (.ifCond .ne 5, 3) := by decide +kernel
theorem dX12_undo_7 : decode cX12_undo 7 = .ok (.iconst (-1), 1) := by decide +kernel
theorem dX12_undo_8 : decode cX12_undo 8 = .ok (.ireturn, 1) := by decide +kernel
theorem dX12_undo_9 : decode cX12_undo 9 = .ok (.aload_n 0, 1) := by decide +kernel
theorem dX12_undo_10 : decode cX12_undo 10 = .ok (.dup, 1) := by decide +kernel
theorem dX12_undo_11 : decode cX12_undo 11 = .ok (.getfield 165, 3) := by decide +kernel
theorem dX12_undo_14 : decode cX12_undo 14 = .ok (.iconst 1, 1) := by decide +kernel
theorem dX12_undo_15 : decode cX12_undo 15 = .ok (.isub, 1) := by decide +kernel
theorem dX12_undo_16 : decode cX12_undo 16 = .ok (.putfield 165, 3) := by decide +kernel
theorem dX12_undo_19 : decode cX12_undo 19 = .ok (.aload_n 0, 1) := by decide +kernel
theorem dX12_undo_20 : decode cX12_undo 20 = .ok (.getfield 60, 3) := by decide +kernel
theorem dX12_undo_23 : decode cX12_undo 23 = .ok (.sipush 673, 3) := by decide +kernel
theorem dX12_undo_26 : decode cX12_undo 26 = .ok (.aload_n 0, 1) := by decide +kernel
theorem dX12_undo_27 : decode cX12_undo 27 = .ok (.getfield 165, 3) := by decide +kernel
theorem dX12_undo_30 : decode cX12_undo 30 = .ok (.imul, 1) := by decide +kernel
theorem dX12_undo_31 : decode cX12_undo 31 = .ok (.aload_n 0, 1) := by decide +kernel
theorem dX12_undo_32 : decode cX12_undo 32 = .ok (.getfield 16, 3) := by decide +kernel
theorem dX12_undo_35 : decode cX12_undo 35 = .ok (.iconst 0, 1) := by decide +kernel
theorem dX12_undo_36 : decode cX12_undo 36 = .ok (.invokestatic 152, 3) := by decide +kernel
theorem dX12_undo_39 : decode cX12_undo 39 = .ok (.aload_n 0, 1) := by decide +kernel
theorem dX12_undo_40 : decode cX12_undo 40 = .ok (.invokevirtual 159, 3) := by decide +kernel
theorem dX12_undo_43 : decode cX12_undo 43 = .ok (.aload_n 0, 1) := by decide +kernel
theorem dX12_undo_44 : decode cX12_undo 44 = .ok (.getfield 165, 3) := by decide +kernel
theorem dX12_undo_47 : decode cX12_undo 47 = .ok (.ireturn, 1) := by decide +kernel
theorem dX12_keep_0 : decode cX12_keep 0 = .ok (.aload_n 0, 1) := by decide +kernel
theorem dX12_keep_1 : decode cX12_keep 1 = .ok (.invokevirtual 212, 3) := by decide +kernel
theorem dX12_keep_4 : decode cX12_keep 4 = .ok (.ifCond .eq 13, 3) := by decide +kernel
theorem dX12_keep_7 : decode cX12_keep 7 = .ok (.iload_n 1, 1) := by decide +kernel
theorem dX12_keep_8 : decode cX12_keep 8 = .ok (.i2l, 1) := by decide +kernel
theorem dX12_keep_9 : decode cX12_keep 9 = .ok (.lconst 0, 1) := by decide +kernel
theorem dX12_keep_10 : decode cX12_keep 10 = .ok (.lconst 1, 1) := by decide +kernel
theorem dX12_keep_11 : decode cX12_keep 11 = .ok (.invokestatic 73, 3) := by decide +kernel
theorem dX12_keep_14 : decode cX12_keep 14 = .ok (.ifCond .ne 5, 3) := by decide +kernel
theorem dX12_keep_17 : decode cX12_keep 17 = .ok (.iconst (-1), 1) := by decide +kernel
theorem dX12_keep_18 : decode cX12_keep 18 = .ok (.ireturn, 1) := by decide +kernel
theorem dX12_keep_19 : decode cX12_keep 19 = .ok (.aload_n 0, 1) := by decide +kernel
theorem dX12_keep_20 : decode cX12_keep 20 = .ok (.getfield 16, 3) := by decide +kernel
theorem dX12_keep_23 : decode cX12_keep 23 = .ok (.iconst 0, 1) := by decide +kernel
theorem dX12_keep_24 : decode cX12_keep 24 = .ok (.aload_n 0, 1) := by decide +kernel
theorem dX12_keep_25 : decode cX12_keep 25 = .ok (.getfield 63, 3) := by decide +kernel
theorem dX12_keep_28 : decode cX12_keep 28 = .ok (.sipush 673, 3) := by decide +kernel
theorem dX12_keep_31 : decode cX12_keep 31 = .ok (.iload_n 1, 1) := by decide +kernel
theorem dX12_keep_32 : decode cX12_keep 32 = .ok (.imul, 1) := by decide +kernel
theorem dX12_keep_33 : decode cX12_keep 33 = .ok (.invokestatic 152, 3) := by decide +kernel
theorem dX12_keep_36 : decode cX12_keep 36 = .ok (.aload_n 0, 1) := by decide +kernel
theorem dX12_keep_37 : decode cX12_keep 37 = .ok (.getfield 66, 3) := by decide +kernel
theorem dX12_keep_40 : decode cX12_keep 40 = .ok (.iload_n 1, 1) := by decide +kernel
theorem dX12_keep_41 : decode cX12_keep 41 = .ok (.iconst 1, 1) := by decide +kernel
theorem dX12_keep_42 : decode cX12_keep 42 = .ok (.bastore, 1) := by decide +kernel
theorem dX12_keep_43 : decode cX12_keep 43 = .ok (.aload_n 0, 1) := by decide +kernel
theorem dX12_keep_44 : decode cX12_keep 44 = .ok (.getfield 16, 3) := by decide +kernel
theorem dX12_keep_47 : decode cX12_keep 47 = .ok (.iconst 3, 1) := by decide +kernel
theorem dX12_keep_48 : decode cX12_keep 48 = .ok (.iaload, 1) := by decide +kernel
theorem dX12_keep_49 : decode cX12_keep 49 = .ok (.ireturn, 1) := by decide +kernel
theorem dX12_back_0 : decode cX12_back 0 = .ok (.iload_n 1, 1) := by decide +kernel
theorem dX12_back_1 : decode cX12_back 1 = .ok (.i2l, 1) := by decide +kernel
theorem dX12_back_2 : decode cX12_back 2 = .ok (.lconst 0, 1) := by decide +kernel
theorem dX12_back_3 : decode cX12_back 3 = .ok (.lconst 1, 1) := by decide +kernel
theorem dX12_back_4 : decode cX12_back 4 = .ok (.invokestatic 73, 3) := by decide +kernel
theorem dX12_back_7 : decode cX12_back 7 = .ok (.ifCond .ne 5, 3) := by decide +kernel
theorem dX12_back_10 : decode cX12_back 10 = .ok (.iconst (-1), 1) := by decide +kernel
theorem dX12_back_11 : decode cX12_back 11 = .ok (.ireturn, 1) := by decide +kernel
theorem dX12_back_12 : decode cX12_back 12 = .ok (.aload_n 0, 1) := by decide +kernel
theorem dX12_back_13 : decode cX12_back 13 = .ok (.getfield 66, 3) := by decide +kernel
theorem dX12_back_16 : decode cX12_back 16 = .ok (.iload_n 1, 1) := by decide +kernel
theorem dX12_back_17 : decode cX12_back 17 = .ok (.baload, 1) := by decide +kernel
theorem dX12_back_18 : decode cX12_back 18 = .ok (.ifCond .ne 6, 3) := by decide +kernel
theorem dX12_back_21 : decode cX12_back 21 = .ok (.bipush (-2), 2) := by decide +kernel
theorem dX12_back_23 : decode cX12_back 23 = .ok (.ireturn, 1) := by decide +kernel
theorem dX12_back_24 : decode cX12_back 24 = .ok (.aload_n 0, 1) := by decide +kernel
theorem dX12_back_25 : decode cX12_back 25 = .ok (.getfield 63, 3) := by decide +kernel
theorem dX12_back_28 : decode cX12_back 28 = .ok (.sipush 673, 3) := by decide +kernel
theorem dX12_back_31 : decode cX12_back 31 = .ok (.iload_n 1, 1) := by decide +kernel
theorem dX12_back_32 : decode cX12_back 32 = .ok (.imul, 1) := by decide +kernel
theorem dX12_back_33 : decode cX12_back 33 = .ok (.aload_n 0, 1) := by decide +kernel
theorem dX12_back_34 : decode cX12_back 34 = .ok (.getfield 16, 3) := by decide +kernel
theorem dX12_back_37 : decode cX12_back 37 = .ok (.iconst 0, 1) := by decide +kernel
theorem dX12_back_38 : decode cX12_back 38 = .ok (.invokestatic 152, 3) := by decide +kernel
theorem dX12_back_41 : decode cX12_back 41 = .ok (.aload_n 0, 1) := by decide +kernel
theorem dX12_back_42 : decode cX12_back 42 = .ok (.invokevirtual 159, 3) := by decide +kernel
theorem dX12_back_45 : decode cX12_back 45 = .ok (.aload_n 0, 1) := by decide +kernel
theorem dX12_back_46 : decode cX12_back 46 = .ok (.iconst 0, 1) := by decide +kernel
theorem dX12_back_47 : decode cX12_back 47 = .ok (.putfield 165, 3) := by decide +kernel
theorem dX12_back_50 : decode cX12_back 50 = .ok (.aload_n 0, 1) := by decide +kernel
theorem dX12_back_51 : decode cX12_back 51 = .ok (.getfield 16, 3) := by decide +kernel
theorem dX12_back_54 : decode cX12_back 54 = .ok (.iconst 3, 1) := by decide +kernel
theorem dX12_back_55 : decode cX12_back 55 = .ok (.iaload, 1) := by decide +kernel
theorem dX12_back_56 : decode cX12_back 56 = .ok (.ireturn, 1) := by decide +kernel
theorem dX12_canMany_0 : decode cX12_canMany 0 = .ok (.iconst 0, 1) := by decide +kernel
theorem dX12_canMany_1 : decode cX12_canMany 1 = .ok (.istore_n 1, 1) := by decide +kernel
theorem dX12_canMany_2 : decode cX12_canMany 2 = .ok (.iconst 0, 1) := by decide +kernel
theorem dX12_canMany_3 : decode cX12_canMany 3 = .ok (.istore_n 2, 1) := by decide +kernel
theorem dX12_canMany_4 : decode cX12_canMany 4 = .ok (.iload_n 2, 1) := by decide +kernel
theorem dX12_canMany_5 : decode cX12_canMany 5 = .ok (.aload_n 0, 1) := by decide +kernel
theorem dX12_canMany_6 : decode cX12_canMany 6 = .ok (.getfield 168, 3) := by decide +kernel
theorem dX12_canMany_9 : decode cX12_canMany 9 = .ok (.if_icmp .ge 26, 3) := by decide +kernel
theorem dX12_canMany_12 : decode cX12_canMany 12 = .ok (.iload_n 1, 1) := by decide +kernel
theorem dX12_canMany_13 : decode cX12_canMany 13 = .ok (.aload_n 0, 1) := by decide +kernel
theorem dX12_canMany_14 : decode cX12_canMany 14 = .ok (.getfield 38, 3) := by decide +kernel
theorem dX12_canMany_17 : decode cX12_canMany 17 = .ok (.iload_n 2, 1) := by decide +kernel
theorem dX12_canMany_18 : decode cX12_canMany 18 = .ok (.baload, 1) := by decide +kernel
theorem dX12_canMany_19 : decode cX12_canMany 19 = .ok (.ifCond .eq 7, 3) := by decide +kernel
theorem dX12_canMany_22 : decode cX12_canMany 22 = .ok (.iconst 1, 1) := by decide +kernel
theorem dX12_canMany_23 : decode cX12_canMany 23 = .ok (.goto 4, 3) := by decide +kernel
theorem dX12_canMany_26 : decode cX12_canMany 26 = .ok (.iconst 0, 1) := by decide +kernel
theorem dX12_canMany_27 : decode cX12_canMany 27 = .ok (.iadd, 1) := by decide +kernel
theorem dX12_canMany_28 : decode cX12_canMany 28 = .ok (.istore_n 1, 1) := by decide +kernel
theorem dX12_canMany_29 : decode cX12_canMany 29 = .ok (.iinc 2 1, 3) := by decide +kernel
theorem dX12_canMany_32 : decode cX12_canMany 32 = .ok (.goto (-28), 3) := by decide +kernel
theorem dX12_canMany_35 : decode cX12_canMany 35 = .ok (.iload_n 1, 1) := by decide +kernel
theorem dX12_canMany_36 : decode cX12_canMany 36 = .ok (.ireturn, 1) := by decide +kernel
theorem dX12_freeIn_0 : decode cX12_freeIn 0 = .ok (.iconst 0, 1) := by decide +kernel
theorem dX12_freeIn_1 : decode cX12_freeIn 1 = .ok (.istore_n 2, 1) := by decide +kernel
theorem dX12_freeIn_2 : decode cX12_freeIn 2 = .ok (.iconst 0, 1) := by decide +kernel
theorem dX12_freeIn_3 : decode cX12_freeIn 3 = .ok (.istore_n 3, 1) := by decide +kernel
theorem dX12_freeIn_4 : decode cX12_freeIn 4 = .ok (.iload_n 3, 1) := by decide +kernel
theorem dX12_freeIn_5 : decode cX12_freeIn 5 = .ok (.aload_n 0, 1) := by decide +kernel
theorem dX12_freeIn_6 : decode cX12_freeIn 6 = .ok (.getfield 16, 3) := by decide +kernel
theorem dX12_freeIn_9 : decode cX12_freeIn 9 = .ok (.iconst 0, 1) := by decide +kernel
theorem dX12_freeIn_10 : decode cX12_freeIn 10 = .ok (.iaload, 1) := by decide +kernel
theorem dX12_freeIn_11 : decode cX12_freeIn 11 = .ok (.if_icmp .ge 27, 3) := by decide +kernel
theorem dX12_freeIn_14 : decode cX12_freeIn 14 = .ok (.iload_n 2, 1) := by decide +kernel
theorem dX12_freeIn_15 : decode cX12_freeIn 15 = .ok (.aload_n 0, 1) := by decide +kernel
theorem dX12_freeIn_16 : decode cX12_freeIn 16 = .ok (.iload_n 1, 1) := by decide +kernel
theorem dX12_freeIn_17 : decode cX12_freeIn 17 = .ok (.iload_n 3, 1) := by decide +kernel
theorem dX12_freeIn_18 : decode cX12_freeIn 18 = .ok (.invokevirtual 200, 3) := by decide +kernel
theorem dX12_freeIn_21 : decode cX12_freeIn 21 = .ok (.iconst (-1), 1) := by decide +kernel
theorem dX12_freeIn_22 : decode cX12_freeIn 22 = .ok (.if_icmp .ne 7, 3) := by decide +kernel
theorem dX12_freeIn_25 : decode cX12_freeIn 25 = .ok (.iconst 1, 1) := by decide +kernel
theorem dX12_freeIn_26 : decode cX12_freeIn 26 = .ok (.goto 4, 3) := by decide +kernel
theorem dX12_freeIn_29 : decode cX12_freeIn 29 = .ok (.iconst 0, 1) := by decide +kernel
theorem dX12_freeIn_30 : decode cX12_freeIn 30 = .ok (.iadd, 1) := by decide +kernel
theorem dX12_freeIn_31 : decode cX12_freeIn 31 = .ok (.istore_n 2, 1) := by decide +kernel
theorem dX12_freeIn_32 : decode cX12_freeIn 32 = .ok (.iinc 3 1, 3) := by decide +kernel
theorem dX12_freeIn_35 : decode cX12_freeIn 35 = .ok (.goto (-31), 3) := by decide +kernel
theorem dX12_freeIn_38 : decode cX12_freeIn 38 = .ok (.iload_n 2, 1) := by decide +kernel
theorem dX12_freeIn_39 : decode cX12_freeIn 39 = .ok (.ireturn, 1) := by decide +kernel
theorem dX12_freeMany_0 : decode cX12_freeMany 0 = .ok (.iconst 0, 1) := by decide +kernel
theorem dX12_freeMany_1 : decode cX12_freeMany 1 = .ok (.istore_n 2, 1) := by decide +kernel
theorem dX12_freeMany_2 : decode cX12_freeMany 2 = .ok (.iconst 0, 1) := by decide +kernel
theorem dX12_freeMany_3 : decode cX12_freeMany 3 = .ok (.istore_n 3, 1) := by decide +kernel
theorem dX12_freeMany_4 : decode cX12_freeMany 4 = .ok (.iload_n 3, 1) := by decide +kernel
theorem dX12_freeMany_5 : decode cX12_freeMany 5 = .ok (.aload_n 0, 1) := by decide +kernel
theorem dX12_freeMany_6 : decode cX12_freeMany 6 = .ok (.getfield 16, 3) := by decide +kernel
theorem dX12_freeMany_9 : decode cX12_freeMany 9 = .ok (.iconst 3, 1) := by decide +kernel
theorem dX12_freeMany_10 : decode cX12_freeMany 10 = .ok (.iaload, 1) := by decide +kernel
theorem dX12_freeMany_11 : decode cX12_freeMany 11 = .ok (.if_icmp .ge 37, 3) := by decide +kernel
theorem dX12_freeMany_14 : decode cX12_freeMany 14 = .ok (.iload_n 2, 1) := by decide +kernel
theorem dX12_freeMany_15 : decode cX12_freeMany 15 = .ok (.iload_n 1, 1) := by decide +kernel
theorem dX12_freeMany_16 : decode cX12_freeMany 16 = .ok (.ifCond .eq 19, 3) := by decide +kernel
theorem dX12_freeMany_19 : decode cX12_freeMany 19 = .ok (.aload_n 0, 1) := by decide +kernel
theorem dX12_freeMany_20 : decode cX12_freeMany 20 = .ok (.iload_n 3, 1) := by decide +kernel
theorem dX12_freeMany_21 : decode cX12_freeMany 21 = .ok (.invokevirtual 329, 3) := by decide +kernel
theorem dX12_freeMany_24 : decode cX12_freeMany 24 = .ok (.ifCond .ne 7, 3) := by decide +kernel
theorem dX12_freeMany_27 : decode cX12_freeMany 27 = .ok (.iconst 1, 1) := by decide +kernel
theorem dX12_freeMany_28 : decode cX12_freeMany 28 = .ok (.goto 12, 3) := by decide +kernel
theorem dX12_freeMany_31 : decode cX12_freeMany 31 = .ok (.iconst 0, 1) := by decide +kernel
theorem dX12_freeMany_32 : decode cX12_freeMany 32 = .ok (.goto 8, 3) := by decide +kernel
theorem dX12_freeMany_35 : decode cX12_freeMany 35 = .ok (.aload_n 0, 1) := by decide +kernel
theorem dX12_freeMany_36 : decode cX12_freeMany 36 = .ok (.iload_n 3, 1) := by decide +kernel
theorem dX12_freeMany_37 : decode cX12_freeMany 37 = .ok (.invokevirtual 329, 3) := by decide +kernel
theorem dX12_freeMany_40 : decode cX12_freeMany 40 = .ok (.iadd, 1) := by decide +kernel
theorem dX12_freeMany_41 : decode cX12_freeMany 41 = .ok (.istore_n 2, 1) := by decide +kernel
theorem dX12_freeMany_42 : decode cX12_freeMany 42 = .ok (.iinc 3 1, 3) := by decide +kernel
theorem dX12_freeMany_45 : decode cX12_freeMany 45 = .ok (.goto (-41), 3) := by decide +kernel
theorem dX12_freeMany_48 : decode cX12_freeMany 48 = .ok (.iload_n 2, 1) := by decide +kernel
theorem dX12_freeMany_49 : decode cX12_freeMany 49 = .ok (.ireturn, 1) := by decide +kernel
theorem dX12_results_0 : decode cX12_results 0 = .ok (.iconst 0, 1) := by decide +kernel
theorem dX12_results_1 : decode cX12_results 1 = .ok (.istore_n 2, 1) := by decide +kernel
theorem dX12_results_2 : decode cX12_results 2 = .ok (.iconst 0, 1) := by decide +kernel
theorem dX12_results_3 : decode cX12_results 3 = .ok (.istore_n 3, 1) := by decide +kernel
theorem dX12_results_4 : decode cX12_results 4 = .ok (.iload_n 3, 1) := by decide +kernel
theorem dX12_results_5 : decode cX12_results 5 = .ok (.aload_n 0, 1) := by decide +kernel
theorem dX12_results_6 : decode cX12_results 6 = .ok (.getfield 16, 3) := by decide +kernel
theorem dX12_results_9 : decode cX12_results 9 = .ok (.iconst 3, 1) := by decide +kernel
theorem dX12_results_10 : decode cX12_results 10 = .ok (.iaload, 1) := by decide +kernel
theorem dX12_results_11 : decode cX12_results 11 = .ok (.if_icmp .ge 30, 3) := by decide +kernel
theorem dX12_results_14 : decode cX12_results 14 = .ok (.iload_n 2, 1) := by decide +kernel
theorem dX12_results_15 : decode cX12_results 15 = .ok (.aload_n 0, 1) := by decide +kernel
theorem dX12_results_16 : decode cX12_results 16 = .ok (.getfield 16, 3) := by decide +kernel
theorem dX12_results_19 : decode cX12_results 19 = .ok (.bipush 97, 2) := by decide +kernel
theorem dX12_results_21 : decode cX12_results 21 = .ok (.iload_n 3, 1) := by decide +kernel
theorem dX12_results_22 : decode cX12_results 22 = .ok (.iadd, 1) := by decide +kernel
theorem dX12_results_23 : decode cX12_results 23 = .ok (.iaload, 1) := by decide +kernel
theorem dX12_results_24 : decode cX12_results 24 = .ok (.iload_n 1, 1) := by decide +kernel
theorem dX12_results_25 : decode cX12_results 25 = .ok (.if_icmp .ne 7, 3) := by decide +kernel
theorem dX12_results_28 : decode cX12_results 28 = .ok (.iconst 1, 1) := by decide +kernel
theorem dX12_results_29 : decode cX12_results 29 = .ok (.goto 4, 3) := by decide +kernel
theorem dX12_results_32 : decode cX12_results 32 = .ok (.iconst 0, 1) := by decide +kernel
theorem dX12_results_33 : decode cX12_results 33 = .ok (.iadd, 1) := by decide +kernel
theorem dX12_results_34 : decode cX12_results 34 = .ok (.istore_n 2, 1) := by decide +kernel
theorem dX12_results_35 : decode cX12_results 35 = .ok (.iinc 3 1, 3) := by decide +kernel
theorem dX12_results_38 : decode cX12_results 38 = .ok (.goto (-34), 3) := by decide +kernel
theorem dX12_results_41 : decode cX12_results 41 = .ok (.iload_n 2, 1) := by decide +kernel
theorem dX12_results_42 : decode cX12_results 42 = .ok (.ireturn, 1) := by decide +kernel
theorem dX12_count_0 : decode cX12_count 0 = .ok (.iload_n 1, 1) := by decide +kernel
theorem dX12_count_1 : decode cX12_count 1 = .ok (.i2l, 1) := by decide +kernel
theorem dX12_count_2 : decode cX12_count 2 = .ok (.lconst 0, 1) := by decide +kernel
theorem dX12_count_3 : decode cX12_count 3 = .ok (.ldc2_w 332, 3) := by decide +kernel
theorem dX12_count_6 : decode cX12_count 6 = .ok (.invokestatic 73, 3) := by decide +kernel
theorem dX12_count_9 : decode cX12_count 9 = .ok (.ifCond .eq 12, 3) := by decide +kernel
theorem dX12_count_12 : decode cX12_count 12 = .ok (.aload_n 0, 1) := by decide +kernel
theorem dX12_count_13 : decode cX12_count 13 = .ok (.invokevirtual 212, 3) := by decide +kernel
theorem dX12_count_16 : decode cX12_count 16 = .ok (.ifCond .ne 5, 3) := by decide +kernel
theorem dX12_count_19 : decode cX12_count 19 = .ok (.iconst 0, 1) := by decide +kernel
theorem dX12_count_20 : decode cX12_count 20 = .ok (.ireturn, 1) := by decide +kernel
theorem dX12_count_21 : decode cX12_count 21 = .ok (.iload_n 1, 1) := by decide +kernel
theorem dX12_count_22 : decode cX12_count 22 = .ok (.tableswitch 145 0 12 #[66, 73, 80, 85, 90, 97, 104, 110, 116, 122, 128, 133, 140], 66) := by decide +kernel
theorem dX12_count_88 : decode cX12_count 88 = .ok (.aload_n 0, 1) := by decide +kernel
theorem dX12_count_89 : decode cX12_count 89 = .ok (.getfield 16, 3) := by decide +kernel
theorem dX12_count_92 : decode cX12_count 92 = .ok (.iconst 0, 1) := by decide +kernel
theorem dX12_count_93 : decode cX12_count 93 = .ok (.iaload, 1) := by decide +kernel
theorem dX12_count_94 : decode cX12_count 94 = .ok (.ireturn, 1) := by decide +kernel
theorem dX12_count_95 : decode cX12_count 95 = .ok (.aload_n 0, 1) := by decide +kernel
theorem dX12_count_96 : decode cX12_count 96 = .ok (.getfield 16, 3) := by decide +kernel
theorem dX12_count_99 : decode cX12_count 99 = .ok (.iconst 1, 1) := by decide +kernel
theorem dX12_count_100 : decode cX12_count 100 = .ok (.iaload, 1) := by decide +kernel
theorem dX12_count_101 : decode cX12_count 101 = .ok (.ireturn, 1) := by decide +kernel
theorem dX12_count_102 : decode cX12_count 102 = .ok (.aload_n 0, 1) := by decide +kernel
theorem dX12_count_103 : decode cX12_count 103 = .ok (.getfield 168, 3) := by decide +kernel
theorem dX12_count_106 : decode cX12_count 106 = .ok (.ireturn, 1) := by decide +kernel
theorem dX12_count_107 : decode cX12_count 107 = .ok (.aload_n 0, 1) := by decide +kernel
theorem dX12_count_108 : decode cX12_count 108 = .ok (.invokevirtual 334, 3) := by decide +kernel
theorem dX12_count_111 : decode cX12_count 111 = .ok (.ireturn, 1) := by decide +kernel
theorem dX12_count_112 : decode cX12_count 112 = .ok (.aload_n 0, 1) := by decide +kernel
theorem dX12_count_113 : decode cX12_count 113 = .ok (.getfield 16, 3) := by decide +kernel
theorem dX12_count_116 : decode cX12_count 116 = .ok (.iconst 2, 1) := by decide +kernel
theorem dX12_count_117 : decode cX12_count 117 = .ok (.iaload, 1) := by decide +kernel
theorem dX12_count_118 : decode cX12_count 118 = .ok (.ireturn, 1) := by decide +kernel
theorem dX12_count_119 : decode cX12_count 119 = .ok (.aload_n 0, 1) := by decide +kernel
theorem dX12_count_120 : decode cX12_count 120 = .ok (.getfield 16, 3) := by decide +kernel
theorem dX12_count_123 : decode cX12_count 123 = .ok (.iconst 3, 1) := by decide +kernel
theorem dX12_count_124 : decode cX12_count 124 = .ok (.iaload, 1) := by decide +kernel
theorem dX12_count_125 : decode cX12_count 125 = .ok (.ireturn, 1) := by decide +kernel
theorem dX12_count_126 : decode cX12_count 126 = .ok (.aload_n 0, 1) := by decide +kernel
theorem dX12_count_127 : decode cX12_count 127 = .ok (.iconst 1, 1) := by decide +kernel
theorem dX12_count_128 : decode cX12_count 128 = .ok (.invokevirtual 337, 3) := by decide +kernel
theorem dX12_count_131 : decode cX12_count 131 = .ok (.ireturn, 1) := by decide +kernel
theorem dX12_count_132 : decode cX12_count 132 = .ok (.aload_n 0, 1) := by decide +kernel
theorem dX12_count_133 : decode cX12_count 133 = .ok (.iconst 0, 1) := by decide +kernel
theorem dX12_count_134 : decode cX12_count 134 = .ok (.invokevirtual 337, 3) := by decide +kernel
theorem dX12_count_137 : decode cX12_count 137 = .ok (.ireturn, 1) := by decide +kernel
theorem dX12_count_138 : decode cX12_count 138 = .ok (.aload_n 0, 1) := by decide +kernel
theorem dX12_count_139 : decode cX12_count 139 = .ok (.iconst 1, 1) := by decide +kernel
theorem dX12_count_140 : decode cX12_count 140 = .ok (.invokevirtual 340, 3) := by decide +kernel
theorem dX12_count_143 : decode cX12_count 143 = .ok (.ireturn, 1) := by decide +kernel
theorem dX12_count_144 : decode cX12_count 144 = .ok (.aload_n 0, 1) := by decide +kernel
theorem dX12_count_145 : decode cX12_count 145 = .ok (.iconst 2, 1) := by decide +kernel
theorem dX12_count_146 : decode cX12_count 146 = .ok (.invokevirtual 340, 3) := by decide +kernel
theorem dX12_count_149 : decode cX12_count 149 = .ok (.ireturn, 1) := by decide +kernel
theorem dX12_count_150 : decode cX12_count 150 = .ok (.aload_n 0, 1) := by decide +kernel
theorem dX12_count_151 : decode cX12_count 151 = .ok (.getfield 165, 3) := by decide +kernel
theorem dX12_count_154 : decode cX12_count 154 = .ok (.ireturn, 1) := by decide +kernel
theorem dX12_count_155 : decode cX12_count 155 = .ok (.aload_n 0, 1) := by decide +kernel
theorem dX12_count_156 : decode cX12_count 156 = .ok (.getfield 16, 3) := by decide +kernel
theorem dX12_count_159 : decode cX12_count 159 = .ok (.iconst 4, 1) := by decide +kernel
theorem dX12_count_160 : decode cX12_count 160 = .ok (.iaload, 1) := by decide +kernel
theorem dX12_count_161 : decode cX12_count 161 = .ok (.ireturn, 1) := by decide +kernel
theorem dX12_count_162 : decode cX12_count 162 = .ok (.aload_n 0, 1) := by decide +kernel
theorem dX12_count_163 : decode cX12_count 163 = .ok (.getfield 69, 3) := by decide +kernel
theorem dX12_count_166 : decode cX12_count 166 = .ok (.ireturn, 1) := by decide +kernel
theorem dX12_count_167 : decode cX12_count 167 = .ok (.iconst (-1), 1) := by decide +kernel
theorem dX12_count_168 : decode cX12_count 168 = .ok (.ireturn, 1) := by decide +kernel
theorem dJ6_bitCount_0f7a4_0 : decode cJ6_bitCount_0f7a4 0 = .ok (.iload_n 0, 1) := by decide +kernel
theorem dJ6_bitCount_0f7a4_1 : decode cJ6_bitCount_0f7a4 1 = .ok (.iload_n 0, 1) := by decide +kernel
theorem dJ6_bitCount_0f7a4_2 : decode cJ6_bitCount_0f7a4 2 = .ok (.iconst 1, 1) := by decide +kernel
theorem dJ6_bitCount_0f7a4_3 : decode cJ6_bitCount_0f7a4 3 = .ok (.iushr, 1) := by decide +kernel
theorem dJ6_bitCount_0f7a4_4 : decode cJ6_bitCount_0f7a4 4 = .ok (.ldc_w 265, 3) := by decide +kernel
theorem dJ6_bitCount_0f7a4_7 : decode cJ6_bitCount_0f7a4 7 = .ok (.iand, 1) := by decide +kernel
theorem dJ6_bitCount_0f7a4_8 : decode cJ6_bitCount_0f7a4 8 = .ok (.isub, 1) := by decide +kernel
theorem dJ6_bitCount_0f7a4_9 : decode cJ6_bitCount_0f7a4 9 = .ok (.istore_n 0, 1) := by decide +kernel
theorem dJ6_bitCount_0f7a4_10 : decode cJ6_bitCount_0f7a4 10 = .ok (.iload_n 0, 1) := by decide +kernel
theorem dJ6_bitCount_0f7a4_11 : decode cJ6_bitCount_0f7a4 11 = .ok (.ldc_w 266, 3) := by decide +kernel
theorem dJ6_bitCount_0f7a4_14 : decode cJ6_bitCount_0f7a4 14 = .ok (.iand, 1) := by decide +kernel
theorem dJ6_bitCount_0f7a4_15 : decode cJ6_bitCount_0f7a4 15 = .ok (.iload_n 0, 1) := by decide +kernel
theorem dJ6_bitCount_0f7a4_16 : decode cJ6_bitCount_0f7a4 16 = .ok (.iconst 2, 1) := by decide +kernel
theorem dJ6_bitCount_0f7a4_17 : decode cJ6_bitCount_0f7a4 17 = .ok (.iushr, 1) := by decide +kernel
theorem dJ6_bitCount_0f7a4_18 : decode cJ6_bitCount_0f7a4 18 = .ok (.ldc_w 266, 3) := by decide +kernel
theorem dJ6_bitCount_0f7a4_21 : decode cJ6_bitCount_0f7a4 21 = .ok (.iand, 1) := by decide +kernel
theorem dJ6_bitCount_0f7a4_22 : decode cJ6_bitCount_0f7a4 22 = .ok (.iadd, 1) := by decide +kernel
theorem dJ6_bitCount_0f7a4_23 : decode cJ6_bitCount_0f7a4 23 = .ok (.istore_n 0, 1) := by decide +kernel
theorem dJ6_bitCount_0f7a4_24 : decode cJ6_bitCount_0f7a4 24 = .ok (.iload_n 0, 1) := by decide +kernel
theorem dJ6_bitCount_0f7a4_25 : decode cJ6_bitCount_0f7a4 25 = .ok (.iload_n 0, 1) := by decide +kernel
theorem dJ6_bitCount_0f7a4_26 : decode cJ6_bitCount_0f7a4 26 = .ok (.iconst 4, 1) := by decide +kernel
theorem dJ6_bitCount_0f7a4_27 : decode cJ6_bitCount_0f7a4 27 = .ok (.iushr, 1) := by decide +kernel
theorem dJ6_bitCount_0f7a4_28 : decode cJ6_bitCount_0f7a4 28 = .ok (.iadd, 1) := by decide +kernel
theorem dJ6_bitCount_0f7a4_29 : decode cJ6_bitCount_0f7a4 29 = .ok (.ldc_w 267, 3) := by decide +kernel
theorem dJ6_bitCount_0f7a4_32 : decode cJ6_bitCount_0f7a4 32 = .ok (.iand, 1) := by decide +kernel
theorem dJ6_bitCount_0f7a4_33 : decode cJ6_bitCount_0f7a4 33 = .ok (.istore_n 0, 1) := by decide +kernel
theorem dJ6_bitCount_0f7a4_34 : decode cJ6_bitCount_0f7a4 34 = .ok (.iload_n 0, 1) := by decide +kernel
theorem dJ6_bitCount_0f7a4_35 : decode cJ6_bitCount_0f7a4 35 = .ok (.iload_n 0, 1) := by decide +kernel
theorem dJ6_bitCount_0f7a4_36 : decode cJ6_bitCount_0f7a4 36 = .ok (.bipush 8, 2) := by decide +kernel
theorem dJ6_bitCount_0f7a4_38 : decode cJ6_bitCount_0f7a4 38 = .ok (.iushr, 1) := by decide +kernel
theorem dJ6_bitCount_0f7a4_39 : decode cJ6_bitCount_0f7a4 39 = .ok (.iadd, 1) := by decide +kernel
theorem dJ6_bitCount_0f7a4_40 : decode cJ6_bitCount_0f7a4 40 = .ok (.istore_n 0, 1) := by decide +kernel
theorem dJ6_bitCount_0f7a4_41 : decode cJ6_bitCount_0f7a4 41 = .ok (.iload_n 0, 1) := by decide +kernel
theorem dJ6_bitCount_0f7a4_42 : decode cJ6_bitCount_0f7a4 42 = .ok (.iload_n 0, 1) := by decide +kernel
theorem dJ6_bitCount_0f7a4_43 : decode cJ6_bitCount_0f7a4 43 = .ok (.bipush 16, 2) := by decide +kernel
theorem dJ6_bitCount_0f7a4_45 : decode cJ6_bitCount_0f7a4 45 = .ok (.iushr, 1) := by decide +kernel
theorem dJ6_bitCount_0f7a4_46 : decode cJ6_bitCount_0f7a4 46 = .ok (.iadd, 1) := by decide +kernel
theorem dJ6_bitCount_0f7a4_47 : decode cJ6_bitCount_0f7a4 47 = .ok (.istore_n 0, 1) := by decide +kernel
theorem dJ6_bitCount_0f7a4_48 : decode cJ6_bitCount_0f7a4 48 = .ok (.iload_n 0, 1) := by decide +kernel
theorem dJ6_bitCount_0f7a4_49 : decode cJ6_bitCount_0f7a4 49 = .ok (.bipush 63, 2) := by decide +kernel
theorem dJ6_bitCount_0f7a4_51 : decode cJ6_bitCount_0f7a4 51 = .ok (.iand, 1) := by decide +kernel
theorem dJ6_bitCount_0f7a4_52 : decode cJ6_bitCount_0f7a4 52 = .ok (.ireturn, 1) := by decide +kernel
theorem dJ9_max_7cf53_0 : decode cJ9_max_7cf53 0 = .ok (.iload_n 0, 1) := by decide +kernel
theorem dJ9_max_7cf53_1 : decode cJ9_max_7cf53 1 = .ok (.iload_n 1, 1) := by decide +kernel
theorem dJ9_max_7cf53_2 : decode cJ9_max_7cf53 2 = .ok (.if_icmp .lt 7, 3) := by decide +kernel
theorem dJ9_max_7cf53_5 : decode cJ9_max_7cf53 5 = .ok (.iload_n 0, 1) := by decide +kernel
theorem dJ9_max_7cf53_6 : decode cJ9_max_7cf53 6 = .ok (.goto 4, 3) := by decide +kernel
theorem dJ9_max_7cf53_9 : decode cJ9_max_7cf53 9 = .ok (.iload_n 1, 1) := by decide +kernel
theorem dJ9_max_7cf53_10 : decode cJ9_max_7cf53 10 = .ok (.ireturn, 1) := by decide +kernel
theorem dJ9_min_7cf53_0 : decode cJ9_min_7cf53 0 = .ok (.iload_n 0, 1) := by decide +kernel
theorem dJ9_min_7cf53_1 : decode cJ9_min_7cf53 1 = .ok (.iload_n 1, 1) := by decide +kernel
theorem dJ9_min_7cf53_2 : decode cJ9_min_7cf53 2 = .ok (.if_icmp .gt 7, 3) := by decide +kernel
theorem dJ9_min_7cf53_5 : decode cJ9_min_7cf53 5 = .ok (.iload_n 0, 1) := by decide +kernel
theorem dJ9_min_7cf53_6 : decode cJ9_min_7cf53 6 = .ok (.goto 4, 3) := by decide +kernel
theorem dJ9_min_7cf53_9 : decode cJ9_min_7cf53 9 = .ok (.iload_n 1, 1) := by decide +kernel
theorem dJ9_min_7cf53_10 : decode cJ9_min_7cf53 10 = .ok (.ireturn, 1) := by decide +kernel
theorem dJ0_length_8abf5_0 : decode cJ0_length_8abf5 0 = .ok (.aload_n 0, 1) := by decide +kernel
theorem dJ0_length_8abf5_1 : decode cJ0_length_8abf5 1 = .ok (.getfield 9, 3) := by decide +kernel
theorem dJ0_length_8abf5_4 : decode cJ0_length_8abf5 4 = .ok (.arraylength, 1) := by decide +kernel
theorem dJ0_length_8abf5_5 : decode cJ0_length_8abf5 5 = .ok (.aload_n 0, 1) := by decide +kernel
theorem dJ0_length_8abf5_6 : decode cJ0_length_8abf5 6 = .ok (.invokevirtual 335, 3) := by decide +kernel
theorem dJ0_length_8abf5_9 : decode cJ0_length_8abf5 9 = .ok (.ishr, 1) := by decide +kernel
theorem dJ0_length_8abf5_10 : decode cJ0_length_8abf5 10 = .ok (.ireturn, 1) := by decide +kernel
theorem dJ0_charAt_5068e_0 : decode cJ0_charAt_5068e 0 = .ok (.aload_n 0, 1) := by decide +kernel
theorem dJ0_charAt_5068e_1 : decode cJ0_charAt_5068e 1 = .ok (.invokevirtual 492, 3) := by decide +kernel
theorem dJ0_charAt_5068e_4 : decode cJ0_charAt_5068e 4 = .ok (.ifCond .eq 12, 3) := by decide +kernel
theorem dJ0_charAt_5068e_7 : decode cJ0_charAt_5068e 7 = .ok (.aload_n 0, 1) := by decide +kernel
theorem dJ0_charAt_5068e_8 : decode cJ0_charAt_5068e 8 = .ok (.getfield 9, 3) := by decide +kernel
theorem dJ0_charAt_5068e_11 : decode cJ0_charAt_5068e 11 = .ok (.iload_n 1, 1) := by decide +kernel
theorem dJ0_charAt_5068e_12 : decode cJ0_charAt_5068e 12 = .ok (.invokestatic 495, 3) := by decide +kernel
theorem dJ0_charAt_5068e_15 : decode cJ0_charAt_5068e 15 = .ok (.ireturn, 1) := by decide +kernel
theorem dJ0_charAt_5068e_16 : decode cJ0_charAt_5068e 16 = .ok (.aload_n 0, 1) := by decide +kernel
theorem dJ0_charAt_5068e_17 : decode cJ0_charAt_5068e 17 = .ok (.getfield 9, 3) := by decide +kernel
theorem dJ0_charAt_5068e_20 : decode cJ0_charAt_5068e 20 = .ok (.iload_n 1, 1) := by decide +kernel
theorem dJ0_charAt_5068e_21 : decode cJ0_charAt_5068e 21 = .ok (.invokestatic 498, 3) := by decide +kernel
theorem dJ0_charAt_5068e_24 : decode cJ0_charAt_5068e 24 = .ok (.ireturn, 1) := by decide +kernel
theorem dJ0_coder_7d493_0 : decode cJ0_coder_7d493 0 = .ok (.getstatic 38, 3) := by decide +kernel
theorem dJ0_coder_7d493_3 : decode cJ0_coder_7d493 3 = .ok (.ifCond .eq 10, 3) := by decide +kernel
theorem dJ0_coder_7d493_6 : decode cJ0_coder_7d493 6 = .ok (.aload_n 0, 1) := by decide +kernel
theorem dJ0_coder_7d493_7 : decode cJ0_coder_7d493 7 = .ok (.getfield 15, 3) := by decide +kernel
theorem dJ0_coder_7d493_10 : decode cJ0_coder_7d493 10 = .ok (.goto 4, 3) := by decide +kernel
theorem dJ0_coder_7d493_13 : decode cJ0_coder_7d493 13 = .ok (.iconst 1, 1) := by decide +kernel
theorem dJ0_coder_7d493_14 : decode cJ0_coder_7d493 14 = .ok (.ireturn, 1) := by decide +kernel
theorem dJ0_isLatin1_aae02_0 : decode cJ0_isLatin1_aae02 0 = .ok (.getstatic 38, 3) := by decide +kernel
theorem dJ0_isLatin1_aae02_3 : decode cJ0_isLatin1_aae02 3 = .ok (.ifCond .eq 14, 3) := by decide +kernel
theorem dJ0_isLatin1_aae02_6 : decode cJ0_isLatin1_aae02 6 = .ok (.aload_n 0, 1) := by decide +kernel
theorem dJ0_isLatin1_aae02_7 : decode cJ0_isLatin1_aae02 7 = .ok (.getfield 15, 3) := by decide +kernel
theorem dJ0_isLatin1_aae02_10 : decode cJ0_isLatin1_aae02 10 = .ok (.ifCond .ne 7, 3) := by decide +kernel
theorem dJ0_isLatin1_aae02_13 : decode cJ0_isLatin1_aae02 13 = .ok (.iconst 1, 1) := by decide +kernel
theorem dJ0_isLatin1_aae02_14 : decode cJ0_isLatin1_aae02 14 = .ok (.goto 4, 3) := by decide +kernel
theorem dJ0_isLatin1_aae02_17 : decode cJ0_isLatin1_aae02 17 = .ok (.iconst 0, 1) := by decide +kernel
theorem dJ0_isLatin1_aae02_18 : decode cJ0_isLatin1_aae02 18 = .ok (.ireturn, 1) := by decide +kernel
theorem dJ0_checkIndex_df160_0 : decode cJ0_checkIndex_df160 0 = .ok (.iload_n 0, 1) := by decide +kernel
theorem dJ0_checkIndex_df160_1 : decode cJ0_checkIndex_df160 1 = .ok (.iload_n 1, 1) := by decide +kernel
theorem dJ0_checkIndex_df160_2 : decode cJ0_checkIndex_df160 2 = .ok (.getstatic 1053, 3) := by decide +kernel
theorem dJ0_checkIndex_df160_5 : decode cJ0_checkIndex_df160 5 = .ok (.invokestatic 1059, 3) := by decide +kernel
theorem dJ0_checkIndex_df160_8 : decode cJ0_checkIndex_df160 8 = .ok (.pop, 1) := by decide +kernel
theorem dJ0_checkIndex_df160_9 : decode cJ0_checkIndex_df160 9 = .ok (.return_, 1) := by decide +kernel
theorem dJ1_charAt_3b067_0 : decode cJ1_charAt_3b067 0 = .ok (.iload_n 1, 1) := by decide +kernel
theorem dJ1_charAt_3b067_1 : decode cJ1_charAt_3b067 1 = .ok (.aload_n 0, 1) := by decide +kernel
theorem dJ1_charAt_3b067_2 : decode cJ1_charAt_3b067 2 = .ok (.arraylength, 1) := by decide +kernel
theorem dJ1_charAt_3b067_3 : decode cJ1_charAt_3b067 3 = .ok (.invokestatic 9, 3) := by decide +kernel
theorem dJ1_charAt_3b067_6 : decode cJ1_charAt_3b067 6 = .ok (.aload_n 0, 1) := by decide +kernel
theorem dJ1_charAt_3b067_7 : decode cJ1_charAt_3b067 7 = .ok (.iload_n 1, 1) := by decide +kernel
theorem dJ1_charAt_3b067_8 : decode cJ1_charAt_3b067 8 = .ok (.baload, 1) := by decide +kernel
theorem dJ1_charAt_3b067_9 : decode cJ1_charAt_3b067 9 = .ok (.sipush 255, 3) := by decide +kernel
theorem dJ1_charAt_3b067_12 : decode cJ1_charAt_3b067 12 = .ok (.iand, 1) := by decide +kernel
theorem dJ1_charAt_3b067_13 : decode cJ1_charAt_3b067 13 = .ok (.i2c, 1) := by decide +kernel
theorem dJ1_charAt_3b067_14 : decode cJ1_charAt_3b067 14 = .ok (.ireturn, 1) := by decide +kernel
theorem dJ2_getChar_3b067_0 : decode cJ2_getChar_3b067 0 = .ok (.getstatic 44, 3) := by decide +kernel
theorem dJ2_getChar_3b067_3 : decode cJ2_getChar_3b067 3 = .ok (.ifCond .ne 25, 3) := by decide +kernel
theorem dJ2_getChar_3b067_6 : decode cJ2_getChar_3b067 6 = .ok (.iload_n 1, 1) := by decide +kernel
theorem dJ2_getChar_3b067_7 : decode cJ2_getChar_3b067 7 = .ok (.ifCond .lt 11, 3) := by decide +kernel
theorem dJ2_getChar_3b067_10 : decode cJ2_getChar_3b067 10 = .ok (.iload_n 1, 1) := by decide +kernel
theorem dJ2_getChar_3b067_11 : decode cJ2_getChar_3b067 11 = .ok (.aload_n 0, 1) := by decide +kernel
theorem dJ2_getChar_3b067_12 : decode cJ2_getChar_3b067 12 = .ok (.invokestatic 48, 3) := by decide +kernel
theorem dJ2_getChar_3b067_15 : decode cJ2_getChar_3b067 15 = .ok (.if_icmp .lt 13, 3) := by decide +kernel
theorem dJ2_getChar_3b067_18 : decode cJ2_getChar_3b067 18 = .ok (.new 52, 3) := by decide +kernel
theorem dJ2_getChar_3b067_21 : decode cJ2_getChar_3b067 21 = .ok (.dup, 1) := by decide +kernel
theorem dJ2_getChar_3b067_22 : decode cJ2_getChar_3b067 22 = .ok (.ldc 54, 2) := by decide +kernel
theorem dJ2_getChar_3b067_24 : decode cJ2_getChar_3b067 24 = .ok (.invokespecial 56, 3) := by decide +kernel
theorem dJ2_getChar_3b067_27 : decode cJ2_getChar_3b067 27 = .ok (.athrow, 1) := by decide +kernel
theorem dJ2_getChar_3b067_28 : decode cJ2_getChar_3b067 28 = .ok (.iload_n 1, 1) := by decide +kernel
theorem dJ2_getChar_3b067_29 : decode cJ2_getChar_3b067 29 = .ok (.iconst 1, 1) := by decide +kernel
theorem dJ2_getChar_3b067_30 : decode cJ2_getChar_3b067 30 = .ok (.ishl, 1) := by decide +kernel
theorem dJ2_getChar_3b067_31 : decode cJ2_getChar_3b067 31 = .ok (.istore_n 1, 1) := by decide +kernel
theorem dJ2_getChar_3b067_32 : decode cJ2_getChar_3b067 32 = .ok (.aload_n 0, 1) := by decide +kernel
theorem dJ2_getChar_3b067_33 : decode cJ2_getChar_3b067 33 = .ok (.iload_n 1, 1) := by decide +kernel
theorem dJ2_getChar_3b067_34 : decode cJ2_getChar_3b067 34 = .ok (.iinc 1 1, 3) := by decide +kernel
theorem dJ2_getChar_3b067_37 : decode cJ2_getChar_3b067 37 = .ok (.baload, 1) := by decide +kernel
theorem dJ2_getChar_3b067_38 : decode cJ2_getChar_3b067 38 = .ok (.sipush 255, 3) := by decide +kernel
theorem dJ2_getChar_3b067_41 : decode cJ2_getChar_3b067 41 = .ok (.iand, 1) := by decide +kernel
theorem dJ2_getChar_3b067_42 : decode cJ2_getChar_3b067 42 = .ok (.getstatic 59, 3) := by decide +kernel
theorem dJ2_getChar_3b067_45 : decode cJ2_getChar_3b067 45 = .ok (.ishl, 1) := by decide +kernel
theorem dJ2_getChar_3b067_46 : decode cJ2_getChar_3b067 46 = .ok (.aload_n 0, 1) := by decide +kernel
theorem dJ2_getChar_3b067_47 : decode cJ2_getChar_3b067 47 = .ok (.iload_n 1, 1) := by decide +kernel
theorem dJ2_getChar_3b067_48 : decode cJ2_getChar_3b067 48 = .ok (.baload, 1) := by decide +kernel
theorem dJ2_getChar_3b067_49 : decode cJ2_getChar_3b067 49 = .ok (.sipush 255, 3) := by decide +kernel
theorem dJ2_getChar_3b067_52 : decode cJ2_getChar_3b067 52 = .ok (.iand, 1) := by decide +kernel
theorem dJ2_getChar_3b067_53 : decode cJ2_getChar_3b067 53 = .ok (.getstatic 63, 3) := by decide +kernel
theorem dJ2_getChar_3b067_56 : decode cJ2_getChar_3b067 56 = .ok (.ishl, 1) := by decide +kernel
theorem dJ2_getChar_3b067_57 : decode cJ2_getChar_3b067 57 = .ok (.ior, 1) := by decide +kernel
theorem dJ2_getChar_3b067_58 : decode cJ2_getChar_3b067 58 = .ok (.i2c, 1) := by decide +kernel
theorem dJ2_getChar_3b067_59 : decode cJ2_getChar_3b067 59 = .ok (.ireturn, 1) := by decide +kernel
theorem dJ2_length_9d52b_0 : decode cJ2_length_9d52b 0 = .ok (.aload_n 0, 1) := by decide +kernel
theorem dJ2_length_9d52b_1 : decode cJ2_length_9d52b 1 = .ok (.arraylength, 1) := by decide +kernel
theorem dJ2_length_9d52b_2 : decode cJ2_length_9d52b 2 = .ok (.iconst 1, 1) := by decide +kernel
theorem dJ2_length_9d52b_3 : decode cJ2_length_9d52b 3 = .ok (.ishr, 1) := by decide +kernel
theorem dJ2_length_9d52b_4 : decode cJ2_length_9d52b 4 = .ok (.ireturn, 1) := by decide +kernel
theorem dJ2_charAt_3b067_0 : decode cJ2_charAt_3b067 0 = .ok (.iload_n 1, 1) := by decide +kernel
theorem dJ2_charAt_3b067_1 : decode cJ2_charAt_3b067 1 = .ok (.aload_n 0, 1) := by decide +kernel
theorem dJ2_charAt_3b067_2 : decode cJ2_charAt_3b067 2 = .ok (.invokestatic 67, 3) := by decide +kernel
theorem dJ2_charAt_3b067_5 : decode cJ2_charAt_3b067 5 = .ok (.aload_n 0, 1) := by decide +kernel
theorem dJ2_charAt_3b067_6 : decode cJ2_charAt_3b067 6 = .ok (.iload_n 1, 1) := by decide +kernel
theorem dJ2_charAt_3b067_7 : decode cJ2_charAt_3b067 7 = .ok (.invokestatic 71, 3) := by decide +kernel
theorem dJ2_charAt_3b067_10 : decode cJ2_charAt_3b067 10 = .ok (.ireturn, 1) := by decide +kernel
theorem dJ2_checkIndex_2214a_0 : decode cJ2_checkIndex_2214a 0 = .ok (.iload_n 0, 1) := by decide +kernel
theorem dJ2_checkIndex_2214a_1 : decode cJ2_checkIndex_2214a 1 = .ok (.aload_n 1, 1) := by decide +kernel
theorem dJ2_checkIndex_2214a_2 : decode cJ2_checkIndex_2214a 2 = .ok (.invokestatic 48, 3) := by decide +kernel
theorem dJ2_checkIndex_2214a_5 : decode cJ2_checkIndex_2214a 5 = .ok (.invokestatic 414, 3) := by decide +kernel
theorem dJ2_checkIndex_2214a_8 : decode cJ2_checkIndex_2214a 8 = .ok (.return_, 1) := by decide +kernel
theorem dJ3_checkIndex_8e157_0 : decode cJ3_checkIndex_8e157 0 = .ok (.iload_n 0, 1) := by decide +kernel
theorem dJ3_checkIndex_8e157_1 : decode cJ3_checkIndex_8e157 1 = .ok (.ifCond .lt 8, 3) := by decide +kernel
theorem dJ3_checkIndex_8e157_4 : decode cJ3_checkIndex_8e157 4 = .ok (.iload_n 0, 1) := by decide +kernel
theorem dJ3_checkIndex_8e157_5 : decode cJ3_checkIndex_8e157 5 = .ok (.iload_n 1, 1) := by decide +kernel
theorem dJ3_checkIndex_8e157_6 : decode cJ3_checkIndex_8e157 6 = .ok (.if_icmp .lt 10, 3) := by decide +kernel
theorem dJ3_checkIndex_8e157_9 : decode cJ3_checkIndex_8e157 9 = .ok (.aload_n 2, 1) := by decide +kernel
theorem dJ3_checkIndex_8e157_10 : decode cJ3_checkIndex_8e157 10 = .ok (.iload_n 0, 1) := by decide +kernel
theorem dJ3_checkIndex_8e157_11 : decode cJ3_checkIndex_8e157 11 = .ok (.iload_n 1, 1) := by decide +kernel
theorem dJ3_checkIndex_8e157_12 : decode cJ3_checkIndex_8e157 12 = .ok (.invokestatic 95, 3) := by decide +kernel
theorem dJ3_checkIndex_8e157_15 : decode cJ3_checkIndex_8e157 15 = .ok (.athrow, 1) := by decide +kernel
theorem dJ3_checkIndex_8e157_16 : decode cJ3_checkIndex_8e157 16 = .ok (.iload_n 0, 1) := by decide +kernel
theorem dJ3_checkIndex_8e157_17 : decode cJ3_checkIndex_8e157 17 = .ok (.ireturn, 1) := by decide +kernel
theorem dL_law_0 : decode cL_law 0 = .ok (.new 7, 3) := by decide +kernel
theorem dL_law_3 : decode cL_law 3 = .ok (.dup, 1) := by decide +kernel
theorem dL_law_4 : decode cL_law 4 = .ok (.invokespecial 9, 3) := by decide +kernel
theorem dL_law_7 : decode cL_law 7 = .ok (.astore_n 1, 1) := by decide +kernel
theorem dL_law_8 : decode cL_law 8 = .ok (.new 10, 3) := by decide +kernel
theorem dL_law_11 : decode cL_law 11 = .ok (.dup, 1) := by decide +kernel
theorem dL_law_12 : decode cL_law 12 = .ok (.invokespecial 12, 3) := by decide +kernel
theorem dL_law_15 : decode cL_law 15 = .ok (.astore_n 2, 1) := by decide +kernel
theorem dL_law_16 : decode cL_law 16 = .ok (.iconst 0, 1) := by decide +kernel
theorem dL_law_17 : decode cL_law 17 = .ok (.istore_n 3, 1) := by decide +kernel
theorem dL_law_18 : decode cL_law 18 = .ok (.iload_n 3, 1) := by decide +kernel
theorem dL_law_19 : decode cL_law 19 = .ok (.aload_n 0, 1) := by decide +kernel
theorem dL_law_20 : decode cL_law 20 = .ok (.arraylength, 1) := by decide +kernel
theorem dL_law_21 : decode cL_law 21 = .ok (.bipush 6, 2) := by decide +kernel
theorem dL_law_23 : decode cL_law 23 = .ok (.isub, 1) := by decide +kernel
theorem dL_law_24 : decode cL_law 24 = .ok (.if_icmp .gt 858, 3) := by decide +kernel
theorem dL_law_27 : decode cL_law 27 = .ok (.aload_n 0, 1) := by decide +kernel
theorem dL_law_28 : decode cL_law 28 = .ok (.iload_n 3, 1) := by decide +kernel
theorem dL_law_29 : decode cL_law 29 = .ok (.iaload, 1) := by decide +kernel
theorem dL_law_30 : decode cL_law 30 = .ok (.bipush 31, 2) := by decide +kernel
theorem dL_law_32 : decode cL_law 32 = .ok (.iand, 1) := by decide +kernel
theorem dL_law_33 : decode cL_law 33 = .ok (.tableswitch 843 0 30 #[139, 202, 225, 238, 261, 294, 317, 360, 393, 416, 429, 452, 476, 489, 502, 515, 538, 551, 564, 577, 590, 613, 636, 649, 672, 705, 738, 761, 774, 797, 820], 139) := by decide +kernel
theorem dL_law_172 : decode cL_law 172 = .ok (.aload_n 1, 1) := by decide +kernel
theorem dL_law_173 : decode cL_law 173 = .ok (.aload_n 0, 1) := by decide +kernel
theorem dL_law_174 : decode cL_law 174 = .ok (.iload_n 3, 1) := by decide +kernel
theorem dL_law_175 : decode cL_law 175 = .ok (.iconst 1, 1) := by decide +kernel
theorem dL_law_176 : decode cL_law 176 = .ok (.iadd, 1) := by decide +kernel
theorem dL_law_177 : decode cL_law 177 = .ok (.iaload, 1) := by decide +kernel
theorem dL_law_178 : decode cL_law 178 = .ok (.aload_n 0, 1) := by decide +kernel
theorem dL_law_179 : decode cL_law 179 = .ok (.iload_n 3, 1) := by decide +kernel
theorem dL_law_180 : decode cL_law 180 = .ok (.iconst 2, 1) := by decide +kernel
theorem dL_law_181 : decode cL_law 181 = .ok (.iadd, 1) := by decide +kernel
theorem dL_law_182 : decode cL_law 182 = .ok (.iaload, 1) := by decide +kernel
theorem dL_law_183 : decode cL_law 183 = .ok (.aload_n 0, 1) := by decide +kernel
theorem dL_law_184 : decode cL_law 184 = .ok (.iload_n 3, 1) := by decide +kernel
theorem dL_law_185 : decode cL_law 185 = .ok (.iconst 3, 1) := by decide +kernel
theorem dL_law_186 : decode cL_law 186 = .ok (.iadd, 1) := by decide +kernel
theorem dL_law_187 : decode cL_law 187 = .ok (.iaload, 1) := by decide +kernel
theorem dL_law_188 : decode cL_law 188 = .ok (.aload_n 0, 1) := by decide +kernel
theorem dL_law_189 : decode cL_law 189 = .ok (.iload_n 3, 1) := by decide +kernel
theorem dL_law_190 : decode cL_law 190 = .ok (.iconst 4, 1) := by decide +kernel
theorem dL_law_191 : decode cL_law 191 = .ok (.iadd, 1) := by decide +kernel
theorem dL_law_192 : decode cL_law 192 = .ok (.iaload, 1) := by decide +kernel
theorem dL_law_193 : decode cL_law 193 = .ok (.aload_n 0, 1) := by decide +kernel
theorem dL_law_194 : decode cL_law 194 = .ok (.iload_n 3, 1) := by decide +kernel
theorem dL_law_195 : decode cL_law 195 = .ok (.iconst 5, 1) := by decide +kernel
theorem dL_law_196 : decode cL_law 196 = .ok (.iadd, 1) := by decide +kernel
theorem dL_law_197 : decode cL_law 197 = .ok (.iaload, 1) := by decide +kernel
theorem dL_law_198 : decode cL_law 198 = .ok (.invokevirtual 13, 3) := by decide +kernel
theorem dL_law_201 : decode cL_law 201 = .ok (.aload_n 2, 1) := by decide +kernel
theorem dL_law_202 : decode cL_law 202 = .ok (.aload_n 0, 1) := by decide +kernel
theorem dL_law_203 : decode cL_law 203 = .ok (.iload_n 3, 1) := by decide +kernel
theorem dL_law_204 : decode cL_law 204 = .ok (.iconst 1, 1) := by decide +kernel
theorem dL_law_205 : decode cL_law 205 = .ok (.iadd, 1) := by decide +kernel
theorem dL_law_206 : decode cL_law 206 = .ok (.iaload, 1) := by decide +kernel
theorem dL_law_207 : decode cL_law 207 = .ok (.aload_n 0, 1) := by decide +kernel
theorem dL_law_208 : decode cL_law 208 = .ok (.iload_n 3, 1) := by decide +kernel
theorem dL_law_209 : decode cL_law 209 = .ok (.iconst 2, 1) := by decide +kernel
theorem dL_law_210 : decode cL_law 210 = .ok (.iadd, 1) := by decide +kernel
theorem dL_law_211 : decode cL_law 211 = .ok (.iaload, 1) := by decide +kernel
theorem dL_law_212 : decode cL_law 212 = .ok (.aload_n 0, 1) := by decide +kernel
theorem dL_law_213 : decode cL_law 213 = .ok (.iload_n 3, 1) := by decide +kernel
theorem dL_law_214 : decode cL_law 214 = .ok (.iconst 3, 1) := by decide +kernel
theorem dL_law_215 : decode cL_law 215 = .ok (.iadd, 1) := by decide +kernel
theorem dL_law_216 : decode cL_law 216 = .ok (.iaload, 1) := by decide +kernel
theorem dL_law_217 : decode cL_law 217 = .ok (.aload_n 0, 1) := by decide +kernel
theorem dL_law_218 : decode cL_law 218 = .ok (.iload_n 3, 1) := by decide +kernel
theorem dL_law_219 : decode cL_law 219 = .ok (.iconst 4, 1) := by decide +kernel
theorem dL_law_220 : decode cL_law 220 = .ok (.iadd, 1) := by decide +kernel
theorem dL_law_221 : decode cL_law 221 = .ok (.iaload, 1) := by decide +kernel
theorem dL_law_222 : decode cL_law 222 = .ok (.aload_n 0, 1) := by decide +kernel
theorem dL_law_223 : decode cL_law 223 = .ok (.iload_n 3, 1) := by decide +kernel
theorem dL_law_224 : decode cL_law 224 = .ok (.iconst 5, 1) := by decide +kernel
theorem dL_law_225 : decode cL_law 225 = .ok (.iadd, 1) := by decide +kernel
theorem dL_law_226 : decode cL_law 226 = .ok (.iaload, 1) := by decide +kernel
theorem dL_law_227 : decode cL_law 227 = .ok (.invokevirtual 17, 3) := by decide +kernel
theorem dL_law_230 : decode cL_law 230 = .ok (.if_icmp .eq 646, 3) := by decide +kernel
theorem dL_law_233 : decode cL_law 233 = .ok (.iconst 0, 1) := by decide +kernel
theorem dL_law_234 : decode cL_law 234 = .ok (.ireturn, 1) := by decide +kernel
theorem dL_law_235 : decode cL_law 235 = .ok (.aload_n 1, 1) := by decide +kernel
theorem dL_law_236 : decode cL_law 236 = .ok (.aload_n 0, 1) := by decide +kernel
theorem dL_law_237 : decode cL_law 237 = .ok (.iload_n 3, 1) := by decide +kernel
theorem dL_law_238 : decode cL_law 238 = .ok (.iconst 1, 1) := by decide +kernel
theorem dL_law_239 : decode cL_law 239 = .ok (.iadd, 1) := by decide +kernel
theorem dL_law_240 : decode cL_law 240 = .ok (.iaload, 1) := by decide +kernel
theorem dL_law_241 : decode cL_law 241 = .ok (.invokevirtual 18, 3) := by decide +kernel
theorem dL_law_244 : decode cL_law 244 = .ok (.aload_n 2, 1) := by decide +kernel
theorem dL_law_245 : decode cL_law 245 = .ok (.aload_n 0, 1) := by decide +kernel
theorem dL_law_246 : decode cL_law 246 = .ok (.iload_n 3, 1) := by decide +kernel
theorem dL_law_247 : decode cL_law 247 = .ok (.iconst 1, 1) := by decide +kernel
theorem dL_law_248 : decode cL_law 248 = .ok (.iadd, 1) := by decide +kernel
theorem dL_law_249 : decode cL_law 249 = .ok (.iaload, 1) := by decide +kernel
theorem dL_law_250 : decode cL_law 250 = .ok (.invokevirtual 22, 3) := by decide +kernel
theorem dL_law_253 : decode cL_law 253 = .ok (.if_icmp .eq 623, 3) := by decide +kernel
theorem dL_law_256 : decode cL_law 256 = .ok (.iconst 0, 1) := by decide +kernel
theorem dL_law_257 : decode cL_law 257 = .ok (.ireturn, 1) := by decide +kernel
theorem dL_law_258 : decode cL_law 258 = .ok (.aload_n 1, 1) := by decide +kernel
theorem dL_law_259 : decode cL_law 259 = .ok (.invokevirtual 23, 3) := by decide +kernel
theorem dL_law_262 : decode cL_law 262 = .ok (.aload_n 2, 1) := by decide +kernel
theorem dL_law_263 : decode cL_law 263 = .ok (.invokevirtual 27, 3) := by decide +kernel
theorem dL_law_266 : decode cL_law 266 = .ok (.if_icmp .eq 610, 3) := by decide +kernel
theorem dL_law_269 : decode cL_law 269 = .ok (.iconst 0, 1) := by decide +kernel
theorem dL_law_270 : decode cL_law 270 = .ok (.ireturn, 1) := by decide +kernel
theorem dL_law_271 : decode cL_law 271 = .ok (.aload_n 1, 1) := by decide +kernel
theorem dL_law_272 : decode cL_law 272 = .ok (.aload_n 0, 1) := by decide +kernel
theorem dL_law_273 : decode cL_law 273 = .ok (.iload_n 3, 1) := by decide +kernel
theorem dL_law_274 : decode cL_law 274 = .ok (.iconst 1, 1) := by decide +kernel
theorem dL_law_275 : decode cL_law 275 = .ok (.iadd, 1) := by decide +kernel
theorem dL_law_276 : decode cL_law 276 = .ok (.iaload, 1) := by decide +kernel
theorem dL_law_277 : decode cL_law 277 = .ok (.invokevirtual 28, 3) := by decide +kernel
theorem dL_law_280 : decode cL_law 280 = .ok (.aload_n 2, 1) := by decide +kernel
theorem dL_law_281 : decode cL_law 281 = .ok (.aload_n 0, 1) := by decide +kernel
theorem dL_law_282 : decode cL_law 282 = .ok (.iload_n 3, 1) := by decide +kernel
theorem dL_law_283 : decode cL_law 283 = .ok (.iconst 1, 1) := by decide +kernel
theorem dL_law_284 : decode cL_law 284 = .ok (.iadd, 1) := by decide +kernel
theorem dL_law_285 : decode cL_law 285 = .ok (.iaload, 1) := by decide +kernel
theorem dL_law_286 : decode cL_law 286 = .ok (.invokevirtual 31, 3) := by decide +kernel
theorem dL_law_289 : decode cL_law 289 = .ok (.if_icmp .eq 587, 3) := by decide +kernel
theorem dL_law_292 : decode cL_law 292 = .ok (.iconst 0, 1) := by decide +kernel
theorem dL_law_293 : decode cL_law 293 = .ok (.ireturn, 1) := by decide +kernel
theorem dL_law_294 : decode cL_law 294 = .ok (.aload_n 1, 1) := by decide +kernel
theorem dL_law_295 : decode cL_law 295 = .ok (.aload_n 0, 1) := by decide +kernel
theorem dL_law_296 : decode cL_law 296 = .ok (.iload_n 3, 1) := by decide +kernel
theorem dL_law_297 : decode cL_law 297 = .ok (.iconst 1, 1) := by decide +kernel
theorem dL_law_298 : decode cL_law 298 = .ok (.iadd, 1) := by decide +kernel
theorem dL_law_299 : decode cL_law 299 = .ok (.iaload, 1) := by decide +kernel
theorem dL_law_300 : decode cL_law 300 = .ok (.aload_n 0, 1) := by decide +kernel
theorem dL_law_301 : decode cL_law 301 = .ok (.iload_n 3, 1) := by decide +kernel
theorem dL_law_302 : decode cL_law 302 = .ok (.iconst 2, 1) := by decide +kernel
theorem dL_law_303 : decode cL_law 303 = .ok (.iadd, 1) := by decide +kernel
theorem dL_law_304 : decode cL_law 304 = .ok (.iaload, 1) := by decide +kernel
theorem dL_law_305 : decode cL_law 305 = .ok (.invokevirtual 32, 3) := by decide +kernel
theorem dL_law_308 : decode cL_law 308 = .ok (.aload_n 2, 1) := by decide +kernel
theorem dL_law_309 : decode cL_law 309 = .ok (.aload_n 0, 1) := by decide +kernel
theorem dL_law_310 : decode cL_law 310 = .ok (.iload_n 3, 1) := by decide +kernel
theorem dL_law_311 : decode cL_law 311 = .ok (.iconst 1, 1) := by decide +kernel
theorem dL_law_312 : decode cL_law 312 = .ok (.iadd, 1) := by decide +kernel
theorem dL_law_313 : decode cL_law 313 = .ok (.iaload, 1) := by decide +kernel
theorem dL_law_314 : decode cL_law 314 = .ok (.aload_n 0, 1) := by decide +kernel
theorem dL_law_315 : decode cL_law 315 = .ok (.iload_n 3, 1) := by decide +kernel
theorem dL_law_316 : decode cL_law 316 = .ok (.iconst 2, 1) := by decide +kernel
theorem dL_law_317 : decode cL_law 317 = .ok (.iadd, 1) := by decide +kernel
theorem dL_law_318 : decode cL_law 318 = .ok (.iaload, 1) := by decide +kernel
theorem dL_law_319 : decode cL_law 319 = .ok (.invokevirtual 36, 3) := by decide +kernel
theorem dL_law_322 : decode cL_law 322 = .ok (.if_icmp .eq 554, 3) := by decide +kernel
theorem dL_law_325 : decode cL_law 325 = .ok (.iconst 0, 1) := by decide +kernel
theorem dL_law_326 : decode cL_law 326 = .ok (.ireturn, 1) := by decide +kernel
theorem dL_law_327 : decode cL_law 327 = .ok (.aload_n 1, 1) := by decide +kernel
theorem dL_law_328 : decode cL_law 328 = .ok (.aload_n 0, 1) := by decide +kernel
theorem dL_law_329 : decode cL_law 329 = .ok (.iload_n 3, 1) := by decide +kernel
theorem dL_law_330 : decode cL_law 330 = .ok (.iconst 1, 1) := by decide +kernel
theorem dL_law_331 : decode cL_law 331 = .ok (.iadd, 1) := by decide +kernel
theorem dL_law_332 : decode cL_law 332 = .ok (.iaload, 1) := by decide +kernel
theorem dL_law_333 : decode cL_law 333 = .ok (.invokevirtual 37, 3) := by decide +kernel
theorem dL_law_336 : decode cL_law 336 = .ok (.aload_n 2, 1) := by decide +kernel
theorem dL_law_337 : decode cL_law 337 = .ok (.aload_n 0, 1) := by decide +kernel
theorem dL_law_338 : decode cL_law 338 = .ok (.iload_n 3, 1) := by decide +kernel
theorem dL_law_339 : decode cL_law 339 = .ok (.iconst 1, 1) := by decide +kernel
theorem dL_law_340 : decode cL_law 340 = .ok (.iadd, 1) := by decide +kernel
theorem dL_law_341 : decode cL_law 341 = .ok (.iaload, 1) := by decide +kernel
theorem dL_law_342 : decode cL_law 342 = .ok (.invokevirtual 40, 3) := by decide +kernel
theorem dL_law_345 : decode cL_law 345 = .ok (.if_icmp .eq 531, 3) := by decide +kernel
theorem dL_law_348 : decode cL_law 348 = .ok (.iconst 0, 1) := by decide +kernel
theorem dL_law_349 : decode cL_law 349 = .ok (.ireturn, 1) := by decide +kernel
theorem dL_law_350 : decode cL_law 350 = .ok (.aload_n 1, 1) := by decide +kernel
theorem dL_law_351 : decode cL_law 351 = .ok (.aload_n 0, 1) := by decide +kernel
theorem dL_law_352 : decode cL_law 352 = .ok (.iload_n 3, 1) := by decide +kernel
theorem dL_law_353 : decode cL_law 353 = .ok (.iconst 1, 1) := by decide +kernel
theorem dL_law_354 : decode cL_law 354 = .ok (.iadd, 1) := by decide +kernel
theorem dL_law_355 : decode cL_law 355 = .ok (.iaload, 1) := by decide +kernel
theorem dL_law_356 : decode cL_law 356 = .ok (.aload_n 0, 1) := by decide +kernel
theorem dL_law_357 : decode cL_law 357 = .ok (.iload_n 3, 1) := by decide +kernel
theorem dL_law_358 : decode cL_law 358 = .ok (.iconst 2, 1) := by decide +kernel
theorem dL_law_359 : decode cL_law 359 = .ok (.iadd, 1) := by decide +kernel
theorem dL_law_360 : decode cL_law 360 = .ok (.iaload, 1) := by decide +kernel
theorem dL_law_361 : decode cL_law 361 = .ok (.aload_n 0, 1) := by decide +kernel
theorem dL_law_362 : decode cL_law 362 = .ok (.iload_n 3, 1) := by decide +kernel
theorem dL_law_363 : decode cL_law 363 = .ok (.iconst 3, 1) := by decide +kernel
theorem dL_law_364 : decode cL_law 364 = .ok (.iadd, 1) := by decide +kernel
theorem dL_law_365 : decode cL_law 365 = .ok (.iaload, 1) := by decide +kernel
theorem dL_law_366 : decode cL_law 366 = .ok (.invokevirtual 41, 3) := by decide +kernel
theorem dL_law_369 : decode cL_law 369 = .ok (.aload_n 2, 1) := by decide +kernel
theorem dL_law_370 : decode cL_law 370 = .ok (.aload_n 0, 1) := by decide +kernel
theorem dL_law_371 : decode cL_law 371 = .ok (.iload_n 3, 1) := by decide +kernel
theorem dL_law_372 : decode cL_law 372 = .ok (.iconst 1, 1) := by decide +kernel
theorem dL_law_373 : decode cL_law 373 = .ok (.iadd, 1) := by decide +kernel
theorem dL_law_374 : decode cL_law 374 = .ok (.iaload, 1) := by decide +kernel
theorem dL_law_375 : decode cL_law 375 = .ok (.aload_n 0, 1) := by decide +kernel
theorem dL_law_376 : decode cL_law 376 = .ok (.iload_n 3, 1) := by decide +kernel
theorem dL_law_377 : decode cL_law 377 = .ok (.iconst 2, 1) := by decide +kernel
theorem dL_law_378 : decode cL_law 378 = .ok (.iadd, 1) := by decide +kernel
theorem dL_law_379 : decode cL_law 379 = .ok (.iaload, 1) := by decide +kernel
theorem dL_law_380 : decode cL_law 380 = .ok (.aload_n 0, 1) := by decide +kernel
theorem dL_law_381 : decode cL_law 381 = .ok (.iload_n 3, 1) := by decide +kernel
theorem dL_law_382 : decode cL_law 382 = .ok (.iconst 3, 1) := by decide +kernel
theorem dL_law_383 : decode cL_law 383 = .ok (.iadd, 1) := by decide +kernel
theorem dL_law_384 : decode cL_law 384 = .ok (.iaload, 1) := by decide +kernel
theorem dL_law_385 : decode cL_law 385 = .ok (.invokevirtual 45, 3) := by decide +kernel
theorem dL_law_388 : decode cL_law 388 = .ok (.if_icmp .eq 488, 3) := by decide +kernel
theorem dL_law_391 : decode cL_law 391 = .ok (.iconst 0, 1) := by decide +kernel
theorem dL_law_392 : decode cL_law 392 = .ok (.ireturn, 1) := by decide +kernel
theorem dL_law_393 : decode cL_law 393 = .ok (.aload_n 1, 1) := by decide +kernel
theorem dL_law_394 : decode cL_law 394 = .ok (.aload_n 0, 1) := by decide +kernel
theorem dL_law_395 : decode cL_law 395 = .ok (.iload_n 3, 1) := by decide +kernel
theorem dL_law_396 : decode cL_law 396 = .ok (.iconst 1, 1) := by decide +kernel
theorem dL_law_397 : decode cL_law 397 = .ok (.iadd, 1) := by decide +kernel
theorem dL_law_398 : decode cL_law 398 = .ok (.iaload, 1) := by decide +kernel
theorem dL_law_399 : decode cL_law 399 = .ok (.aload_n 0, 1) := by decide +kernel
theorem dL_law_400 : decode cL_law 400 = .ok (.iload_n 3, 1) := by decide +kernel
theorem dL_law_401 : decode cL_law 401 = .ok (.iconst 2, 1) := by decide +kernel
theorem dL_law_402 : decode cL_law 402 = .ok (.iadd, 1) := by decide +kernel
theorem dL_law_403 : decode cL_law 403 = .ok (.iaload, 1) := by decide +kernel
theorem dL_law_404 : decode cL_law 404 = .ok (.invokevirtual 46, 3) := by decide +kernel
theorem dL_law_407 : decode cL_law 407 = .ok (.aload_n 2, 1) := by decide +kernel
theorem dL_law_408 : decode cL_law 408 = .ok (.aload_n 0, 1) := by decide +kernel
theorem dL_law_409 : decode cL_law 409 = .ok (.iload_n 3, 1) := by decide +kernel
theorem dL_law_410 : decode cL_law 410 = .ok (.iconst 1, 1) := by decide +kernel
theorem dL_law_411 : decode cL_law 411 = .ok (.iadd, 1) := by decide +kernel
theorem dL_law_412 : decode cL_law 412 = .ok (.iaload, 1) := by decide +kernel
theorem dL_law_413 : decode cL_law 413 = .ok (.aload_n 0, 1) := by decide +kernel
theorem dL_law_414 : decode cL_law 414 = .ok (.iload_n 3, 1) := by decide +kernel
theorem dL_law_415 : decode cL_law 415 = .ok (.iconst 2, 1) := by decide +kernel
theorem dL_law_416 : decode cL_law 416 = .ok (.iadd, 1) := by decide +kernel
theorem dL_law_417 : decode cL_law 417 = .ok (.iaload, 1) := by decide +kernel
theorem dL_law_418 : decode cL_law 418 = .ok (.invokevirtual 49, 3) := by decide +kernel
theorem dL_law_421 : decode cL_law 421 = .ok (.if_icmp .eq 455, 3) := by decide +kernel
theorem dL_law_424 : decode cL_law 424 = .ok (.iconst 0, 1) := by decide +kernel
theorem dL_law_425 : decode cL_law 425 = .ok (.ireturn, 1) := by decide +kernel
theorem dL_law_426 : decode cL_law 426 = .ok (.aload_n 1, 1) := by decide +kernel
theorem dL_law_427 : decode cL_law 427 = .ok (.aload_n 0, 1) := by decide +kernel
theorem dL_law_428 : decode cL_law 428 = .ok (.iload_n 3, 1) := by decide +kernel
theorem dL_law_429 : decode cL_law 429 = .ok (.iconst 1, 1) := by decide +kernel
theorem dL_law_430 : decode cL_law 430 = .ok (.iadd, 1) := by decide +kernel
theorem dL_law_431 : decode cL_law 431 = .ok (.iaload, 1) := by decide +kernel
theorem dL_law_432 : decode cL_law 432 = .ok (.invokevirtual 50, 3) := by decide +kernel
theorem dL_law_435 : decode cL_law 435 = .ok (.aload_n 2, 1) := by decide +kernel
theorem dL_law_436 : decode cL_law 436 = .ok (.aload_n 0, 1) := by decide +kernel
theorem dL_law_437 : decode cL_law 437 = .ok (.iload_n 3, 1) := by decide +kernel
theorem dL_law_438 : decode cL_law 438 = .ok (.iconst 1, 1) := by decide +kernel
theorem dL_law_439 : decode cL_law 439 = .ok (.iadd, 1) := by decide +kernel
theorem dL_law_440 : decode cL_law 440 = .ok (.iaload, 1) := by decide +kernel
theorem dL_law_441 : decode cL_law 441 = .ok (.invokevirtual 53, 3) := by decide +kernel
theorem dL_law_444 : decode cL_law 444 = .ok (.if_icmp .eq 432, 3) := by decide +kernel
theorem dL_law_447 : decode cL_law 447 = .ok (.iconst 0, 1) := by decide +kernel
theorem dL_law_448 : decode cL_law 448 = .ok (.ireturn, 1) := by decide +kernel
theorem dL_law_449 : decode cL_law 449 = .ok (.aload_n 1, 1) := by decide +kernel
theorem dL_law_450 : decode cL_law 450 = .ok (.invokevirtual 54, 3) := by decide +kernel
theorem dL_law_453 : decode cL_law 453 = .ok (.aload_n 2, 1) := by decide +kernel
theorem dL_law_454 : decode cL_law 454 = .ok (.invokevirtual 57, 3) := by decide +kernel
theorem dL_law_457 : decode cL_law 457 = .ok (.if_icmp .eq 419, 3) := by decide +kernel
theorem dL_law_460 : decode cL_law 460 = .ok (.iconst 0, 1) := by decide +kernel
theorem dL_law_461 : decode cL_law 461 = .ok (.ireturn, 1) := by decide +kernel
theorem dL_law_462 : decode cL_law 462 = .ok (.aload_n 1, 1) := by decide +kernel
theorem dL_law_463 : decode cL_law 463 = .ok (.aload_n 0, 1) := by decide +kernel
theorem dL_law_464 : decode cL_law 464 = .ok (.iload_n 3, 1) := by decide +kernel
theorem dL_law_465 : decode cL_law 465 = .ok (.iconst 1, 1) := by decide +kernel
theorem dL_law_466 : decode cL_law 466 = .ok (.iadd, 1) := by decide +kernel
theorem dL_law_467 : decode cL_law 467 = .ok (.iaload, 1) := by decide +kernel
theorem dL_law_468 : decode cL_law 468 = .ok (.invokevirtual 58, 3) := by decide +kernel
theorem dL_law_471 : decode cL_law 471 = .ok (.aload_n 2, 1) := by decide +kernel
theorem dL_law_472 : decode cL_law 472 = .ok (.aload_n 0, 1) := by decide +kernel
theorem dL_law_473 : decode cL_law 473 = .ok (.iload_n 3, 1) := by decide +kernel
theorem dL_law_474 : decode cL_law 474 = .ok (.iconst 1, 1) := by decide +kernel
theorem dL_law_475 : decode cL_law 475 = .ok (.iadd, 1) := by decide +kernel
theorem dL_law_476 : decode cL_law 476 = .ok (.iaload, 1) := by decide +kernel
theorem dL_law_477 : decode cL_law 477 = .ok (.invokevirtual 61, 3) := by decide +kernel
theorem dL_law_480 : decode cL_law 480 = .ok (.if_icmp .eq 396, 3) := by decide +kernel
theorem dL_law_483 : decode cL_law 483 = .ok (.iconst 0, 1) := by decide +kernel
theorem dL_law_484 : decode cL_law 484 = .ok (.ireturn, 1) := by decide +kernel
theorem dL_law_485 : decode cL_law 485 = .ok (.aload_n 1, 1) := by decide +kernel
theorem dL_law_486 : decode cL_law 486 = .ok (.aload_n 0, 1) := by decide +kernel
theorem dL_law_487 : decode cL_law 487 = .ok (.iload_n 3, 1) := by decide +kernel
theorem dL_law_488 : decode cL_law 488 = .ok (.iconst 1, 1) := by decide +kernel
theorem dL_law_489 : decode cL_law 489 = .ok (.iadd, 1) := by decide +kernel
theorem dL_law_490 : decode cL_law 490 = .ok (.iaload, 1) := by decide +kernel
theorem dL_law_491 : decode cL_law 491 = .ok (.invokevirtual 62, 3) := by decide +kernel
theorem dL_law_494 : decode cL_law 494 = .ok (.aload_n 2, 1) := by decide +kernel
theorem dL_law_495 : decode cL_law 495 = .ok (.aload_n 0, 1) := by decide +kernel
theorem dL_law_496 : decode cL_law 496 = .ok (.iload_n 3, 1) := by decide +kernel
theorem dL_law_497 : decode cL_law 497 = .ok (.iconst 1, 1) := by decide +kernel
theorem dL_law_498 : decode cL_law 498 = .ok (.iadd, 1) := by decide +kernel
theorem dL_law_499 : decode cL_law 499 = .ok (.iaload, 1) := by decide +kernel
theorem dL_law_500 : decode cL_law 500 = .ok (.invokevirtual 66, 3) := by decide +kernel
theorem dL_law_503 : decode cL_law 503 = .ok (.lcmp, 1) := by decide +kernel
theorem dL_law_504 : decode cL_law 504 = .ok (.ifCond .eq 372, 3) := by decide +kernel
theorem dL_law_507 : decode cL_law 507 = .ok (.iconst 0, 1) := by decide +kernel
theorem dL_law_508 : decode cL_law 508 = .ok (.ireturn, 1) := by decide +kernel
theorem dL_law_509 : decode cL_law 509 = .ok (.aload_n 1, 1) := by decide +kernel
theorem dL_law_510 : decode cL_law 510 = .ok (.invokevirtual 67, 3) := by decide +kernel
theorem dL_law_513 : decode cL_law 513 = .ok (.aload_n 2, 1) := by decide +kernel
theorem dL_law_514 : decode cL_law 514 = .ok (.invokevirtual 70, 3) := by decide +kernel
theorem dL_law_517 : decode cL_law 517 = .ok (.if_icmp .eq 359, 3) := by decide +kernel
theorem dL_law_520 : decode cL_law 520 = .ok (.iconst 0, 1) := by decide +kernel
theorem dL_law_521 : decode cL_law 521 = .ok (.ireturn, 1) := by decide +kernel
theorem dL_law_522 : decode cL_law 522 = .ok (.aload_n 1, 1) := by decide +kernel
theorem dL_law_523 : decode cL_law 523 = .ok (.invokevirtual 71, 3) := by decide +kernel
theorem dL_law_526 : decode cL_law 526 = .ok (.aload_n 2, 1) := by decide +kernel
theorem dL_law_527 : decode cL_law 527 = .ok (.invokevirtual 74, 3) := by decide +kernel
theorem dL_law_530 : decode cL_law 530 = .ok (.if_icmp .eq 346, 3) := by decide +kernel
theorem dL_law_533 : decode cL_law 533 = .ok (.iconst 0, 1) := by decide +kernel
theorem dL_law_534 : decode cL_law 534 = .ok (.ireturn, 1) := by decide +kernel
theorem dL_law_535 : decode cL_law 535 = .ok (.aload_n 1, 1) := by decide +kernel
theorem dL_law_536 : decode cL_law 536 = .ok (.invokevirtual 75, 3) := by decide +kernel
theorem dL_law_539 : decode cL_law 539 = .ok (.aload_n 2, 1) := by decide +kernel
theorem dL_law_540 : decode cL_law 540 = .ok (.invokevirtual 78, 3) := by decide +kernel
theorem dL_law_543 : decode cL_law 543 = .ok (.if_icmp .eq 333, 3) := by decide +kernel
theorem dL_law_546 : decode cL_law 546 = .ok (.iconst 0, 1) := by decide +kernel
theorem dL_law_547 : decode cL_law 547 = .ok (.ireturn, 1) := by decide +kernel
theorem dL_law_548 : decode cL_law 548 = .ok (.aload_n 1, 1) := by decide +kernel
theorem dL_law_549 : decode cL_law 549 = .ok (.aload_n 0, 1) := by decide +kernel
theorem dL_law_550 : decode cL_law 550 = .ok (.iload_n 3, 1) := by decide +kernel
theorem dL_law_551 : decode cL_law 551 = .ok (.iconst 1, 1) := by decide +kernel
theorem dL_law_552 : decode cL_law 552 = .ok (.iadd, 1) := by decide +kernel
theorem dL_law_553 : decode cL_law 553 = .ok (.iaload, 1) := by decide +kernel
theorem dL_law_554 : decode cL_law 554 = .ok (.invokevirtual 79, 3) := by decide +kernel
theorem dL_law_557 : decode cL_law 557 = .ok (.aload_n 2, 1) := by decide +kernel
theorem dL_law_558 : decode cL_law 558 = .ok (.aload_n 0, 1) := by decide +kernel
theorem dL_law_559 : decode cL_law 559 = .ok (.iload_n 3, 1) := by decide +kernel
theorem dL_law_560 : decode cL_law 560 = .ok (.iconst 1, 1) := by decide +kernel
theorem dL_law_561 : decode cL_law 561 = .ok (.iadd, 1) := by decide +kernel
theorem dL_law_562 : decode cL_law 562 = .ok (.iaload, 1) := by decide +kernel
theorem dL_law_563 : decode cL_law 563 = .ok (.invokevirtual 82, 3) := by decide +kernel
theorem dL_law_566 : decode cL_law 566 = .ok (.if_icmp .eq 310, 3) := by decide +kernel
theorem dL_law_569 : decode cL_law 569 = .ok (.iconst 0, 1) := by decide +kernel
theorem dL_law_570 : decode cL_law 570 = .ok (.ireturn, 1) := by decide +kernel
theorem dL_law_571 : decode cL_law 571 = .ok (.aload_n 1, 1) := by decide +kernel
theorem dL_law_572 : decode cL_law 572 = .ok (.invokevirtual 83, 3) := by decide +kernel
theorem dL_law_575 : decode cL_law 575 = .ok (.aload_n 2, 1) := by decide +kernel
theorem dL_law_576 : decode cL_law 576 = .ok (.invokevirtual 86, 3) := by decide +kernel
theorem dL_law_579 : decode cL_law 579 = .ok (.if_icmp .eq 297, 3) := by decide +kernel
theorem dL_law_582 : decode cL_law 582 = .ok (.iconst 0, 1) := by decide +kernel
theorem dL_law_583 : decode cL_law 583 = .ok (.ireturn, 1) := by decide +kernel
theorem dL_law_584 : decode cL_law 584 = .ok (.aload_n 1, 1) := by decide +kernel
theorem dL_law_585 : decode cL_law 585 = .ok (.invokevirtual 87, 3) := by decide +kernel
theorem dL_law_588 : decode cL_law 588 = .ok (.aload_n 2, 1) := by decide +kernel
theorem dL_law_589 : decode cL_law 589 = .ok (.invokevirtual 90, 3) := by decide +kernel
theorem dL_law_592 : decode cL_law 592 = .ok (.if_icmp .eq 284, 3) := by decide +kernel
theorem dL_law_595 : decode cL_law 595 = .ok (.iconst 0, 1) := by decide +kernel
theorem dL_law_596 : decode cL_law 596 = .ok (.ireturn, 1) := by decide +kernel
theorem dL_law_597 : decode cL_law 597 = .ok (.aload_n 1, 1) := by decide +kernel
theorem dL_law_598 : decode cL_law 598 = .ok (.invokevirtual 91, 3) := by decide +kernel
theorem dL_law_601 : decode cL_law 601 = .ok (.aload_n 2, 1) := by decide +kernel
theorem dL_law_602 : decode cL_law 602 = .ok (.invokevirtual 94, 3) := by decide +kernel
theorem dL_law_605 : decode cL_law 605 = .ok (.if_icmp .eq 271, 3) := by decide +kernel
theorem dL_law_608 : decode cL_law 608 = .ok (.iconst 0, 1) := by decide +kernel
theorem dL_law_609 : decode cL_law 609 = .ok (.ireturn, 1) := by decide +kernel
theorem dL_law_610 : decode cL_law 610 = .ok (.aload_n 1, 1) := by decide +kernel
theorem dL_law_611 : decode cL_law 611 = .ok (.invokevirtual 95, 3) := by decide +kernel
theorem dL_law_614 : decode cL_law 614 = .ok (.aload_n 2, 1) := by decide +kernel
theorem dL_law_615 : decode cL_law 615 = .ok (.invokevirtual 98, 3) := by decide +kernel
theorem dL_law_618 : decode cL_law 618 = .ok (.if_icmp .eq 258, 3) := by decide +kernel
theorem dL_law_621 : decode cL_law 621 = .ok (.iconst 0, 1) := by decide +kernel
theorem dL_law_622 : decode cL_law 622 = .ok (.ireturn, 1) := by decide +kernel
theorem dL_law_623 : decode cL_law 623 = .ok (.aload_n 1, 1) := by decide +kernel
theorem dL_law_624 : decode cL_law 624 = .ok (.aload_n 0, 1) := by decide +kernel
theorem dL_law_625 : decode cL_law 625 = .ok (.iload_n 3, 1) := by decide +kernel
theorem dL_law_626 : decode cL_law 626 = .ok (.iconst 1, 1) := by decide +kernel
theorem dL_law_627 : decode cL_law 627 = .ok (.iadd, 1) := by decide +kernel
theorem dL_law_628 : decode cL_law 628 = .ok (.iaload, 1) := by decide +kernel
theorem dL_law_629 : decode cL_law 629 = .ok (.invokevirtual 99, 3) := by decide +kernel
theorem dL_law_632 : decode cL_law 632 = .ok (.aload_n 2, 1) := by decide +kernel
theorem dL_law_633 : decode cL_law 633 = .ok (.aload_n 0, 1) := by decide +kernel
theorem dL_law_634 : decode cL_law 634 = .ok (.iload_n 3, 1) := by decide +kernel
theorem dL_law_635 : decode cL_law 635 = .ok (.iconst 1, 1) := by decide +kernel
theorem dL_law_636 : decode cL_law 636 = .ok (.iadd, 1) := by decide +kernel
theorem dL_law_637 : decode cL_law 637 = .ok (.iaload, 1) := by decide +kernel
theorem dL_law_638 : decode cL_law 638 = .ok (.invokevirtual 102, 3) := by decide +kernel
theorem dL_law_641 : decode cL_law 641 = .ok (.if_icmp .eq 235, 3) := by decide +kernel
theorem dL_law_644 : decode cL_law 644 = .ok (.iconst 0, 1) := by decide +kernel
theorem dL_law_645 : decode cL_law 645 = .ok (.ireturn, 1) := by decide +kernel
theorem dL_law_646 : decode cL_law 646 = .ok (.aload_n 1, 1) := by decide +kernel
theorem dL_law_647 : decode cL_law 647 = .ok (.aload_n 0, 1) := by decide +kernel
theorem dL_law_648 : decode cL_law 648 = .ok (.iload_n 3, 1) := by decide +kernel
theorem dL_law_649 : decode cL_law 649 = .ok (.iconst 1, 1) := by decide +kernel
theorem dL_law_650 : decode cL_law 650 = .ok (.iadd, 1) := by decide +kernel
theorem dL_law_651 : decode cL_law 651 = .ok (.iaload, 1) := by decide +kernel
theorem dL_law_652 : decode cL_law 652 = .ok (.invokevirtual 103, 3) := by decide +kernel
theorem dL_law_655 : decode cL_law 655 = .ok (.aload_n 2, 1) := by decide +kernel
theorem dL_law_656 : decode cL_law 656 = .ok (.aload_n 0, 1) := by decide +kernel
theorem dL_law_657 : decode cL_law 657 = .ok (.iload_n 3, 1) := by decide +kernel
theorem dL_law_658 : decode cL_law 658 = .ok (.iconst 1, 1) := by decide +kernel
theorem dL_law_659 : decode cL_law 659 = .ok (.iadd, 1) := by decide +kernel
theorem dL_law_660 : decode cL_law 660 = .ok (.iaload, 1) := by decide +kernel
theorem dL_law_661 : decode cL_law 661 = .ok (.invokevirtual 106, 3) := by decide +kernel
theorem dL_law_664 : decode cL_law 664 = .ok (.if_icmp .eq 212, 3) := by decide +kernel
theorem dL_law_667 : decode cL_law 667 = .ok (.iconst 0, 1) := by decide +kernel
theorem dL_law_668 : decode cL_law 668 = .ok (.ireturn, 1) := by decide +kernel
theorem dL_law_669 : decode cL_law 669 = .ok (.aload_n 1, 1) := by decide +kernel
theorem dL_law_670 : decode cL_law 670 = .ok (.invokevirtual 107, 3) := by decide +kernel
theorem dL_law_673 : decode cL_law 673 = .ok (.aload_n 2, 1) := by decide +kernel
theorem dL_law_674 : decode cL_law 674 = .ok (.invokevirtual 110, 3) := by decide +kernel
theorem dL_law_677 : decode cL_law 677 = .ok (.if_icmp .eq 199, 3) := by decide +kernel
theorem dL_law_680 : decode cL_law 680 = .ok (.iconst 0, 1) := by decide +kernel
theorem dL_law_681 : decode cL_law 681 = .ok (.ireturn, 1) := by decide +kernel
theorem dL_law_682 : decode cL_law 682 = .ok (.aload_n 1, 1) := by decide +kernel
theorem dL_law_683 : decode cL_law 683 = .ok (.aload_n 0, 1) := by decide +kernel
theorem dL_law_684 : decode cL_law 684 = .ok (.iload_n 3, 1) := by decide +kernel
theorem dL_law_685 : decode cL_law 685 = .ok (.iconst 1, 1) := by decide +kernel
theorem dL_law_686 : decode cL_law 686 = .ok (.iadd, 1) := by decide +kernel
theorem dL_law_687 : decode cL_law 687 = .ok (.iaload, 1) := by decide +kernel
theorem dL_law_688 : decode cL_law 688 = .ok (.invokevirtual 111, 3) := by decide +kernel
theorem dL_law_691 : decode cL_law 691 = .ok (.aload_n 2, 1) := by decide +kernel
theorem dL_law_692 : decode cL_law 692 = .ok (.aload_n 0, 1) := by decide +kernel
theorem dL_law_693 : decode cL_law 693 = .ok (.iload_n 3, 1) := by decide +kernel
theorem dL_law_694 : decode cL_law 694 = .ok (.iconst 1, 1) := by decide +kernel
theorem dL_law_695 : decode cL_law 695 = .ok (.iadd, 1) := by decide +kernel
theorem dL_law_696 : decode cL_law 696 = .ok (.iaload, 1) := by decide +kernel
theorem dL_law_697 : decode cL_law 697 = .ok (.invokevirtual 114, 3) := by decide +kernel
theorem dL_law_700 : decode cL_law 700 = .ok (.if_icmp .eq 176, 3) := by decide +kernel
theorem dL_law_703 : decode cL_law 703 = .ok (.iconst 0, 1) := by decide +kernel
theorem dL_law_704 : decode cL_law 704 = .ok (.ireturn, 1) := by decide +kernel
theorem dL_law_705 : decode cL_law 705 = .ok (.aload_n 1, 1) := by decide +kernel
theorem dL_law_706 : decode cL_law 706 = .ok (.aload_n 0, 1) := by decide +kernel
theorem dL_law_707 : decode cL_law 707 = .ok (.iload_n 3, 1) := by decide +kernel
theorem dL_law_708 : decode cL_law 708 = .ok (.iconst 1, 1) := by decide +kernel
theorem dL_law_709 : decode cL_law 709 = .ok (.iadd, 1) := by decide +kernel
theorem dL_law_710 : decode cL_law 710 = .ok (.iaload, 1) := by decide +kernel
theorem dL_law_711 : decode cL_law 711 = .ok (.aload_n 0, 1) := by decide +kernel
theorem dL_law_712 : decode cL_law 712 = .ok (.iload_n 3, 1) := by decide +kernel
theorem dL_law_713 : decode cL_law 713 = .ok (.iconst 2, 1) := by decide +kernel
theorem dL_law_714 : decode cL_law 714 = .ok (.iadd, 1) := by decide +kernel
theorem dL_law_715 : decode cL_law 715 = .ok (.iaload, 1) := by decide +kernel
theorem dL_law_716 : decode cL_law 716 = .ok (.invokevirtual 115, 3) := by decide +kernel
theorem dL_law_719 : decode cL_law 719 = .ok (.aload_n 2, 1) := by decide +kernel
theorem dL_law_720 : decode cL_law 720 = .ok (.aload_n 0, 1) := by decide +kernel
theorem dL_law_721 : decode cL_law 721 = .ok (.iload_n 3, 1) := by decide +kernel
theorem dL_law_722 : decode cL_law 722 = .ok (.iconst 1, 1) := by decide +kernel
theorem dL_law_723 : decode cL_law 723 = .ok (.iadd, 1) := by decide +kernel
theorem dL_law_724 : decode cL_law 724 = .ok (.iaload, 1) := by decide +kernel
theorem dL_law_725 : decode cL_law 725 = .ok (.aload_n 0, 1) := by decide +kernel
theorem dL_law_726 : decode cL_law 726 = .ok (.iload_n 3, 1) := by decide +kernel
theorem dL_law_727 : decode cL_law 727 = .ok (.iconst 2, 1) := by decide +kernel
theorem dL_law_728 : decode cL_law 728 = .ok (.iadd, 1) := by decide +kernel
theorem dL_law_729 : decode cL_law 729 = .ok (.iaload, 1) := by decide +kernel
theorem dL_law_730 : decode cL_law 730 = .ok (.invokevirtual 118, 3) := by decide +kernel
theorem dL_law_733 : decode cL_law 733 = .ok (.if_icmp .eq 143, 3) := by decide +kernel
theorem dL_law_736 : decode cL_law 736 = .ok (.iconst 0, 1) := by decide +kernel
theorem dL_law_737 : decode cL_law 737 = .ok (.ireturn, 1) := by decide +kernel
theorem dL_law_738 : decode cL_law 738 = .ok (.aload_n 1, 1) := by decide +kernel
theorem dL_law_739 : decode cL_law 739 = .ok (.aload_n 0, 1) := by decide +kernel
theorem dL_law_740 : decode cL_law 740 = .ok (.iload_n 3, 1) := by decide +kernel
theorem dL_law_741 : decode cL_law 741 = .ok (.iconst 1, 1) := by decide +kernel
theorem dL_law_742 : decode cL_law 742 = .ok (.iadd, 1) := by decide +kernel
theorem dL_law_743 : decode cL_law 743 = .ok (.iaload, 1) := by decide +kernel
theorem dL_law_744 : decode cL_law 744 = .ok (.aload_n 0, 1) := by decide +kernel
theorem dL_law_745 : decode cL_law 745 = .ok (.iload_n 3, 1) := by decide +kernel
theorem dL_law_746 : decode cL_law 746 = .ok (.iconst 2, 1) := by decide +kernel
theorem dL_law_747 : decode cL_law 747 = .ok (.iadd, 1) := by decide +kernel
theorem dL_law_748 : decode cL_law 748 = .ok (.iaload, 1) := by decide +kernel
theorem dL_law_749 : decode cL_law 749 = .ok (.invokevirtual 119, 3) := by decide +kernel
theorem dL_law_752 : decode cL_law 752 = .ok (.aload_n 2, 1) := by decide +kernel
theorem dL_law_753 : decode cL_law 753 = .ok (.aload_n 0, 1) := by decide +kernel
theorem dL_law_754 : decode cL_law 754 = .ok (.iload_n 3, 1) := by decide +kernel
theorem dL_law_755 : decode cL_law 755 = .ok (.iconst 1, 1) := by decide +kernel
theorem dL_law_756 : decode cL_law 756 = .ok (.iadd, 1) := by decide +kernel
theorem dL_law_757 : decode cL_law 757 = .ok (.iaload, 1) := by decide +kernel
theorem dL_law_758 : decode cL_law 758 = .ok (.aload_n 0, 1) := by decide +kernel
theorem dL_law_759 : decode cL_law 759 = .ok (.iload_n 3, 1) := by decide +kernel
theorem dL_law_760 : decode cL_law 760 = .ok (.iconst 2, 1) := by decide +kernel
theorem dL_law_761 : decode cL_law 761 = .ok (.iadd, 1) := by decide +kernel
theorem dL_law_762 : decode cL_law 762 = .ok (.iaload, 1) := by decide +kernel
theorem dL_law_763 : decode cL_law 763 = .ok (.invokevirtual 122, 3) := by decide +kernel
theorem dL_law_766 : decode cL_law 766 = .ok (.if_icmp .eq 110, 3) := by decide +kernel
theorem dL_law_769 : decode cL_law 769 = .ok (.iconst 0, 1) := by decide +kernel
theorem dL_law_770 : decode cL_law 770 = .ok (.ireturn, 1) := by decide +kernel
theorem dL_law_771 : decode cL_law 771 = .ok (.aload_n 1, 1) := by decide +kernel
theorem dL_law_772 : decode cL_law 772 = .ok (.aload_n 0, 1) := by decide +kernel
theorem dL_law_773 : decode cL_law 773 = .ok (.iload_n 3, 1) := by decide +kernel
theorem dL_law_774 : decode cL_law 774 = .ok (.iconst 1, 1) := by decide +kernel
theorem dL_law_775 : decode cL_law 775 = .ok (.iadd, 1) := by decide +kernel
theorem dL_law_776 : decode cL_law 776 = .ok (.iaload, 1) := by decide +kernel
theorem dL_law_777 : decode cL_law 777 = .ok (.invokevirtual 123, 3) := by decide +kernel
theorem dL_law_780 : decode cL_law 780 = .ok (.aload_n 2, 1) := by decide +kernel
theorem dL_law_781 : decode cL_law 781 = .ok (.aload_n 0, 1) := by decide +kernel
theorem dL_law_782 : decode cL_law 782 = .ok (.iload_n 3, 1) := by decide +kernel
theorem dL_law_783 : decode cL_law 783 = .ok (.iconst 1, 1) := by decide +kernel
theorem dL_law_784 : decode cL_law 784 = .ok (.iadd, 1) := by decide +kernel
theorem dL_law_785 : decode cL_law 785 = .ok (.iaload, 1) := by decide +kernel
theorem dL_law_786 : decode cL_law 786 = .ok (.invokevirtual 126, 3) := by decide +kernel
theorem dL_law_789 : decode cL_law 789 = .ok (.if_icmp .eq 87, 3) := by decide +kernel
theorem dL_law_792 : decode cL_law 792 = .ok (.iconst 0, 1) := by decide +kernel
theorem dL_law_793 : decode cL_law 793 = .ok (.ireturn, 1) := by decide +kernel
theorem dL_law_794 : decode cL_law 794 = .ok (.aload_n 1, 1) := by decide +kernel
theorem dL_law_795 : decode cL_law 795 = .ok (.invokevirtual 127, 3) := by decide +kernel
theorem dL_law_798 : decode cL_law 798 = .ok (.aload_n 2, 1) := by decide +kernel
theorem dL_law_799 : decode cL_law 799 = .ok (.invokevirtual 130, 3) := by decide +kernel
theorem dL_law_802 : decode cL_law 802 = .ok (.if_icmp .eq 74, 3) := by decide +kernel
theorem dL_law_805 : decode cL_law 805 = .ok (.iconst 0, 1) := by decide +kernel
theorem dL_law_806 : decode cL_law 806 = .ok (.ireturn, 1) := by decide +kernel
theorem dL_law_807 : decode cL_law 807 = .ok (.aload_n 1, 1) := by decide +kernel
theorem dL_law_808 : decode cL_law 808 = .ok (.aload_n 0, 1) := by decide +kernel
theorem dL_law_809 : decode cL_law 809 = .ok (.iload_n 3, 1) := by decide +kernel
theorem dL_law_810 : decode cL_law 810 = .ok (.iconst 1, 1) := by decide +kernel
theorem dL_law_811 : decode cL_law 811 = .ok (.iadd, 1) := by decide +kernel
theorem dL_law_812 : decode cL_law 812 = .ok (.iaload, 1) := by decide +kernel
theorem dL_law_813 : decode cL_law 813 = .ok (.invokevirtual 131, 3) := by decide +kernel
theorem dL_law_816 : decode cL_law 816 = .ok (.aload_n 2, 1) := by decide +kernel
theorem dL_law_817 : decode cL_law 817 = .ok (.aload_n 0, 1) := by decide +kernel
theorem dL_law_818 : decode cL_law 818 = .ok (.iload_n 3, 1) := by decide +kernel
theorem dL_law_819 : decode cL_law 819 = .ok (.iconst 1, 1) := by decide +kernel
theorem dL_law_820 : decode cL_law 820 = .ok (.iadd, 1) := by decide +kernel
theorem dL_law_821 : decode cL_law 821 = .ok (.iaload, 1) := by decide +kernel
theorem dL_law_822 : decode cL_law 822 = .ok (.invokevirtual 134, 3) := by decide +kernel
theorem dL_law_825 : decode cL_law 825 = .ok (.if_icmp .eq 51, 3) := by decide +kernel
theorem dL_law_828 : decode cL_law 828 = .ok (.iconst 0, 1) := by decide +kernel
theorem dL_law_829 : decode cL_law 829 = .ok (.ireturn, 1) := by decide +kernel
theorem dL_law_830 : decode cL_law 830 = .ok (.aload_n 1, 1) := by decide +kernel
theorem dL_law_831 : decode cL_law 831 = .ok (.aload_n 0, 1) := by decide +kernel
theorem dL_law_832 : decode cL_law 832 = .ok (.iload_n 3, 1) := by decide +kernel
theorem dL_law_833 : decode cL_law 833 = .ok (.iconst 1, 1) := by decide +kernel
theorem dL_law_834 : decode cL_law 834 = .ok (.iadd, 1) := by decide +kernel
theorem dL_law_835 : decode cL_law 835 = .ok (.iaload, 1) := by decide +kernel
theorem dL_law_836 : decode cL_law 836 = .ok (.invokevirtual 135, 3) := by decide +kernel
theorem dL_law_839 : decode cL_law 839 = .ok (.aload_n 2, 1) := by decide +kernel
theorem dL_law_840 : decode cL_law 840 = .ok (.aload_n 0, 1) := by decide +kernel
theorem dL_law_841 : decode cL_law 841 = .ok (.iload_n 3, 1) := by decide +kernel
theorem dL_law_842 : decode cL_law 842 = .ok (.iconst 1, 1) := by decide +kernel
theorem dL_law_843 : decode cL_law 843 = .ok (.iadd, 1) := by decide +kernel
theorem dL_law_844 : decode cL_law 844 = .ok (.iaload, 1) := by decide +kernel
theorem dL_law_845 : decode cL_law 845 = .ok (.invokevirtual 138, 3) := by decide +kernel
theorem dL_law_848 : decode cL_law 848 = .ok (.if_icmp .eq 28, 3) := by decide +kernel
theorem dL_law_851 : decode cL_law 851 = .ok (.iconst 0, 1) := by decide +kernel
theorem dL_law_852 : decode cL_law 852 = .ok (.ireturn, 1) := by decide +kernel
theorem dL_law_853 : decode cL_law 853 = .ok (.aload_n 1, 1) := by decide +kernel
theorem dL_law_854 : decode cL_law 854 = .ok (.aload_n 0, 1) := by decide +kernel
theorem dL_law_855 : decode cL_law 855 = .ok (.iload_n 3, 1) := by decide +kernel
theorem dL_law_856 : decode cL_law 856 = .ok (.iconst 1, 1) := by decide +kernel
theorem dL_law_857 : decode cL_law 857 = .ok (.iadd, 1) := by decide +kernel
theorem dL_law_858 : decode cL_law 858 = .ok (.iaload, 1) := by decide +kernel
theorem dL_law_859 : decode cL_law 859 = .ok (.invokevirtual 139, 3) := by decide +kernel
theorem dL_law_862 : decode cL_law 862 = .ok (.aload_n 2, 1) := by decide +kernel
theorem dL_law_863 : decode cL_law 863 = .ok (.aload_n 0, 1) := by decide +kernel
theorem dL_law_864 : decode cL_law 864 = .ok (.iload_n 3, 1) := by decide +kernel
theorem dL_law_865 : decode cL_law 865 = .ok (.iconst 1, 1) := by decide +kernel
theorem dL_law_866 : decode cL_law 866 = .ok (.iadd, 1) := by decide +kernel
theorem dL_law_867 : decode cL_law 867 = .ok (.iaload, 1) := by decide +kernel
theorem dL_law_868 : decode cL_law 868 = .ok (.invokevirtual 142, 3) := by decide +kernel
theorem dL_law_871 : decode cL_law 871 = .ok (.if_icmp .eq 5, 3) := by decide +kernel
theorem dL_law_874 : decode cL_law 874 = .ok (.iconst 0, 1) := by decide +kernel
theorem dL_law_875 : decode cL_law 875 = .ok (.ireturn, 1) := by decide +kernel
theorem dL_law_876 : decode cL_law 876 = .ok (.iinc 3 6, 3) := by decide +kernel
theorem dL_law_879 : decode cL_law 879 = .ok (.goto (-861), 3) := by decide +kernel
theorem dL_law_882 : decode cL_law 882 = .ok (.iconst 1, 1) := by decide +kernel
theorem dL_law_883 : decode cL_law 883 = .ok (.ireturn, 1) := by decide +kernel
