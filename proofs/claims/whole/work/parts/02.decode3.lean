theorem dX7_lamp_24 : decode cX7_lamp 24 = .ok (.aload_n 0, 1) := by decide +kernel
theorem dX7_lamp_25 : decode cX7_lamp 25 = .ok (.invokevirtual 186, 3) := by decide +kernel
theorem dX7_lamp_28 : decode cX7_lamp 28 = .ok (.aload_n 0, 1) := by decide +kernel
theorem dX7_lamp_29 : decode cX7_lamp 29 = .ok (.getfield 67, 3) := by decide +kernel
theorem dX7_lamp_32 : decode cX7_lamp 32 = .ok (.iload_n 1, 1) := by decide +kernel
theorem dX7_lamp_33 : decode cX7_lamp 33 = .ok (.iaload, 1) := by decide +kernel
theorem dX7_lamp_34 : decode cX7_lamp 34 = .ok (.ireturn, 1) := by decide +kernel
theorem dX7_nextOrder_0 : decode cX7_nextOrder 0 = .ok (.aload_n 0, 1) := by decide +kernel
theorem dX7_nextOrder_1 : decode cX7_nextOrder 1 = .ok (.getfield 84, 3) := by decide +kernel
theorem dX7_nextOrder_4 : decode cX7_nextOrder 4 = .ok (.iconst 2, 1) := by decide +kernel
theorem dX7_nextOrder_5 : decode cX7_nextOrder 5 = .ok (.isub, 1) := by decide +kernel
theorem dX7_nextOrder_6 : decode cX7_nextOrder 6 = .ok (.istore_n 1, 1) := by decide +kernel
theorem dX7_nextOrder_7 : decode cX7_nextOrder 7 = .ok (.iload_n 1, 1) := by decide +kernel
theorem dX7_nextOrder_8 : decode cX7_nextOrder 8 = .ok (.ifCond .lt 26, 3) := by decide +kernel
theorem dX7_nextOrder_11 : decode cX7_nextOrder 11 = .ok (.aload_n 0, 1) := by decide +kernel
theorem dX7_nextOrder_12 : decode cX7_nextOrder 12 = .ok (.getfield 73, 3) := by decide +kernel
theorem dX7_nextOrder_15 : decode cX7_nextOrder 15 = .ok (.iload_n 1, 1) := by decide +kernel
theorem dX7_nextOrder_16 : decode cX7_nextOrder 16 = .ok (.iaload, 1) := by decide +kernel
theorem dX7_nextOrder_17 : decode cX7_nextOrder 17 = .ok (.aload_n 0, 1) := by decide +kernel
theorem dX7_nextOrder_18 : decode cX7_nextOrder 18 = .ok (.getfield 73, 3) := by decide +kernel
theorem dX7_nextOrder_21 : decode cX7_nextOrder 21 = .ok (.iload_n 1, 1) := by decide +kernel
theorem dX7_nextOrder_22 : decode cX7_nextOrder 22 = .ok (.iconst 1, 1) := by decide +kernel
theorem dX7_nextOrder_23 : decode cX7_nextOrder 23 = .ok (.iadd, 1) := by decide +kernel
theorem dX7_nextOrder_24 : decode cX7_nextOrder 24 = .ok (.iaload, 1) := by decide +kernel
theorem dX7_nextOrder_25 : decode cX7_nextOrder 25 = .ok (.if_icmp .le 9, 3) := by decide +kernel
theorem dX7_nextOrder_28 : decode cX7_nextOrder 28 = .ok (.iinc 1 (-1), 3) := by decide +kernel
theorem dX7_nextOrder_31 : decode cX7_nextOrder 31 = .ok (.goto (-24), 3) := by decide +kernel
theorem dX7_nextOrder_34 : decode cX7_nextOrder 34 = .ok (.iload_n 1, 1) := by decide +kernel
theorem dX7_nextOrder_35 : decode cX7_nextOrder 35 = .ok (.ifCond .ge 5, 3) := by decide +kernel
theorem dX7_nextOrder_38 : decode cX7_nextOrder 38 = .ok (.iconst 0, 1) := by decide +kernel
theorem dX7_nextOrder_39 : decode cX7_nextOrder 39 = .ok (.ireturn, 1) := by decide +kernel
theorem dX7_nextOrder_40 : decode cX7_nextOrder 40 = .ok (.aload_n 0, 1) := by decide +kernel
theorem dX7_nextOrder_41 : decode cX7_nextOrder 41 = .ok (.getfield 84, 3) := by decide +kernel
theorem dX7_nextOrder_44 : decode cX7_nextOrder 44 = .ok (.iconst 1, 1) := by decide +kernel
theorem dX7_nextOrder_45 : decode cX7_nextOrder 45 = .ok (.isub, 1) := by decide +kernel
theorem dX7_nextOrder_46 : decode cX7_nextOrder 46 = .ok (.istore_n 2, 1) := by decide +kernel
theorem dX7_nextOrder_47 : decode cX7_nextOrder 47 = .ok (.aload_n 0, 1) := by decide +kernel
theorem dX7_nextOrder_48 : decode cX7_nextOrder 48 = .ok (.getfield 73, 3) := by decide +kernel
theorem dX7_nextOrder_51 : decode cX7_nextOrder 51 = .ok (.iload_n 2, 1) := by decide +kernel
theorem dX7_nextOrder_52 : decode cX7_nextOrder 52 = .ok (.iaload, 1) := by decide +kernel
theorem dX7_nextOrder_53 : decode cX7_nextOrder 53 = .ok (.aload_n 0, 1) := by decide +kernel
theorem dX7_nextOrder_54 : decode cX7_nextOrder 54 = .ok (.getfield 73, 3) := by decide +kernel
theorem dX7_nextOrder_57 : decode cX7_nextOrder 57 = .ok (.iload_n 1, 1) := by decide +kernel
theorem dX7_nextOrder_58 : decode cX7_nextOrder 58 = .ok (.iaload, 1) := by decide +kernel
theorem dX7_nextOrder_59 : decode cX7_nextOrder 59 = .ok (.if_icmp .ge 9, 3) := by decide +kernel
theorem dX7_nextOrder_62 : decode cX7_nextOrder 62 = .ok (.iinc 2 (-1), 3) := by decide +kernel
theorem dX7_nextOrder_65 : decode cX7_nextOrder 65 = .ok (.goto (-18), 3) := by decide +kernel
theorem dX7_nextOrder_68 : decode cX7_nextOrder 68 = .ok (.aload_n 0, 1) := by decide +kernel
theorem dX7_nextOrder_69 : decode cX7_nextOrder 69 = .ok (.iload_n 1, 1) := by decide +kernel
theorem dX7_nextOrder_70 : decode cX7_nextOrder 70 = .ok (.iload_n 2, 1) := by decide +kernel
theorem dX7_nextOrder_71 : decode cX7_nextOrder 71 = .ok (.invokevirtual 192, 3) := by decide +kernel
theorem dX7_nextOrder_74 : decode cX7_nextOrder 74 = .ok (.iload_n 1, 1) := by decide +kernel
theorem dX7_nextOrder_75 : decode cX7_nextOrder 75 = .ok (.iconst 1, 1) := by decide +kernel
theorem dX7_nextOrder_76 : decode cX7_nextOrder 76 = .ok (.iadd, 1) := by decide +kernel
theorem dX7_nextOrder_77 : decode cX7_nextOrder 77 = .ok (.istore_n 3, 1) := by decide +kernel
theorem dX7_nextOrder_78 : decode cX7_nextOrder 78 = .ok (.aload_n 0, 1) := by decide +kernel
theorem dX7_nextOrder_79 : decode cX7_nextOrder 79 = .ok (.getfield 84, 3) := by decide +kernel
theorem dX7_nextOrder_82 : decode cX7_nextOrder 82 = .ok (.iconst 1, 1) := by decide +kernel
theorem dX7_nextOrder_83 : decode cX7_nextOrder 83 = .ok (.isub, 1) := by decide +kernel
theorem dX7_nextOrder_84 : decode cX7_nextOrder 84 = .ok (.istore 4, 2) := by decide +kernel
theorem dX7_nextOrder_86 : decode cX7_nextOrder 86 = .ok (.iload_n 3, 1) := by decide +kernel
theorem dX7_nextOrder_87 : decode cX7_nextOrder 87 = .ok (.iload 4, 2) := by decide +kernel
theorem dX7_nextOrder_89 : decode cX7_nextOrder 89 = .ok (.if_icmp .ge 19, 3) := by decide +kernel
theorem dX7_nextOrder_92 : decode cX7_nextOrder 92 = .ok (.aload_n 0, 1) := by decide +kernel
theorem dX7_nextOrder_93 : decode cX7_nextOrder 93 = .ok (.iload_n 3, 1) := by decide +kernel
theorem dX7_nextOrder_94 : decode cX7_nextOrder 94 = .ok (.iload 4, 2) := by decide +kernel
theorem dX7_nextOrder_96 : decode cX7_nextOrder 96 = .ok (.invokevirtual 192, 3) := by decide +kernel
theorem dX7_nextOrder_99 : decode cX7_nextOrder 99 = .ok (.iinc 3 1, 3) := by decide +kernel
theorem dX7_nextOrder_102 : decode cX7_nextOrder 102 = .ok (.iinc 4 (-1), 3) := by decide +kernel
theorem dX7_nextOrder_105 : decode cX7_nextOrder 105 = .ok (.goto (-19), 3) := by decide +kernel
theorem dX7_nextOrder_108 : decode cX7_nextOrder 108 = .ok (.iconst 1, 1) := by decide +kernel
theorem dX7_nextOrder_109 : decode cX7_nextOrder 109 = .ok (.ireturn, 1) := by decide +kernel
theorem dX7_swap_0 : decode cX7_swap 0 = .ok (.aload_n 0, 1) := by decide +kernel
theorem dX7_swap_1 : decode cX7_swap 1 = .ok (.getfield 73, 3) := by decide +kernel
theorem dX7_swap_4 : decode cX7_swap 4 = .ok (.iload_n 1, 1) := by decide +kernel
theorem dX7_swap_5 : decode cX7_swap 5 = .ok (.iaload, 1) := by decide +kernel
theorem dX7_swap_6 : decode cX7_swap 6 = .ok (.istore_n 3, 1) := by decide +kernel
theorem dX7_swap_7 : decode cX7_swap 7 = .ok (.aload_n 0, 1) := by decide +kernel
theorem dX7_swap_8 : decode cX7_swap 8 = .ok (.getfield 73, 3) := by decide +kernel
theorem dX7_swap_11 : decode cX7_swap 11 = .ok (.iload_n 1, 1) := by decide +kernel
theorem dX7_swap_12 : decode cX7_swap 12 = .ok (.aload_n 0, 1) := by decide +kernel
theorem dX7_swap_13 : decode cX7_swap 13 = .ok (.getfield 73, 3) := by decide +kernel
theorem dX7_swap_16 : decode cX7_swap 16 = .ok (.iload_n 2, 1) := by decide +kernel
theorem dX7_swap_17 : decode cX7_swap 17 = .ok (.iaload, 1) := by decide +kernel
theorem dX7_swap_18 : decode cX7_swap 18 = .ok (.iastore, 1) := by decide +kernel
theorem dX7_swap_19 : decode cX7_swap 19 = .ok (.aload_n 0, 1) := by decide +kernel
theorem dX7_swap_20 : decode cX7_swap 20 = .ok (.getfield 73, 3) := by decide +kernel
theorem dX7_swap_23 : decode cX7_swap 23 = .ok (.iload_n 2, 1) := by decide +kernel
theorem dX7_swap_24 : decode cX7_swap 24 = .ok (.iload_n 3, 1) := by decide +kernel
theorem dX7_swap_25 : decode cX7_swap 25 = .ok (.iastore, 1) := by decide +kernel
theorem dX7_swap_26 : decode cX7_swap 26 = .ok (.return_, 1) := by decide +kernel
theorem dX7_best_0 : decode cX7_best 0 = .ok (.iload_n 1, 1) := by decide +kernel
theorem dX7_best_1 : decode cX7_best 1 = .ok (.iconst 0, 1) := by decide +kernel
theorem dX7_best_2 : decode cX7_best 2 = .ok (.iconst 1, 1) := by decide +kernel
theorem dX7_best_3 : decode cX7_best 3 = .ok (.invokestatic 88, 3) := by decide +kernel
theorem dX7_best_6 : decode cX7_best 6 = .ok (.ifCond .ne 10, 3) := by decide +kernel
theorem dX7_best_9 : decode cX7_best 9 = .ok (.aload_n 0, 1) := by decide +kernel
theorem dX7_best_10 : decode cX7_best 10 = .ok (.bipush (-2), 2) := by decide +kernel
theorem dX7_best_12 : decode cX7_best 12 = .ok (.invokevirtual 80, 3) := by decide +kernel
theorem dX7_best_15 : decode cX7_best 15 = .ok (.ireturn, 1) := by decide +kernel
theorem dX7_best_16 : decode cX7_best 16 = .ok (.aload_n 0, 1) := by decide +kernel
theorem dX7_best_17 : decode cX7_best 17 = .ok (.getfield 84, 3) := by decide +kernel
theorem dX7_best_20 : decode cX7_best 20 = .ok (.bipush 6, 2) := by decide +kernel
theorem dX7_best_22 : decode cX7_best 22 = .ok (.if_icmp .le 10, 3) := by decide +kernel
theorem dX7_best_25 : decode cX7_best 25 = .ok (.aload_n 0, 1) := by decide +kernel
theorem dX7_best_26 : decode cX7_best 26 = .ok (.bipush (-3), 2) := by decide +kernel
theorem dX7_best_28 : decode cX7_best 28 = .ok (.invokevirtual 80, 3) := by decide +kernel
theorem dX7_best_31 : decode cX7_best 31 = .ok (.ireturn, 1) := by decide +kernel
theorem dX7_best_32 : decode cX7_best 32 = .ok (.iload_n 2, 1) := by decide +kernel
theorem dX7_best_33 : decode cX7_best 33 = .ok (.iconst (-1), 1) := by decide +kernel
theorem dX7_best_34 : decode cX7_best 34 = .ok (.if_icmp .ge 10, 3) := by decide +kernel
theorem dX7_best_37 : decode cX7_best 37 = .ok (.aload_n 0, 1) := by decide +kernel
theorem dX7_best_38 : decode cX7_best 38 = .ok (.bipush (-4), 2) := by decide +kernel
theorem dX7_best_40 : decode cX7_best 40 = .ok (.invokevirtual 80, 3) := by decide +kernel
theorem dX7_best_43 : decode cX7_best 43 = .ok (.ireturn, 1) := by decide +kernel
theorem dX7_best_44 : decode cX7_best 44 = .ok (.iload_n 2, 1) := by decide +kernel
theorem dX7_best_45 : decode cX7_best 45 = .ok (.aload_n 0, 1) := by decide +kernel
theorem dX7_best_46 : decode cX7_best 46 = .ok (.getfield 84, 3) := by decide +kernel
theorem dX7_best_49 : decode cX7_best 49 = .ok (.if_icmp .lt 9, 3) := by decide +kernel
theorem dX7_best_52 : decode cX7_best 52 = .ok (.aload_n 0, 1) := by decide +kernel
theorem dX7_best_53 : decode cX7_best 53 = .ok (.iconst (-1), 1) := by decide +kernel
theorem dX7_best_54 : decode cX7_best 54 = .ok (.invokevirtual 80, 3) := by decide +kernel
theorem dX7_best_57 : decode cX7_best 57 = .ok (.ireturn, 1) := by decide +kernel
theorem dX7_best_58 : decode cX7_best 58 = .ok (.iconst 0, 1) := by decide +kernel
theorem dX7_best_59 : decode cX7_best 59 = .ok (.istore_n 3, 1) := by decide +kernel
theorem dX7_best_60 : decode cX7_best 60 = .ok (.iload_n 3, 1) := by decide +kernel
theorem dX7_best_61 : decode cX7_best 61 = .ok (.aload_n 0, 1) := by decide +kernel
theorem dX7_best_62 : decode cX7_best 62 = .ok (.getfield 84, 3) := by decide +kernel
theorem dX7_best_65 : decode cX7_best 65 = .ok (.if_icmp .ge 16, 3) := by decide +kernel
theorem dX7_best_68 : decode cX7_best 68 = .ok (.aload_n 0, 1) := by decide +kernel
theorem dX7_best_69 : decode cX7_best 69 = .ok (.getfield 73, 3) := by decide +kernel
theorem dX7_best_72 : decode cX7_best 72 = .ok (.iload_n 3, 1) := by decide +kernel
theorem dX7_best_73 : decode cX7_best 73 = .ok (.iload_n 3, 1) := by decide +kernel
theorem dX7_best_74 : decode cX7_best 74 = .ok (.iastore, 1) := by decide +kernel
theorem dX7_best_75 : decode cX7_best 75 = .ok (.iinc 3 1, 3) := by decide +kernel
theorem dX7_best_78 : decode cX7_best 78 = .ok (.goto (-18), 3) := by decide +kernel
theorem dX7_best_81 : decode cX7_best 81 = .ok (.bipush (-9), 2) := by decide +kernel
theorem dX7_best_83 : decode cX7_best 83 = .ok (.istore_n 3, 1) := by decide +kernel
theorem dX7_best_84 : decode cX7_best 84 = .ok (.bipush (-9), 2) := by decide +kernel
theorem dX7_best_86 : decode cX7_best 86 = .ok (.istore 4, 2) := by decide +kernel
theorem dX7_best_88 : decode cX7_best 88 = .ok (.iconst 1, 1) := by decide +kernel
theorem dX7_best_89 : decode cX7_best 89 = .ok (.istore 5, 2) := by decide +kernel
theorem dX7_best_91 : decode cX7_best 91 = .ok (.iload 5, 2) := by decide +kernel
theorem dX7_best_93 : decode cX7_best 93 = .ok (.ifCond .eq 126, 3) := by decide +kernel
theorem dX7_best_96 : decode cX7_best 96 = .ok (.aload_n 0, 1) := by decide +kernel
theorem dX7_best_97 : decode cX7_best 97 = .ok (.bipush (-9), 2) := by decide +kernel
theorem dX7_best_99 : decode cX7_best 99 = .ok (.invokevirtual 172, 3) := by decide +kernel
theorem dX7_best_102 : decode cX7_best 102 = .ok (.aload_n 0, 1) := by decide +kernel
theorem dX7_best_103 : decode cX7_best 103 = .ok (.aload_n 0, 1) := by decide +kernel
theorem dX7_best_104 : decode cX7_best 104 = .ok (.getfield 84, 3) := by decide +kernel
theorem dX7_best_107 : decode cX7_best 107 = .ok (.putfield 176, 3) := by decide +kernel
theorem dX7_best_110 : decode cX7_best 110 = .ok (.iconst 0, 1) := by decide +kernel
theorem dX7_best_111 : decode cX7_best 111 = .ok (.istore 6, 2) := by decide +kernel
theorem dX7_best_113 : decode cX7_best 113 = .ok (.iload 6, 2) := by decide +kernel
theorem dX7_best_115 : decode cX7_best 115 = .ok (.aload_n 0, 1) := by decide +kernel
theorem dX7_best_116 : decode cX7_best 116 = .ok (.getfield 84, 3) := by decide +kernel
theorem dX7_best_119 : decode cX7_best 119 = .ok (.if_icmp .ge 34, 3) := by decide +kernel
theorem dX7_best_122 : decode cX7_best 122 = .ok (.aload_n 0, 1) := by decide +kernel
theorem dX7_best_123 : decode cX7_best 123 = .ok (.getfield 46, 3) := by decide +kernel
theorem dX7_best_126 : decode cX7_best 126 = .ok (.iload 6, 2) := by decide +kernel
theorem dX7_best_128 : decode cX7_best 128 = .ok (.aload_n 0, 1) := by decide +kernel
theorem dX7_best_129 : decode cX7_best 129 = .ok (.getfield 73, 3) := by decide +kernel
theorem dX7_best_132 : decode cX7_best 132 = .ok (.iload 6, 2) := by decide +kernel
theorem dX7_best_134 : decode cX7_best 134 = .ok (.iaload, 1) := by decide +kernel
theorem dX7_best_135 : decode cX7_best 135 = .ok (.iastore, 1) := by decide +kernel
theorem dX7_best_136 : decode cX7_best 136 = .ok (.aload_n 0, 1) := by decide +kernel
theorem dX7_best_137 : decode cX7_best 137 = .ok (.aload_n 0, 1) := by decide +kernel
theorem dX7_best_138 : decode cX7_best 138 = .ok (.getfield 46, 3) := by decide +kernel
theorem dX7_best_141 : decode cX7_best 141 = .ok (.iload 6, 2) := by decide +kernel
theorem dX7_best_143 : decode cX7_best 143 = .ok (.iaload, 1) := by decide +kernel
theorem dX7_best_144 : decode cX7_best 144 = .ok (.invokevirtual 179, 3) := by decide +kernel
theorem dX7_best_147 : decode cX7_best 147 = .ok (.iinc 6 1, 3) := by decide +kernel
theorem dX7_best_150 : decode cX7_best 150 = .ok (.goto (-37), 3) := by decide +kernel
theorem dX7_best_153 : decode cX7_best 153 = .ok (.aload_n 0, 1) := by decide +kernel
theorem dX7_best_154 : decode cX7_best 154 = .ok (.invokevirtual 188, 3) := by decide +kernel
theorem dX7_best_157 : decode cX7_best 157 = .ok (.istore 6, 2) := by decide +kernel
theorem dX7_best_159 : decode cX7_best 159 = .ok (.iload_n 1, 1) := by decide +kernel
theorem dX7_best_160 : decode cX7_best 160 = .ok (.ifCond .eq 18, 3) := by decide +kernel
theorem dX7_best_163 : decode cX7_best 163 = .ok (.aload_n 0, 1) := by decide +kernel
theorem dX7_best_164 : decode cX7_best 164 = .ok (.getfield 49, 3) := by decide +kernel
theorem dX7_best_167 : decode cX7_best 167 = .ok (.iconst 0, 1) := by decide +kernel
theorem dX7_best_168 : decode cX7_best 168 = .ok (.iaload, 1) := by decide +kernel
theorem dX7_best_169 : decode cX7_best 169 = .ok (.aload_n 0, 1) := by decide +kernel
theorem dX7_best_170 : decode cX7_best 170 = .ok (.getfield 25, 3) := by decide +kernel
theorem dX7_best_173 : decode cX7_best 173 = .ok (.iconst 0, 1) := by decide +kernel
theorem dX7_best_174 : decode cX7_best 174 = .ok (.iaload, 1) := by decide +kernel
theorem dX7_best_175 : decode cX7_best 175 = .ok (.if_icmp .ne 35, 3) := by decide +kernel
theorem dX7_best_178 : decode cX7_best 178 = .ok (.iload_n 3, 1) := by decide +kernel
theorem dX7_best_179 : decode cX7_best 179 = .ok (.bipush (-9), 2) := by decide +kernel
theorem dX7_best_181 : decode cX7_best 181 = .ok (.if_icmp .eq 9, 3) := by decide +kernel
theorem dX7_best_184 : decode cX7_best 184 = .ok (.iload 6, 2) := by decide +kernel
theorem dX7_best_186 : decode cX7_best 186 = .ok (.iload_n 3, 1) := by decide +kernel
theorem dX7_best_187 : decode cX7_best 187 = .ok (.if_icmp .ge 23, 3) := by decide +kernel
theorem dX7_best_190 : decode cX7_best 190 = .ok (.iload 6, 2) := by decide +kernel
theorem dX7_best_192 : decode cX7_best 192 = .ok (.istore_n 3, 1) := by decide +kernel
theorem dX7_best_193 : decode cX7_best 193 = .ok (.iload_n 2, 1) := by decide +kernel
theorem dX7_best_194 : decode cX7_best 194 = .ok (.ifCond .ge 8, 3) := by decide +kernel
theorem dX7_best_197 : decode cX7_best 197 = .ok (.iload 6, 2) := by decide +kernel
theorem dX7_best_199 : decode cX7_best 199 = .ok (.goto 9, 3) := by decide +kernel
theorem dX7_best_202 : decode cX7_best 202 = .ok (.aload_n 0, 1) := by decide +kernel
theorem dX7_best_203 : decode cX7_best 203 = .ok (.getfield 73, 3) := by decide +kernel
theorem dX7_best_206 : decode cX7_best 206 = .ok (.iload_n 2, 1) := by decide +kernel
theorem dX7_best_207 : decode cX7_best 207 = .ok (.iaload, 1) := by decide +kernel
theorem dX7_best_208 : decode cX7_best 208 = .ok (.istore 4, 2) := by decide +kernel
theorem dX7_best_210 : decode cX7_best 210 = .ok (.aload_n 0, 1) := by decide +kernel
theorem dX7_best_211 : decode cX7_best 211 = .ok (.invokevirtual 195, 3) := by decide +kernel
theorem dX7_best_214 : decode cX7_best 214 = .ok (.istore 5, 2) := by decide +kernel
theorem dX7_best_216 : decode cX7_best 216 = .ok (.goto (-125), 3) := by decide +kernel
theorem dX7_best_219 : decode cX7_best 219 = .ok (.iload 4, 2) := by decide +kernel
theorem dX7_best_221 : decode cX7_best 221 = .ok (.ireturn, 1) := by decide +kernel
theorem dX7_bestPump_0 : decode cX7_bestPump 0 = .ok (.aload_n 0, 1) := by decide +kernel
theorem dX7_bestPump_1 : decode cX7_bestPump 1 = .ok (.getfield 25, 3) := by decide +kernel
theorem dX7_bestPump_4 : decode cX7_bestPump 4 = .ok (.iconst 0, 1) := by decide +kernel
theorem dX7_bestPump_5 : decode cX7_bestPump 5 = .ok (.iaload, 1) := by decide +kernel
theorem dX7_bestPump_6 : decode cX7_bestPump 6 = .ok (.istore_n 1, 1) := by decide +kernel
theorem dX7_bestPump_7 : decode cX7_bestPump 7 = .ok (.iconst 0, 1) := by decide +kernel
theorem dX7_bestPump_8 : decode cX7_bestPump 8 = .ok (.istore_n 2, 1) := by decide +kernel
theorem dX7_bestPump_9 : decode cX7_bestPump 9 = .ok (.iconst (-1), 1) := by decide +kernel
theorem dX7_bestPump_10 : decode cX7_bestPump 10 = .ok (.istore_n 3, 1) := by decide +kernel
theorem dX7_bestPump_11 : decode cX7_bestPump 11 = .ok (.iconst 0, 1) := by decide +kernel
theorem dX7_bestPump_12 : decode cX7_bestPump 12 = .ok (.istore 4, 2) := by decide +kernel
theorem dX7_bestPump_14 : decode cX7_bestPump 14 = .ok (.iload 4, 2) := by decide +kernel
theorem dX7_bestPump_16 : decode cX7_bestPump 16 = .ok (.bipush 40, 2) := by decide +kernel
theorem dX7_bestPump_18 : decode cX7_bestPump 18 = .ok (.if_icmp .ge 42, 3) := by decide +kernel
theorem dX7_bestPump_21 : decode cX7_bestPump 21 = .ok (.aload_n 0, 1) := by decide +kernel
theorem dX7_bestPump_22 : decode cX7_bestPump 22 = .ok (.getfield 25, 3) := by decide +kernel
theorem dX7_bestPump_25 : decode cX7_bestPump 25 = .ok (.iconst 0, 1) := by decide +kernel
theorem dX7_bestPump_26 : decode cX7_bestPump 26 = .ok (.iload 4, 2) := by decide +kernel
theorem dX7_bestPump_28 : decode cX7_bestPump 28 = .ok (.iastore, 1) := by decide +kernel
theorem dX7_bestPump_29 : decode cX7_bestPump 29 = .ok (.aload_n 0, 1) := by decide +kernel
theorem dX7_bestPump_30 : decode cX7_bestPump 30 = .ok (.invokevirtual 199, 3) := by decide +kernel
theorem dX7_bestPump_33 : decode cX7_bestPump 33 = .ok (.istore 5, 2) := by decide +kernel
theorem dX7_bestPump_35 : decode cX7_bestPump 35 = .ok (.iload_n 3, 1) := by decide +kernel
theorem dX7_bestPump_36 : decode cX7_bestPump 36 = .ok (.ifCond .lt 12, 3) := by decide +kernel
theorem dX7_bestPump_39 : decode cX7_bestPump 39 = .ok (.iload 5, 2) := by decide +kernel
theorem dX7_bestPump_41 : decode cX7_bestPump 41 = .ok (.iload_n 3, 1) := by decide +kernel
theorem dX7_bestPump_42 : decode cX7_bestPump 42 = .ok (.if_icmp .lt 6, 3) := by decide +kernel
theorem dX7_bestPump_45 : decode cX7_bestPump 45 = .ok (.goto 9, 3) := by decide +kernel
theorem dX7_bestPump_48 : decode cX7_bestPump 48 = .ok (.iload 5, 2) := by decide +kernel
theorem dX7_bestPump_50 : decode cX7_bestPump 50 = .ok (.istore_n 3, 1) := by decide +kernel
theorem dX7_bestPump_51 : decode cX7_bestPump 51 = .ok (.iload 4, 2) := by decide +kernel
theorem dX7_bestPump_53 : decode cX7_bestPump 53 = .ok (.istore_n 2, 1) := by decide +kernel
theorem dX7_bestPump_54 : decode cX7_bestPump 54 = .ok (.iinc 4 1, 3) := by decide +kernel
theorem dX7_bestPump_57 : decode cX7_bestPump 57 = .ok (.goto (-43), 3) := by decide +kernel
theorem dX7_bestPump_60 : decode cX7_bestPump 60 = .ok (.aload_n 0, 1) := by decide +kernel
theorem dX7_bestPump_61 : decode cX7_bestPump 61 = .ok (.getfield 25, 3) := by decide +kernel
theorem dX7_bestPump_64 : decode cX7_bestPump 64 = .ok (.iconst 0, 1) := by decide +kernel
theorem dX7_bestPump_65 : decode cX7_bestPump 65 = .ok (.iload_n 1, 1) := by decide +kernel
theorem dX7_bestPump_66 : decode cX7_bestPump 66 = .ok (.iastore, 1) := by decide +kernel
theorem dX7_bestPump_67 : decode cX7_bestPump 67 = .ok (.iload_n 2, 1) := by decide +kernel
theorem dX7_bestPump_68 : decode cX7_bestPump 68 = .ok (.ireturn, 1) := by decide +kernel
theorem dX7_bestHour_0 : decode cX7_bestHour 0 = .ok (.aload_n 0, 1) := by decide +kernel
theorem dX7_bestHour_1 : decode cX7_bestHour 1 = .ok (.iload_n 1, 1) := by decide +kernel
theorem dX7_bestHour_2 : decode cX7_bestHour 2 = .ok (.invokevirtual 121, 3) := by decide +kernel
theorem dX7_bestHour_5 : decode cX7_bestHour 5 = .ok (.ifCond .ne 9, 3) := by decide +kernel
theorem dX7_bestHour_8 : decode cX7_bestHour 8 = .ok (.aload_n 0, 1) := by decide +kernel
theorem dX7_bestHour_9 : decode cX7_bestHour 9 = .ok (.iconst (-1), 1) := by decide +kernel
theorem dX7_bestHour_10 : decode cX7_bestHour 10 = .ok (.invokevirtual 80, 3) := by decide +kernel
theorem dX7_bestHour_13 : decode cX7_bestHour 13 = .ok (.ireturn, 1) := by decide +kernel
theorem dX7_bestHour_14 : decode cX7_bestHour 14 = .ok (.aload_n 0, 1) := by decide +kernel
theorem dX7_bestHour_15 : decode cX7_bestHour 15 = .ok (.getfield 22, 3) := by decide +kernel
theorem dX7_bestHour_18 : decode cX7_bestHour 18 = .ok (.iload_n 1, 1) := by decide +kernel
theorem dX7_bestHour_19 : decode cX7_bestHour 19 = .ok (.iaload, 1) := by decide +kernel
theorem dX7_bestHour_20 : decode cX7_bestHour 20 = .ok (.istore_n 2, 1) := by decide +kernel
theorem dX7_bestHour_21 : decode cX7_bestHour 21 = .ok (.iconst 0, 1) := by decide +kernel
theorem dX7_bestHour_22 : decode cX7_bestHour 22 = .ok (.istore_n 3, 1) := by decide +kernel
theorem dX7_bestHour_23 : decode cX7_bestHour 23 = .ok (.iconst (-1), 1) := by decide +kernel
theorem dX7_bestHour_24 : decode cX7_bestHour 24 = .ok (.istore 4, 2) := by decide +kernel
theorem dX7_bestHour_26 : decode cX7_bestHour 26 = .ok (.iconst 0, 1) := by decide +kernel
theorem dX7_bestHour_27 : decode cX7_bestHour 27 = .ok (.istore 5, 2) := by decide +kernel
theorem dX7_bestHour_29 : decode cX7_bestHour 29 = .ok (.iload 5, 2) := by decide +kernel
theorem dX7_bestHour_31 : decode cX7_bestHour 31 = .ok (.bipush 12, 2) := by decide +kernel
theorem dX7_bestHour_33 : decode cX7_bestHour 33 = .ok (.if_icmp .ge 45, 3) := by decide +kernel
theorem dX7_bestHour_36 : decode cX7_bestHour 36 = .ok (.aload_n 0, 1) := by decide +kernel
theorem dX7_bestHour_37 : decode cX7_bestHour 37 = .ok (.getfield 22, 3) := by decide +kernel
theorem dX7_bestHour_40 : decode cX7_bestHour 40 = .ok (.iload_n 1, 1) := by decide +kernel
theorem dX7_bestHour_41 : decode cX7_bestHour 41 = .ok (.iload 5, 2) := by decide +kernel
theorem dX7_bestHour_43 : decode cX7_bestHour 43 = .ok (.iastore, 1) := by decide +kernel
theorem dX7_bestHour_44 : decode cX7_bestHour 44 = .ok (.aload_n 0, 1) := by decide +kernel
theorem dX7_bestHour_45 : decode cX7_bestHour 45 = .ok (.invokevirtual 199, 3) := by decide +kernel
theorem dX7_bestHour_48 : decode cX7_bestHour 48 = .ok (.istore 6, 2) := by decide +kernel
theorem dX7_bestHour_50 : decode cX7_bestHour 50 = .ok (.iload 4, 2) := by decide +kernel
theorem dX7_bestHour_52 : decode cX7_bestHour 52 = .ok (.ifCond .lt 13, 3) := by decide +kernel
theorem dX7_bestHour_55 : decode cX7_bestHour 55 = .ok (.iload 6, 2) := by decide +kernel
theorem dX7_bestHour_57 : decode cX7_bestHour 57 = .ok (.iload 4, 2) := by decide +kernel
theorem dX7_bestHour_59 : decode cX7_bestHour 59 = .ok (.if_icmp .lt 6, 3) := by decide +kernel
theorem dX7_bestHour_62 : decode cX7_bestHour 62 = .ok (.goto 10, 3) := by decide +kernel
theorem dX7_bestHour_65 : decode cX7_bestHour 65 = .ok (.iload 6, 2) := by decide +kernel
theorem dX7_bestHour_67 : decode cX7_bestHour 67 = .ok (.istore 4, 2) := by decide +kernel
theorem dX7_bestHour_69 : decode cX7_bestHour 69 = .ok (.iload 5, 2) := by decide +kernel
theorem dX7_bestHour_71 : decode cX7_bestHour 71 = .ok (.istore_n 3, 1) := by decide +kernel
theorem dX7_bestHour_72 : decode cX7_bestHour 72 = .ok (.iinc 5 1, 3) := by decide +kernel
theorem dX7_bestHour_75 : decode cX7_bestHour 75 = .ok (.goto (-46), 3) := by decide +kernel
theorem dX7_bestHour_78 : decode cX7_bestHour 78 = .ok (.aload_n 0, 1) := by decide +kernel
theorem dX7_bestHour_79 : decode cX7_bestHour 79 = .ok (.getfield 22, 3) := by decide +kernel
theorem dX7_bestHour_82 : decode cX7_bestHour 82 = .ok (.iload_n 1, 1) := by decide +kernel
theorem dX7_bestHour_83 : decode cX7_bestHour 83 = .ok (.iload_n 2, 1) := by decide +kernel
theorem dX7_bestHour_84 : decode cX7_bestHour 84 = .ok (.iastore, 1) := by decide +kernel
theorem dX7_bestHour_85 : decode cX7_bestHour 85 = .ok (.iload_n 3, 1) := by decide +kernel
theorem dX7_bestHour_86 : decode cX7_bestHour 86 = .ok (.ireturn, 1) := by decide +kernel
theorem dX7_without_0 : decode cX7_without 0 = .ok (.aload_n 0, 1) := by decide +kernel
theorem dX7_without_1 : decode cX7_without 1 = .ok (.iload_n 1, 1) := by decide +kernel
theorem dX7_without_2 : decode cX7_without 2 = .ok (.invokevirtual 121, 3) := by decide +kernel
theorem dX7_without_5 : decode cX7_without 5 = .ok (.ifCond .ne 9, 3) := by decide +kernel
theorem dX7_without_8 : decode cX7_without 8 = .ok (.aload_n 0, 1) := by decide +kernel
theorem dX7_without_9 : decode cX7_without 9 = .ok (.iconst (-1), 1) := by decide +kernel
theorem dX7_without_10 : decode cX7_without 10 = .ok (.invokevirtual 202, 3) := by decide +kernel
theorem dX7_without_13 : decode cX7_without 13 = .ok (.ireturn, 1) := by decide +kernel
theorem dX7_without_14 : decode cX7_without 14 = .ok (.aload_n 0, 1) := by decide +kernel
theorem dX7_without_15 : decode cX7_without 15 = .ok (.invokevirtual 199, 3) := by decide +kernel
theorem dX7_without_18 : decode cX7_without 18 = .ok (.istore_n 2, 1) := by decide +kernel
theorem dX7_without_19 : decode cX7_without 19 = .ok (.aload_n 0, 1) := by decide +kernel
theorem dX7_without_20 : decode cX7_without 20 = .ok (.iload_n 1, 1) := by decide +kernel
theorem dX7_without_21 : decode cX7_without 21 = .ok (.bipush (-9), 2) := by decide +kernel
theorem dX7_without_23 : decode cX7_without 23 = .ok (.invokevirtual 182, 3) := by decide +kernel
theorem dX7_without_26 : decode cX7_without 26 = .ok (.iload_n 2, 1) := by decide +kernel
theorem dX7_without_27 : decode cX7_without 27 = .ok (.aload_n 0, 1) := by decide +kernel
theorem dX7_without_28 : decode cX7_without 28 = .ok (.invokevirtual 188, 3) := by decide +kernel
theorem dX7_without_31 : decode cX7_without 31 = .ok (.isub, 1) := by decide +kernel
theorem dX7_without_32 : decode cX7_without 32 = .ok (.ireturn, 1) := by decide +kernel
theorem dX7_secondAt_0 : decode cX7_secondAt 0 = .ok (.aload_n 0, 1) := by decide +kernel
theorem dX7_secondAt_1 : decode cX7_secondAt 1 = .ok (.invokevirtual 199, 3) := by decide +kernel
theorem dX7_secondAt_4 : decode cX7_secondAt 4 = .ok (.istore_n 2, 1) := by decide +kernel
theorem dX7_secondAt_5 : decode cX7_secondAt 5 = .ok (.aload_n 0, 1) := by decide +kernel
theorem dX7_secondAt_6 : decode cX7_secondAt 6 = .ok (.bipush (-9), 2) := by decide +kernel
theorem dX7_secondAt_8 : decode cX7_secondAt 8 = .ok (.iload_n 1, 1) := by decide +kernel
theorem dX7_secondAt_9 : decode cX7_secondAt 9 = .ok (.invokevirtual 182, 3) := by decide +kernel
theorem dX7_secondAt_12 : decode cX7_secondAt 12 = .ok (.iload_n 2, 1) := by decide +kernel
theorem dX7_secondAt_13 : decode cX7_secondAt 13 = .ok (.aload_n 0, 1) := by decide +kernel
theorem dX7_secondAt_14 : decode cX7_secondAt 14 = .ok (.invokevirtual 188, 3) := by decide +kernel
theorem dX7_secondAt_17 : decode cX7_secondAt 17 = .ok (.isub, 1) := by decide +kernel
theorem dX7_secondAt_18 : decode cX7_secondAt 18 = .ok (.ireturn, 1) := by decide +kernel
theorem dX7_second_0 : decode cX7_second 0 = .ok (.iload_n 1, 1) := by decide +kernel
theorem dX7_second_1 : decode cX7_second 1 = .ok (.invokestatic 115, 3) := by decide +kernel
theorem dX7_second_4 : decode cX7_second 4 = .ok (.ifCond .eq 11, 3) := by decide +kernel
theorem dX7_second_7 : decode cX7_second 7 = .ok (.aload_n 0, 1) := by decide +kernel
theorem dX7_second_8 : decode cX7_second 8 = .ok (.iload_n 1, 1) := by decide +kernel
theorem dX7_second_9 : decode cX7_second 9 = .ok (.invokevirtual 205, 3) := by decide +kernel
theorem dX7_second_12 : decode cX7_second 12 = .ok (.goto 8, 3) := by decide +kernel
theorem dX7_second_15 : decode cX7_second 15 = .ok (.aload_n 0, 1) := by decide +kernel
theorem dX7_second_16 : decode cX7_second 16 = .ok (.iconst (-1), 1) := by decide +kernel
theorem dX7_second_17 : decode cX7_second 17 = .ok (.invokevirtual 202, 3) := by decide +kernel
theorem dX7_second_20 : decode cX7_second 20 = .ok (.ireturn, 1) := by decide +kernel
theorem dX7_bestSecond_0 : decode cX7_bestSecond 0 = .ok (.iconst 0, 1) := by decide +kernel
theorem dX7_bestSecond_1 : decode cX7_bestSecond 1 = .ok (.istore_n 1, 1) := by decide +kernel
theorem dX7_bestSecond_2 : decode cX7_bestSecond 2 = .ok (.iconst 1, 1) := by decide +kernel
theorem dX7_bestSecond_3 : decode cX7_bestSecond 3 = .ok (.istore_n 2, 1) := by decide +kernel
theorem dX7_bestSecond_4 : decode cX7_bestSecond 4 = .ok (.iload_n 2, 1) := by decide +kernel
theorem dX7_bestSecond_5 : decode cX7_bestSecond 5 = .ok (.bipush 40, 2) := by decide +kernel
theorem dX7_bestSecond_7 : decode cX7_bestSecond 7 = .ok (.if_icmp .ge 24, 3) := by decide +kernel
theorem dX7_bestSecond_10 : decode cX7_bestSecond 10 = .ok (.aload_n 0, 1) := by decide +kernel
theorem dX7_bestSecond_11 : decode cX7_bestSecond 11 = .ok (.iload_n 2, 1) := by decide +kernel
theorem dX7_bestSecond_12 : decode cX7_bestSecond 12 = .ok (.invokevirtual 205, 3) := by decide +kernel
theorem dX7_bestSecond_15 : decode cX7_bestSecond 15 = .ok (.aload_n 0, 1) := by decide +kernel
theorem dX7_bestSecond_16 : decode cX7_bestSecond 16 = .ok (.iload_n 1, 1) := by decide +kernel
theorem dX7_bestSecond_17 : decode cX7_bestSecond 17 = .ok (.invokevirtual 205, 3) := by decide +kernel
theorem dX7_bestSecond_20 : decode cX7_bestSecond 20 = .ok (.if_icmp .le 5, 3) := by decide +kernel
theorem dX7_bestSecond_23 : decode cX7_bestSecond 23 = .ok (.iload_n 2, 1) := by decide +kernel
theorem dX7_bestSecond_24 : decode cX7_bestSecond 24 = .ok (.istore_n 1, 1) := by decide +kernel
theorem dX7_bestSecond_25 : decode cX7_bestSecond 25 = .ok (.iinc 2 1, 3) := by decide +kernel
theorem dX7_bestSecond_28 : decode cX7_bestSecond 28 = .ok (.goto (-24), 3) := by decide +kernel
theorem dX7_bestSecond_31 : decode cX7_bestSecond 31 = .ok (.iload_n 1, 1) := by decide +kernel
theorem dX7_bestSecond_32 : decode cX7_bestSecond 32 = .ok (.ireturn, 1) := by decide +kernel
theorem dX7_owe_0 : decode cX7_owe 0 = .ok (.aload_n 0, 1) := by decide +kernel
theorem dX7_owe_1 : decode cX7_owe 1 = .ok (.bipush (-9), 2) := by decide +kernel
theorem dX7_owe_3 : decode cX7_owe 3 = .ok (.invokevirtual 172, 3) := by decide +kernel
theorem dX7_owe_6 : decode cX7_owe 6 = .ok (.iconst 0, 1) := by decide +kernel
theorem dX7_owe_7 : decode cX7_owe 7 = .ok (.istore_n 1, 1) := by decide +kernel
theorem dX7_owe_8 : decode cX7_owe 8 = .ok (.iload_n 1, 1) := by decide +kernel
theorem dX7_owe_9 : decode cX7_owe 9 = .ok (.aload_n 0, 1) := by decide +kernel
theorem dX7_owe_10 : decode cX7_owe 10 = .ok (.getfield 84, 3) := by decide +kernel
theorem dX7_owe_13 : decode cX7_owe 13 = .ok (.if_icmp .ge 16, 3) := by decide +kernel
theorem dX7_owe_16 : decode cX7_owe 16 = .ok (.aload_n 0, 1) := by decide +kernel
theorem dX7_owe_17 : decode cX7_owe 17 = .ok (.getfield 70, 3) := by decide +kernel
theorem dX7_owe_20 : decode cX7_owe 20 = .ok (.iload_n 1, 1) := by decide +kernel
theorem dX7_owe_21 : decode cX7_owe 21 = .ok (.iconst 0, 1) := by decide +kernel
theorem dX7_owe_22 : decode cX7_owe 22 = .ok (.iastore, 1) := by decide +kernel
theorem dX7_owe_23 : decode cX7_owe 23 = .ok (.iinc 1 1, 3) := by decide +kernel
theorem dX7_owe_26 : decode cX7_owe 26 = .ok (.goto (-18), 3) := by decide +kernel
theorem dX7_owe_29 : decode cX7_owe 29 = .ok (.bipush (-9), 2) := by decide +kernel
theorem dX7_owe_31 : decode cX7_owe 31 = .ok (.istore_n 1, 1) := by decide +kernel
theorem dX7_owe_32 : decode cX7_owe 32 = .ok (.iconst 0, 1) := by decide +kernel
theorem dX7_owe_33 : decode cX7_owe 33 = .ok (.istore_n 2, 1) := by decide +kernel
theorem dX7_owe_34 : decode cX7_owe 34 = .ok (.iload_n 2, 1) := by decide +kernel
theorem dX7_owe_35 : decode cX7_owe 35 = .ok (.bipush 12, 2) := by decide +kernel
theorem dX7_owe_37 : decode cX7_owe 37 = .ok (.if_icmp .ge 123, 3) := by decide +kernel
theorem dX7_owe_40 : decode cX7_owe 40 = .ok (.iconst 0, 1) := by decide +kernel
theorem dX7_owe_41 : decode cX7_owe 41 = .ok (.istore_n 3, 1) := by decide +kernel
theorem dX7_owe_42 : decode cX7_owe 42 = .ok (.iload_n 3, 1) := by decide +kernel
theorem dX7_owe_43 : decode cX7_owe 43 = .ok (.aload_n 0, 1) := by decide +kernel
theorem dX7_owe_44 : decode cX7_owe 44 = .ok (.getfield 84, 3) := by decide +kernel
theorem dX7_owe_47 : decode cX7_owe 47 = .ok (.if_icmp .ge 107, 3) := by decide +kernel
theorem dX7_owe_50 : decode cX7_owe 50 = .ok (.aload_n 0, 1) := by decide +kernel
theorem dX7_owe_51 : decode cX7_owe 51 = .ok (.getfield 22, 3) := by decide +kernel
theorem dX7_owe_54 : decode cX7_owe 54 = .ok (.iload_n 3, 1) := by decide +kernel
theorem dX7_owe_55 : decode cX7_owe 55 = .ok (.iaload, 1) := by decide +kernel
theorem dX7_owe_56 : decode cX7_owe 56 = .ok (.iload_n 2, 1) := by decide +kernel
theorem dX7_owe_57 : decode cX7_owe 57 = .ok (.if_icmp .eq 6, 3) := by decide +kernel
theorem dX7_owe_60 : decode cX7_owe 60 = .ok (.goto 88, 3) := by decide +kernel
theorem dX7_owe_63 : decode cX7_owe 63 = .ok (.iload_n 1, 1) := by decide +kernel
theorem dX7_owe_64 : decode cX7_owe 64 = .ok (.bipush (-9), 2) := by decide +kernel
theorem dX7_owe_66 : decode cX7_owe 66 = .ok (.if_icmp .eq 75, 3) := by decide +kernel
theorem dX7_owe_69 : decode cX7_owe 69 = .ok (.aload_n 0, 1) := by decide +kernel
theorem dX7_owe_70 : decode cX7_owe 70 = .ok (.getfield 64, 3) := by decide +kernel
theorem dX7_owe_73 : decode cX7_owe 73 = .ok (.iload_n 1, 1) := by decide +kernel
theorem dX7_owe_74 : decode cX7_owe 74 = .ok (.iaload, 1) := by decide +kernel
theorem dX7_owe_75 : decode cX7_owe 75 = .ok (.bipush (-9), 2) := by decide +kernel
theorem dX7_owe_77 : decode cX7_owe 77 = .ok (.if_icmp .eq 64, 3) := by decide +kernel
theorem dX7_owe_80 : decode cX7_owe 80 = .ok (.iconst 0, 1) := by decide +kernel
theorem dX7_owe_81 : decode cX7_owe 81 = .ok (.aload_n 0, 1) := by decide +kernel
theorem dX7_owe_82 : decode cX7_owe 82 = .ok (.getfield 49, 3) := by decide +kernel
theorem dX7_owe_85 : decode cX7_owe 85 = .ok (.iconst 0, 1) := by decide +kernel
theorem dX7_owe_86 : decode cX7_owe 86 = .ok (.iaload, 1) := by decide +kernel
theorem dX7_owe_87 : decode cX7_owe 87 = .ok (.aload_n 0, 1) := by decide +kernel
theorem dX7_owe_88 : decode cX7_owe 88 = .ok (.getfield 16, 3) := by decide +kernel
theorem dX7_owe_91 : decode cX7_owe 91 = .ok (.iload_n 3, 1) := by decide +kernel
theorem dX7_owe_92 : decode cX7_owe 92 = .ok (.iaload, 1) := by decide +kernel
theorem dX7_owe_93 : decode cX7_owe 93 = .ok (.isub, 1) := by decide +kernel
theorem dX7_owe_94 : decode cX7_owe 94 = .ok (.invokestatic 144, 3) := by decide +kernel
theorem dX7_owe_97 : decode cX7_owe 97 = .ok (.aload_n 0, 1) := by decide +kernel
theorem dX7_owe_98 : decode cX7_owe 98 = .ok (.getfield 25, 3) := by decide +kernel
theorem dX7_owe_101 : decode cX7_owe 101 = .ok (.iconst 0, 1) := by decide +kernel
theorem dX7_owe_102 : decode cX7_owe 102 = .ok (.iaload, 1) := by decide +kernel
theorem dX7_owe_103 : decode cX7_owe 103 = .ok (.aload_n 0, 1) := by decide +kernel
theorem dX7_owe_104 : decode cX7_owe 104 = .ok (.getfield 16, 3) := by decide +kernel
theorem dX7_owe_107 : decode cX7_owe 107 = .ok (.iload_n 3, 1) := by decide +kernel
theorem dX7_owe_108 : decode cX7_owe 108 = .ok (.iaload, 1) := by decide +kernel
theorem dX7_owe_109 : decode cX7_owe 109 = .ok (.isub, 1) := by decide +kernel
theorem dX7_owe_110 : decode cX7_owe 110 = .ok (.invokestatic 144, 3) := by decide +kernel
theorem dX7_owe_113 : decode cX7_owe 113 = .ok (.isub, 1) := by decide +kernel
theorem dX7_owe_114 : decode cX7_owe 114 = .ok (.invokestatic 208, 3) := by decide +kernel
theorem dX7_owe_117 : decode cX7_owe 117 = .ok (.istore 4, 2) := by decide +kernel
theorem dX7_owe_119 : decode cX7_owe 119 = .ok (.aload_n 0, 1) := by decide +kernel
theorem dX7_owe_120 : decode cX7_owe 120 = .ok (.getfield 70, 3) := by decide +kernel
theorem dX7_owe_123 : decode cX7_owe 123 = .ok (.iload_n 3, 1) := by decide +kernel
theorem dX7_owe_124 : decode cX7_owe 124 = .ok (.dup2, 1) := by decide +kernel
theorem dX7_owe_125 : decode cX7_owe 125 = .ok (.iaload, 1) := by decide +kernel
theorem dX7_owe_126 : decode cX7_owe 126 = .ok (.iload 4, 2) := by decide +kernel
theorem dX7_owe_128 : decode cX7_owe 128 = .ok (.iadd, 1) := by decide +kernel
theorem dX7_owe_129 : decode cX7_owe 129 = .ok (.iastore, 1) := by decide +kernel
theorem dX7_owe_130 : decode cX7_owe 130 = .ok (.aload_n 0, 1) := by decide +kernel
theorem dX7_owe_131 : decode cX7_owe 131 = .ok (.getfield 70, 3) := by decide +kernel
theorem dX7_owe_134 : decode cX7_owe 134 = .ok (.iload_n 1, 1) := by decide +kernel
theorem dX7_owe_135 : decode cX7_owe 135 = .ok (.dup2, 1) := by decide +kernel
theorem dX7_owe_136 : decode cX7_owe 136 = .ok (.iaload, 1) := by decide +kernel
theorem dX7_owe_137 : decode cX7_owe 137 = .ok (.iload 4, 2) := by decide +kernel
theorem dX7_owe_139 : decode cX7_owe 139 = .ok (.isub, 1) := by decide +kernel
theorem dX7_owe_140 : decode cX7_owe 140 = .ok (.iastore, 1) := by decide +kernel
theorem dX7_owe_141 : decode cX7_owe 141 = .ok (.aload_n 0, 1) := by decide +kernel
theorem dX7_owe_142 : decode cX7_owe 142 = .ok (.iload_n 3, 1) := by decide +kernel
theorem dX7_owe_143 : decode cX7_owe 143 = .ok (.invokevirtual 179, 3) := by decide +kernel
theorem dX7_owe_146 : decode cX7_owe 146 = .ok (.iload_n 3, 1) := by decide +kernel
theorem dX7_owe_147 : decode cX7_owe 147 = .ok (.istore_n 1, 1) := by decide +kernel
theorem dX7_owe_148 : decode cX7_owe 148 = .ok (.iinc 3 1, 3) := by decide +kernel
theorem dX7_owe_151 : decode cX7_owe 151 = .ok (.goto (-109), 3) := by decide +kernel
theorem dX7_owe_154 : decode cX7_owe 154 = .ok (.iinc 2 1, 3) := by decide +kernel
theorem dX7_owe_157 : decode cX7_owe 157 = .ok (.goto (-123), 3) := by decide +kernel
theorem dX7_owe_160 : decode cX7_owe 160 = .ok (.return_, 1) := by decide +kernel
theorem dX7_net_0 : decode cX7_net 0 = .ok (.aload_n 0, 1) := by decide +kernel
theorem dX7_net_1 : decode cX7_net 1 = .ok (.iload_n 1, 1) := by decide +kernel
theorem dX7_net_2 : decode cX7_net 2 = .ok (.invokevirtual 121, 3) := by decide +kernel
theorem dX7_net_5 : decode cX7_net 5 = .ok (.ifCond .ne 9, 3) := by decide +kernel
theorem dX7_net_8 : decode cX7_net 8 = .ok (.aload_n 0, 1) := by decide +kernel
theorem dX7_net_9 : decode cX7_net 9 = .ok (.iconst (-1), 1) := by decide +kernel
theorem dX7_net_10 : decode cX7_net 10 = .ok (.invokevirtual 202, 3) := by decide +kernel
theorem dX7_net_13 : decode cX7_net 13 = .ok (.ireturn, 1) := by decide +kernel
theorem dX7_net_14 : decode cX7_net 14 = .ok (.aload_n 0, 1) := by decide +kernel
theorem dX7_net_15 : decode cX7_net 15 = .ok (.invokevirtual 211, 3) := by decide +kernel
theorem dX7_net_18 : decode cX7_net 18 = .ok (.aload_n 0, 1) := by decide +kernel
theorem dX7_net_19 : decode cX7_net 19 = .ok (.getfield 70, 3) := by decide +kernel
theorem dX7_net_22 : decode cX7_net 22 = .ok (.iload_n 1, 1) := by decide +kernel
theorem dX7_net_23 : decode cX7_net 23 = .ok (.iaload, 1) := by decide +kernel
theorem dX7_net_24 : decode cX7_net 24 = .ok (.ireturn, 1) := by decide +kernel
theorem dX7_payments_0 : decode cX7_payments 0 = .ok (.aload_n 0, 1) := by decide +kernel
theorem dX7_payments_1 : decode cX7_payments 1 = .ok (.invokevirtual 211, 3) := by decide +kernel
theorem dX7_payments_4 : decode cX7_payments 4 = .ok (.iconst 0, 1) := by decide +kernel
theorem dX7_payments_5 : decode cX7_payments 5 = .ok (.istore_n 1, 1) := by decide +kernel
theorem dX7_payments_6 : decode cX7_payments 6 = .ok (.iconst 0, 1) := by decide +kernel
theorem dX7_payments_7 : decode cX7_payments 7 = .ok (.istore_n 2, 1) := by decide +kernel
theorem dX7_payments_8 : decode cX7_payments 8 = .ok (.iload_n 2, 1) := by decide +kernel
theorem dX7_payments_9 : decode cX7_payments 9 = .ok (.aload_n 0, 1) := by decide +kernel
theorem dX7_payments_10 : decode cX7_payments 10 = .ok (.getfield 84, 3) := by decide +kernel
theorem dX7_payments_13 : decode cX7_payments 13 = .ok (.if_icmp .ge 21, 3) := by decide +kernel
theorem dX7_payments_16 : decode cX7_payments 16 = .ok (.aload_n 0, 1) := by decide +kernel
theorem dX7_payments_17 : decode cX7_payments 17 = .ok (.getfield 70, 3) := by decide +kernel
theorem dX7_payments_20 : decode cX7_payments 20 = .ok (.iload_n 2, 1) := by decide +kernel
theorem dX7_payments_21 : decode cX7_payments 21 = .ok (.iaload, 1) := by decide +kernel
theorem dX7_payments_22 : decode cX7_payments 22 = .ok (.ifCond .eq 6, 3) := by decide +kernel
theorem dX7_payments_25 : decode cX7_payments 25 = .ok (.iinc 1 1, 3) := by decide +kernel
theorem dX7_payments_28 : decode cX7_payments 28 = .ok (.iinc 2 1, 3) := by decide +kernel
theorem dX7_payments_31 : decode cX7_payments 31 = .ok (.goto (-23), 3) := by decide +kernel
theorem dX7_payments_34 : decode cX7_payments 34 = .ok (.iconst 0, 1) := by decide +kernel
theorem dX7_payments_35 : decode cX7_payments 35 = .ok (.istore_n 2, 1) := by decide +kernel
theorem dX7_payments_36 : decode cX7_payments 36 = .ok (.iload_n 2, 1) := by decide +kernel
theorem dX7_payments_37 : decode cX7_payments 37 = .ok (.iconst 1, 1) := by decide +kernel
theorem dX7_payments_38 : decode cX7_payments 38 = .ok (.aload_n 0, 1) := by decide +kernel
theorem dX7_payments_39 : decode cX7_payments 39 = .ok (.getfield 84, 3) := by decide +kernel
theorem dX7_payments_42 : decode cX7_payments 42 = .ok (.ishl, 1) := by decide +kernel
theorem dX7_payments_43 : decode cX7_payments 43 = .ok (.if_icmp .ge 155, 3) := by decide +kernel
theorem dX7_payments_46 : decode cX7_payments 46 = .ok (.iconst 0, 1) := by decide +kernel
theorem dX7_payments_47 : decode cX7_payments 47 = .ok (.istore_n 3, 1) := by decide +kernel
theorem dX7_payments_48 : decode cX7_payments 48 = .ok (.iconst 0, 1) := by decide +kernel
theorem dX7_payments_49 : decode cX7_payments 49 = .ok (.istore 4, 2) := by decide +kernel
theorem dX7_payments_51 : decode cX7_payments 51 = .ok (.iconst 0, 1) := by decide +kernel
theorem dX7_payments_52 : decode cX7_payments 52 = .ok (.istore 5, 2) := by decide +kernel
theorem dX7_payments_54 : decode cX7_payments 54 = .ok (.iload 5, 2) := by decide +kernel
theorem dX7_payments_56 : decode cX7_payments 56 = .ok (.aload_n 0, 1) := by decide +kernel
theorem dX7_payments_57 : decode cX7_payments 57 = .ok (.getfield 84, 3) := by decide +kernel
theorem dX7_payments_60 : decode cX7_payments 60 = .ok (.if_icmp .ge 45, 3) := by decide +kernel
theorem dX7_payments_63 : decode cX7_payments 63 = .ok (.iload_n 2, 1) := by decide +kernel
theorem dX7_payments_64 : decode cX7_payments 64 = .ok (.iload 5, 2) := by decide +kernel
theorem dX7_payments_66 : decode cX7_payments 66 = .ok (.ishr, 1) := by decide +kernel
theorem dX7_payments_67 : decode cX7_payments 67 = .ok (.iconst 1, 1) := by decide +kernel
theorem dX7_payments_68 : decode cX7_payments 68 = .ok (.iand, 1) := by decide +kernel
theorem dX7_payments_69 : decode cX7_payments 69 = .ok (.ifCond .ne 6, 3) := by decide +kernel
theorem dX7_payments_72 : decode cX7_payments 72 = .ok (.goto 27, 3) := by decide +kernel
theorem dX7_payments_75 : decode cX7_payments 75 = .ok (.aload_n 0, 1) := by decide +kernel
theorem dX7_payments_76 : decode cX7_payments 76 = .ok (.getfield 70, 3) := by decide +kernel
theorem dX7_payments_79 : decode cX7_payments 79 = .ok (.iload 5, 2) := by decide +kernel
theorem dX7_payments_81 : decode cX7_payments 81 = .ok (.iaload, 1) := by decide +kernel
theorem dX7_payments_82 : decode cX7_payments 82 = .ok (.ifCond .ne 7, 3) := by decide +kernel
theorem dX7_payments_85 : decode cX7_payments 85 = .ok (.bipush (-9), 2) := by decide +kernel
theorem dX7_payments_87 : decode cX7_payments 87 = .ok (.istore 4, 2) := by decide +kernel
theorem dX7_payments_89 : decode cX7_payments 89 = .ok (.iload_n 3, 1) := by decide +kernel
theorem dX7_payments_90 : decode cX7_payments 90 = .ok (.aload_n 0, 1) := by decide +kernel
theorem dX7_payments_91 : decode cX7_payments 91 = .ok (.getfield 70, 3) := by decide +kernel
theorem dX7_payments_94 : decode cX7_payments 94 = .ok (.iload 5, 2) := by decide +kernel
theorem dX7_payments_96 : decode cX7_payments 96 = .ok (.iaload, 1) := by decide +kernel
theorem dX7_payments_97 : decode cX7_payments 97 = .ok (.iadd, 1) := by decide +kernel
theorem dX7_payments_98 : decode cX7_payments 98 = .ok (.istore_n 3, 1) := by decide +kernel
theorem dX7_payments_99 : decode cX7_payments 99 = .ok (.iinc 5 1, 3) := by decide +kernel
theorem dX7_payments_102 : decode cX7_payments 102 = .ok (.goto (-48), 3) := by decide +kernel
theorem dX7_payments_105 : decode cX7_payments 105 = .ok (.iconst 0, 1) := by decide +kernel
theorem dX7_payments_106 : decode cX7_payments 106 = .ok (.istore 5, 2) := by decide +kernel
theorem dX7_payments_108 : decode cX7_payments 108 = .ok (.iload 5, 2) := by decide +kernel
theorem dX7_payments_110 : decode cX7_payments 110 = .ok (.aload_n 0, 1) := by decide +kernel
theorem dX7_payments_111 : decode cX7_payments 111 = .ok (.getfield 84, 3) := by decide +kernel
theorem dX7_payments_114 : decode cX7_payments 114 = .ok (.if_icmp .ge 44, 3) := by decide +kernel
theorem dX7_payments_117 : decode cX7_payments 117 = .ok (.iload 4, 2) := by decide +kernel
theorem dX7_payments_119 : decode cX7_payments 119 = .ok (.bipush (-9), 2) := by decide +kernel
theorem dX7_payments_121 : decode cX7_payments 121 = .ok (.if_icmp .eq 37, 3) := by decide +kernel
theorem dX7_payments_124 : decode cX7_payments 124 = .ok (.iload_n 2, 1) := by decide +kernel
theorem dX7_payments_125 : decode cX7_payments 125 = .ok (.iload 5, 2) := by decide +kernel
theorem dX7_payments_127 : decode cX7_payments 127 = .ok (.ishr, 1) := by decide +kernel
theorem dX7_payments_128 : decode cX7_payments 128 = .ok (.iconst 1, 1) := by decide +kernel
theorem dX7_payments_129 : decode cX7_payments 129 = .ok (.iand, 1) := by decide +kernel
theorem dX7_payments_130 : decode cX7_payments 130 = .ok (.iconst 1, 1) := by decide +kernel
theorem dX7_payments_131 : decode cX7_payments 131 = .ok (.if_icmp .ne 21, 3) := by decide +kernel
theorem dX7_payments_134 : decode cX7_payments 134 = .ok (.iload 4, 2) := by decide +kernel
theorem dX7_payments_136 : decode cX7_payments 136 = .ok (.aload_n 0, 1) := by decide +kernel
theorem dX7_payments_137 : decode cX7_payments 137 = .ok (.getfield 76, 3) := by decide +kernel
theorem dX7_payments_140 : decode cX7_payments 140 = .ok (.iload_n 2, 1) := by decide +kernel
theorem dX7_payments_141 : decode cX7_payments 141 = .ok (.iconst 1, 1) := by decide +kernel
theorem dX7_payments_142 : decode cX7_payments 142 = .ok (.iload 5, 2) := by decide +kernel
theorem dX7_payments_144 : decode cX7_payments 144 = .ok (.ishl, 1) := by decide +kernel
theorem dX7_payments_145 : decode cX7_payments 145 = .ok (.ixor, 1) := by decide +kernel
theorem dX7_payments_146 : decode cX7_payments 146 = .ok (.iaload, 1) := by decide +kernel
theorem dX7_payments_147 : decode cX7_payments 147 = .ok (.invokestatic 208, 3) := by decide +kernel
theorem dX7_payments_150 : decode cX7_payments 150 = .ok (.istore 4, 2) := by decide +kernel
theorem dX7_payments_152 : decode cX7_payments 152 = .ok (.iinc 5 1, 3) := by decide +kernel
theorem dX7_payments_155 : decode cX7_payments 155 = .ok (.goto (-47), 3) := by decide +kernel
theorem dX7_payments_158 : decode cX7_payments 158 = .ok (.aload_n 0, 1) := by decide +kernel
theorem dX7_payments_159 : decode cX7_payments 159 = .ok (.getfield 76, 3) := by decide +kernel
theorem dX7_payments_162 : decode cX7_payments 162 = .ok (.iload_n 2, 1) := by decide +kernel
theorem dX7_payments_163 : decode cX7_payments 163 = .ok (.iload 4, 2) := by decide +kernel
theorem dX7_payments_165 : decode cX7_payments 165 = .ok (.bipush (-9), 2) := by decide +kernel
theorem dX7_payments_167 : decode cX7_payments 167 = .ok (.if_icmp .ne 7, 3) := by decide +kernel
theorem dX7_payments_170 : decode cX7_payments 170 = .ok (.iconst 0, 1) := by decide +kernel
theorem dX7_payments_171 : decode cX7_payments 171 = .ok (.goto 20, 3) := by decide +kernel
theorem dX7_payments_174 : decode cX7_payments 174 = .ok (.iload_n 3, 1) := by decide +kernel
theorem dX7_payments_175 : decode cX7_payments 175 = .ok (.ifCond .ne 14, 3) := by decide +kernel
theorem dX7_payments_178 : decode cX7_payments 178 = .ok (.iload_n 2, 1) := by decide +kernel
theorem dX7_payments_179 : decode cX7_payments 179 = .ok (.ifCond .le 10, 3) := by decide +kernel
theorem dX7_payments_182 : decode cX7_payments 182 = .ok (.iload 4, 2) := by decide +kernel
theorem dX7_payments_184 : decode cX7_payments 184 = .ok (.iconst 1, 1) := by decide +kernel
theorem dX7_payments_185 : decode cX7_payments 185 = .ok (.iadd, 1) := by decide +kernel
theorem dX7_payments_186 : decode cX7_payments 186 = .ok (.goto 5, 3) := by decide +kernel
theorem dX7_payments_189 : decode cX7_payments 189 = .ok (.iload 4, 2) := by decide +kernel
theorem dX7_payments_191 : decode cX7_payments 191 = .ok (.iastore, 1) := by decide +kernel
theorem dX7_payments_192 : decode cX7_payments 192 = .ok (.iinc 2 1, 3) := by decide +kernel
theorem dX7_payments_195 : decode cX7_payments 195 = .ok (.goto (-159), 3) := by decide +kernel
theorem dX7_payments_198 : decode cX7_payments 198 = .ok (.iconst 0, 1) := by decide +kernel
theorem dX7_payments_199 : decode cX7_payments 199 = .ok (.istore_n 2, 1) := by decide +kernel
theorem dX7_payments_200 : decode cX7_payments 200 = .ok (.iconst 0, 1) := by decide +kernel
theorem dX7_payments_201 : decode cX7_payments 201 = .ok (.istore_n 3, 1) := by decide +kernel
theorem dX7_payments_202 : decode cX7_payments 202 = .ok (.iload_n 3, 1) := by decide +kernel
theorem dX7_payments_203 : decode cX7_payments 203 = .ok (.aload_n 0, 1) := by decide +kernel
theorem dX7_payments_204 : decode cX7_payments 204 = .ok (.getfield 84, 3) := by decide +kernel
theorem dX7_payments_207 : decode cX7_payments 207 = .ok (.if_icmp .ge 24, 3) := by decide +kernel
theorem dX7_payments_210 : decode cX7_payments 210 = .ok (.aload_n 0, 1) := by decide +kernel
theorem dX7_payments_211 : decode cX7_payments 211 = .ok (.getfield 70, 3) := by decide +kernel
theorem dX7_payments_214 : decode cX7_payments 214 = .ok (.iload_n 3, 1) := by decide +kernel
theorem dX7_payments_215 : decode cX7_payments 215 = .ok (.iaload, 1) := by decide +kernel
theorem dX7_payments_216 : decode cX7_payments 216 = .ok (.ifCond .eq 9, 3) := by decide +kernel
theorem dX7_payments_219 : decode cX7_payments 219 = .ok (.iload_n 2, 1) := by decide +kernel
theorem dX7_payments_220 : decode cX7_payments 220 = .ok (.iconst 1, 1) := by decide +kernel
theorem dX7_payments_221 : decode cX7_payments 221 = .ok (.iload_n 3, 1) := by decide +kernel
theorem dX7_payments_222 : decode cX7_payments 222 = .ok (.ishl, 1) := by decide +kernel
theorem dX7_payments_223 : decode cX7_payments 223 = .ok (.ior, 1) := by decide +kernel
theorem dX7_payments_224 : decode cX7_payments 224 = .ok (.istore_n 2, 1) := by decide +kernel
theorem dX7_payments_225 : decode cX7_payments 225 = .ok (.iinc 3 1, 3) := by decide +kernel
theorem dX7_payments_228 : decode cX7_payments 228 = .ok (.goto (-26), 3) := by decide +kernel
theorem dX7_payments_231 : decode cX7_payments 231 = .ok (.iload_n 1, 1) := by decide +kernel
theorem dX7_payments_232 : decode cX7_payments 232 = .ok (.aload_n 0, 1) := by decide +kernel
theorem dX7_payments_233 : decode cX7_payments 233 = .ok (.getfield 76, 3) := by decide +kernel
theorem dX7_payments_236 : decode cX7_payments 236 = .ok (.iload_n 2, 1) := by decide +kernel
theorem dX7_payments_237 : decode cX7_payments 237 = .ok (.iaload, 1) := by decide +kernel
theorem dX7_payments_238 : decode cX7_payments 238 = .ok (.isub, 1) := by decide +kernel
theorem dX7_payments_239 : decode cX7_payments 239 = .ok (.ireturn, 1) := by decide +kernel
theorem dX7_near_0 : decode cX7_near 0 = .ok (.iload_n 1, 1) := by decide +kernel
theorem dX7_near_1 : decode cX7_near 1 = .ok (.ifCond .ge 10, 3) := by decide +kernel
theorem dX7_near_4 : decode cX7_near 4 = .ok (.aload_n 0, 1) := by decide +kernel
theorem dX7_near_5 : decode cX7_near 5 = .ok (.bipush (-4), 2) := by decide +kernel
theorem dX7_near_7 : decode cX7_near 7 = .ok (.invokevirtual 80, 3) := by decide +kernel
theorem dX7_near_10 : decode cX7_near 10 = .ok (.ireturn, 1) := by decide +kernel
theorem dX7_near_11 : decode cX7_near 11 = .ok (.iload_n 1, 1) := by decide +kernel
theorem dX7_near_12 : decode cX7_near 12 = .ok (.bipush 11, 2) := by decide +kernel
theorem dX7_near_14 : decode cX7_near 14 = .ok (.if_icmp .le 10, 3) := by decide +kernel
theorem dX7_near_17 : decode cX7_near 17 = .ok (.aload_n 0, 1) := by decide +kernel
theorem dX7_near_18 : decode cX7_near 18 = .ok (.bipush (-6), 2) := by decide +kernel
theorem dX7_near_20 : decode cX7_near 20 = .ok (.invokevirtual 80, 3) := by decide +kernel
theorem dX7_near_23 : decode cX7_near 23 = .ok (.ireturn, 1) := by decide +kernel
theorem dX7_near_24 : decode cX7_near 24 = .ok (.iload_n 2, 1) := by decide +kernel
theorem dX7_near_25 : decode cX7_near 25 = .ok (.invokestatic 115, 3) := by decide +kernel
theorem dX7_near_28 : decode cX7_near 28 = .ok (.ifCond .ne 9, 3) := by decide +kernel
theorem dX7_near_31 : decode cX7_near 31 = .ok (.aload_n 0, 1) := by decide +kernel
theorem dX7_near_32 : decode cX7_near 32 = .ok (.iconst (-1), 1) := by decide +kernel
theorem dX7_near_33 : decode cX7_near 33 = .ok (.invokevirtual 80, 3) := by decide +kernel
theorem dX7_near_36 : decode cX7_near 36 = .ok (.ireturn, 1) := by decide +kernel
theorem dX7_near_37 : decode cX7_near 37 = .ok (.aload_n 0, 1) := by decide +kernel
theorem dX7_near_38 : decode cX7_near 38 = .ok (.invokevirtual 186, 3) := by decide +kernel
theorem dX7_near_41 : decode cX7_near 41 = .ok (.aload_n 0, 1) := by decide +kernel
theorem dX7_near_42 : decode cX7_near 42 = .ok (.getfield 67, 3) := by decide +kernel
theorem dX7_near_45 : decode cX7_near 45 = .ok (.iload_n 1, 1) := by decide +kernel
theorem dX7_near_46 : decode cX7_near 46 = .ok (.iaload, 1) := by decide +kernel
theorem dX7_near_47 : decode cX7_near 47 = .ok (.iload_n 2, 1) := by decide +kernel
theorem dX7_near_48 : decode cX7_near 48 = .ok (.isub, 1) := by decide +kernel
theorem dX7_near_49 : decode cX7_near 49 = .ok (.invokestatic 144, 3) := by decide +kernel
theorem dX7_near_52 : decode cX7_near 52 = .ok (.ireturn, 1) := by decide +kernel
theorem dX7_midwife_0 : decode cX7_midwife 0 = .ok (.iload_n 1, 1) := by decide +kernel
theorem dX7_midwife_1 : decode cX7_midwife 1 = .ok (.invokestatic 115, 3) := by decide +kernel
theorem dX7_midwife_4 : decode cX7_midwife 4 = .ok (.ifCond .ne 9, 3) := by decide +kernel
theorem dX7_midwife_7 : decode cX7_midwife 7 = .ok (.aload_n 0, 1) := by decide +kernel
theorem dX7_midwife_8 : decode cX7_midwife 8 = .ok (.iconst (-1), 1) := by decide +kernel
theorem dX7_midwife_9 : decode cX7_midwife 9 = .ok (.invokevirtual 80, 3) := by decide +kernel
theorem dX7_midwife_12 : decode cX7_midwife 12 = .ok (.ireturn, 1) := by decide +kernel
theorem dX7_midwife_13 : decode cX7_midwife 13 = .ok (.aload_n 0, 1) := by decide +kernel
theorem dX7_midwife_14 : decode cX7_midwife 14 = .ok (.invokevirtual 186, 3) := by decide +kernel
theorem dX7_midwife_17 : decode cX7_midwife 17 = .ok (.iconst 0, 1) := by decide +kernel
theorem dX7_midwife_18 : decode cX7_midwife 18 = .ok (.istore_n 2, 1) := by decide +kernel
theorem dX7_midwife_19 : decode cX7_midwife 19 = .ok (.iconst 1, 1) := by decide +kernel
theorem dX7_midwife_20 : decode cX7_midwife 20 = .ok (.istore_n 3, 1) := by decide +kernel
theorem dX7_midwife_21 : decode cX7_midwife 21 = .ok (.iload_n 3, 1) := by decide +kernel
theorem dX7_midwife_22 : decode cX7_midwife 22 = .ok (.bipush 12, 2) := by decide +kernel
theorem dX7_midwife_24 : decode cX7_midwife 24 = .ok (.if_icmp .ge 36, 3) := by decide +kernel
theorem dX7_midwife_27 : decode cX7_midwife 27 = .ok (.aload_n 0, 1) := by decide +kernel
theorem dX7_midwife_28 : decode cX7_midwife 28 = .ok (.getfield 67, 3) := by decide +kernel
theorem dX7_midwife_31 : decode cX7_midwife 31 = .ok (.iload_n 3, 1) := by decide +kernel
theorem dX7_midwife_32 : decode cX7_midwife 32 = .ok (.iaload, 1) := by decide +kernel
theorem dX7_midwife_33 : decode cX7_midwife 33 = .ok (.iload_n 1, 1) := by decide +kernel
theorem dX7_midwife_34 : decode cX7_midwife 34 = .ok (.isub, 1) := by decide +kernel
theorem dX7_midwife_35 : decode cX7_midwife 35 = .ok (.invokestatic 144, 3) := by decide +kernel
theorem dX7_midwife_38 : decode cX7_midwife 38 = .ok (.aload_n 0, 1) := by decide +kernel
theorem dX7_midwife_39 : decode cX7_midwife 39 = .ok (.getfield 67, 3) := by decide +kernel
theorem dX7_midwife_42 : decode cX7_midwife 42 = .ok (.iload_n 2, 1) := by decide +kernel
theorem dX7_midwife_43 : decode cX7_midwife 43 = .ok (.iaload, 1) := by decide +kernel
theorem dX7_midwife_44 : decode cX7_midwife 44 = .ok (.iload_n 1, 1) := by decide +kernel
theorem dX7_midwife_45 : decode cX7_midwife 45 = .ok (.isub, 1) := by decide +kernel
theorem dX7_midwife_46 : decode cX7_midwife 46 = .ok (.invokestatic 144, 3) := by decide +kernel
theorem dX7_midwife_49 : decode cX7_midwife 49 = .ok (.if_icmp .le 5, 3) := by decide +kernel
theorem dX7_midwife_52 : decode cX7_midwife 52 = .ok (.iload_n 3, 1) := by decide +kernel
theorem dX7_midwife_53 : decode cX7_midwife 53 = .ok (.istore_n 2, 1) := by decide +kernel
theorem dX7_midwife_54 : decode cX7_midwife 54 = .ok (.iinc 3 1, 3) := by decide +kernel
theorem dX7_midwife_57 : decode cX7_midwife 57 = .ok (.goto (-36), 3) := by decide +kernel
theorem dX7_midwife_60 : decode cX7_midwife 60 = .ok (.iload_n 2, 1) := by decide +kernel
theorem dX7_midwife_61 : decode cX7_midwife 61 = .ok (.ireturn, 1) := by decide +kernel
theorem dX7_watch_0 : decode cX7_watch 0 = .ok (.aload_n 0, 1) := by decide +kernel
theorem dX7_watch_1 : decode cX7_watch 1 = .ok (.invokevirtual 186, 3) := by decide +kernel
theorem dX7_watch_4 : decode cX7_watch 4 = .ok (.iconst 0, 1) := by decide +kernel
theorem dX7_watch_5 : decode cX7_watch 5 = .ok (.istore_n 1, 1) := by decide +kernel
theorem dX7_watch_6 : decode cX7_watch 6 = .ok (.iconst 0, 1) := by decide +kernel
theorem dX7_watch_7 : decode cX7_watch 7 = .ok (.istore_n 2, 1) := by decide +kernel
theorem dX7_watch_8 : decode cX7_watch 8 = .ok (.iload_n 2, 1) := by decide +kernel
theorem dX7_watch_9 : decode cX7_watch 9 = .ok (.bipush 12, 2) := by decide +kernel
theorem dX7_watch_11 : decode cX7_watch 11 = .ok (.if_icmp .ge 83, 3) := by decide +kernel
theorem dX7_watch_14 : decode cX7_watch 14 = .ok (.iconst 0, 1) := by decide +kernel
theorem dX7_watch_15 : decode cX7_watch 15 = .ok (.istore_n 3, 1) := by decide +kernel
theorem dX7_watch_16 : decode cX7_watch 16 = .ok (.iconst 0, 1) := by decide +kernel
theorem dX7_watch_17 : decode cX7_watch 17 = .ok (.istore 4, 2) := by decide +kernel
theorem dX7_watch_19 : decode cX7_watch 19 = .ok (.iload 4, 2) := by decide +kernel
theorem dX7_watch_21 : decode cX7_watch 21 = .ok (.aload_n 0, 1) := by decide +kernel
theorem dX7_watch_22 : decode cX7_watch 22 = .ok (.getfield 84, 3) := by decide +kernel
theorem dX7_watch_25 : decode cX7_watch 25 = .ok (.if_icmp .ge 53, 3) := by decide +kernel
theorem dX7_watch_28 : decode cX7_watch 28 = .ok (.aload_n 0, 1) := by decide +kernel
theorem dX7_watch_29 : decode cX7_watch 29 = .ok (.getfield 67, 3) := by decide +kernel
theorem dX7_watch_32 : decode cX7_watch 32 = .ok (.iload_n 2, 1) := by decide +kernel
theorem dX7_watch_33 : decode cX7_watch 33 = .ok (.iaload, 1) := by decide +kernel
theorem dX7_watch_34 : decode cX7_watch 34 = .ok (.aload_n 0, 1) := by decide +kernel
theorem dX7_watch_35 : decode cX7_watch 35 = .ok (.getfield 16, 3) := by decide +kernel
theorem dX7_watch_38 : decode cX7_watch 38 = .ok (.iload 4, 2) := by decide +kernel
theorem dX7_watch_40 : decode cX7_watch 40 = .ok (.iaload, 1) := by decide +kernel
theorem dX7_watch_41 : decode cX7_watch 41 = .ok (.isub, 1) := by decide +kernel
theorem dX7_watch_42 : decode cX7_watch 42 = .ok (.invokestatic 144, 3) := by decide +kernel
theorem dX7_watch_45 : decode cX7_watch 45 = .ok (.iconst 4, 1) := by decide +kernel
theorem dX7_watch_46 : decode cX7_watch 46 = .ok (.if_icmp .lt 24, 3) := by decide +kernel
theorem dX7_watch_49 : decode cX7_watch 49 = .ok (.aload_n 0, 1) := by decide +kernel
theorem dX7_watch_50 : decode cX7_watch 50 = .ok (.getfield 67, 3) := by decide +kernel
theorem dX7_watch_53 : decode cX7_watch 53 = .ok (.iload_n 2, 1) := by decide +kernel
theorem dX7_watch_54 : decode cX7_watch 54 = .ok (.iaload, 1) := by decide +kernel
theorem dX7_watch_55 : decode cX7_watch 55 = .ok (.aload_n 0, 1) := by decide +kernel
theorem dX7_watch_56 : decode cX7_watch 56 = .ok (.getfield 19, 3) := by decide +kernel
theorem dX7_watch_59 : decode cX7_watch 59 = .ok (.iload 4, 2) := by decide +kernel
theorem dX7_watch_61 : decode cX7_watch 61 = .ok (.iaload, 1) := by decide +kernel
theorem dX7_watch_62 : decode cX7_watch 62 = .ok (.isub, 1) := by decide +kernel
theorem dX7_watch_63 : decode cX7_watch 63 = .ok (.invokestatic 144, 3) := by decide +kernel
theorem dX7_watch_66 : decode cX7_watch 66 = .ok (.iconst 4, 1) := by decide +kernel
theorem dX7_watch_67 : decode cX7_watch 67 = .ok (.if_icmp .ge 5, 3) := by decide +kernel
theorem dX7_watch_70 : decode cX7_watch 70 = .ok (.iconst 1, 1) := by decide +kernel
theorem dX7_watch_71 : decode cX7_watch 71 = .ok (.istore_n 3, 1) := by decide +kernel
theorem dX7_watch_72 : decode cX7_watch 72 = .ok (.iinc 4 1, 3) := by decide +kernel
theorem dX7_watch_75 : decode cX7_watch 75 = .ok (.goto (-56), 3) := by decide +kernel
theorem dX7_watch_78 : decode cX7_watch 78 = .ok (.iload_n 3, 1) := by decide +kernel
theorem dX7_watch_79 : decode cX7_watch 79 = .ok (.ifCond .ne 9, 3) := by decide +kernel
theorem dX7_watch_82 : decode cX7_watch 82 = .ok (.iload_n 1, 1) := by decide +kernel
theorem dX7_watch_83 : decode cX7_watch 83 = .ok (.iconst 1, 1) := by decide +kernel
theorem dX7_watch_84 : decode cX7_watch 84 = .ok (.iload_n 2, 1) := by decide +kernel
theorem dX7_watch_85 : decode cX7_watch 85 = .ok (.ishl, 1) := by decide +kernel
theorem dX7_watch_86 : decode cX7_watch 86 = .ok (.ior, 1) := by decide +kernel
theorem dX7_watch_87 : decode cX7_watch 87 = .ok (.istore_n 1, 1) := by decide +kernel
theorem dX7_watch_88 : decode cX7_watch 88 = .ok (.iinc 2 1, 3) := by decide +kernel
theorem dX7_watch_91 : decode cX7_watch 91 = .ok (.goto (-83), 3) := by decide +kernel
theorem dX7_watch_94 : decode cX7_watch 94 = .ok (.iload_n 1, 1) := by decide +kernel
theorem dX7_watch_95 : decode cX7_watch 95 = .ok (.ireturn, 1) := by decide +kernel
theorem dX7_wrong_0 : decode cX7_wrong 0 = .ok (.aload_n 0, 1) := by decide +kernel
theorem dX7_wrong_1 : decode cX7_wrong 1 = .ok (.invokevirtual 186, 3) := by decide +kernel
theorem dX7_wrong_4 : decode cX7_wrong 4 = .ok (.iconst 0, 1) := by decide +kernel
theorem dX7_wrong_5 : decode cX7_wrong 5 = .ok (.istore_n 1, 1) := by decide +kernel
theorem dX7_wrong_6 : decode cX7_wrong 6 = .ok (.iload_n 1, 1) := by decide +kernel
theorem dX7_wrong_7 : decode cX7_wrong 7 = .ok (.aload_n 0, 1) := by decide +kernel
theorem dX7_wrong_8 : decode cX7_wrong 8 = .ok (.getfield 214, 3) := by decide +kernel
theorem dX7_wrong_11 : decode cX7_wrong 11 = .ok (.if_icmp .ge 26, 3) := by decide +kernel
theorem dX7_wrong_14 : decode cX7_wrong 14 = .ok (.aload_n 0, 1) := by decide +kernel
theorem dX7_wrong_15 : decode cX7_wrong 15 = .ok (.getfield 34, 3) := by decide +kernel
theorem dX7_wrong_18 : decode cX7_wrong 18 = .ok (.iload_n 1, 1) := by decide +kernel
theorem dX7_wrong_19 : decode cX7_wrong 19 = .ok (.iaload, 1) := by decide +kernel
theorem dX7_wrong_20 : decode cX7_wrong 20 = .ok (.aload_n 0, 1) := by decide +kernel
theorem dX7_wrong_21 : decode cX7_wrong 21 = .ok (.getfield 67, 3) := by decide +kernel
theorem dX7_wrong_24 : decode cX7_wrong 24 = .ok (.iload_n 1, 1) := by decide +kernel
theorem dX7_wrong_25 : decode cX7_wrong 25 = .ok (.iaload, 1) := by decide +kernel
theorem dX7_wrong_26 : decode cX7_wrong 26 = .ok (.if_icmp .eq 5, 3) := by decide +kernel
theorem dX7_wrong_29 : decode cX7_wrong 29 = .ok (.iload_n 1, 1) := by decide +kernel
theorem dX7_wrong_30 : decode cX7_wrong 30 = .ok (.ireturn, 1) := by decide +kernel
theorem dX7_wrong_31 : decode cX7_wrong 31 = .ok (.iinc 1 1, 3) := by decide +kernel
theorem dX7_wrong_34 : decode cX7_wrong 34 = .ok (.goto (-28), 3) := by decide +kernel
theorem dX7_wrong_37 : decode cX7_wrong 37 = .ok (.bipush (-9), 2) := by decide +kernel
theorem dX7_wrong_39 : decode cX7_wrong 39 = .ok (.ireturn, 1) := by decide +kernel
theorem dX7_whoHad_0 : decode cX7_whoHad 0 = .ok (.aload_n 0, 1) := by decide +kernel
theorem dX7_whoHad_1 : decode cX7_whoHad 1 = .ok (.iload_n 1, 1) := by decide +kernel
theorem dX7_whoHad_2 : decode cX7_whoHad 2 = .ok (.invokevirtual 121, 3) := by decide +kernel
theorem dX7_whoHad_5 : decode cX7_whoHad 5 = .ok (.ifCond .ne 9, 3) := by decide +kernel
theorem dX7_whoHad_8 : decode cX7_whoHad 8 = .ok (.aload_n 0, 1) := by decide +kernel
theorem dX7_whoHad_9 : decode cX7_whoHad 9 = .ok (.iconst (-1), 1) := by decide +kernel
theorem dX7_whoHad_10 : decode cX7_whoHad 10 = .ok (.invokevirtual 80, 3) := by decide +kernel
theorem dX7_whoHad_13 : decode cX7_whoHad 13 = .ok (.ireturn, 1) := by decide +kernel
theorem dX7_whoHad_14 : decode cX7_whoHad 14 = .ok (.iload_n 2, 1) := by decide +kernel
theorem dX7_whoHad_15 : decode cX7_whoHad 15 = .ok (.iconst 0, 1) := by decide +kernel
theorem dX7_whoHad_16 : decode cX7_whoHad 16 = .ok (.iconst 1, 1) := by decide +kernel
theorem dX7_whoHad_17 : decode cX7_whoHad 17 = .ok (.invokestatic 88, 3) := by decide +kernel
theorem dX7_whoHad_20 : decode cX7_whoHad 20 = .ok (.ifCond .ne 10, 3) := by decide +kernel
theorem dX7_whoHad_23 : decode cX7_whoHad 23 = .ok (.aload_n 0, 1) := by decide +kernel
theorem dX7_whoHad_24 : decode cX7_whoHad 24 = .ok (.bipush (-2), 2) := by decide +kernel
theorem dX7_whoHad_26 : decode cX7_whoHad 26 = .ok (.invokevirtual 80, 3) := by decide +kernel
theorem dX7_whoHad_29 : decode cX7_whoHad 29 = .ok (.ireturn, 1) := by decide +kernel
theorem dX7_whoHad_30 : decode cX7_whoHad 30 = .ok (.aload_n 0, 1) := by decide +kernel
theorem dX7_whoHad_31 : decode cX7_whoHad 31 = .ok (.getfield 7, 3) := by decide +kernel
theorem dX7_whoHad_34 : decode cX7_whoHad 34 = .ok (.iload_n 1, 1) := by decide +kernel
theorem dX7_whoHad_35 : decode cX7_whoHad 35 = .ok (.iaload, 1) := by decide +kernel
theorem dX7_whoHad_36 : decode cX7_whoHad 36 = .ok (.istore_n 3, 1) := by decide +kernel
theorem dX7_whoHad_37 : decode cX7_whoHad 37 = .ok (.aload_n 0, 1) := by decide +kernel
theorem dX7_whoHad_38 : decode cX7_whoHad 38 = .ok (.getfield 13, 3) := by decide +kernel
theorem dX7_whoHad_41 : decode cX7_whoHad 41 = .ok (.iload_n 1, 1) := by decide +kernel
theorem dX7_whoHad_42 : decode cX7_whoHad 42 = .ok (.iaload, 1) := by decide +kernel
theorem dX7_whoHad_43 : decode cX7_whoHad 43 = .ok (.istore 4, 2) := by decide +kernel
theorem dX7_whoHad_45 : decode cX7_whoHad 45 = .ok (.iconst 0, 1) := by decide +kernel
theorem dX7_whoHad_46 : decode cX7_whoHad 46 = .ok (.istore 5, 2) := by decide +kernel
theorem dX7_whoHad_48 : decode cX7_whoHad 48 = .ok (.iconst 0, 1) := by decide +kernel
theorem dX7_whoHad_49 : decode cX7_whoHad 49 = .ok (.istore 6, 2) := by decide +kernel
theorem dX7_whoHad_51 : decode cX7_whoHad 51 = .ok (.iload 6, 2) := by decide +kernel
theorem dX7_whoHad_53 : decode cX7_whoHad 53 = .ok (.iload_n 2, 1) := by decide +kernel
theorem dX7_whoHad_54 : decode cX7_whoHad 54 = .ok (.ifCond .ne 8, 3) := by decide +kernel
theorem dX7_whoHad_57 : decode cX7_whoHad 57 = .ok (.bipush 6, 2) := by decide +kernel
theorem dX7_whoHad_59 : decode cX7_whoHad 59 = .ok (.goto 5, 3) := by decide +kernel
theorem dX7_whoHad_62 : decode cX7_whoHad 62 = .ok (.bipush 10, 2) := by decide +kernel
theorem dX7_whoHad_64 : decode cX7_whoHad 64 = .ok (.if_icmp .ge 50, 3) := by decide +kernel
theorem dX7_whoHad_67 : decode cX7_whoHad 67 = .ok (.iload_n 2, 1) := by decide +kernel
theorem dX7_whoHad_68 : decode cX7_whoHad 68 = .ok (.ifCond .ne 14, 3) := by decide +kernel
theorem dX7_whoHad_71 : decode cX7_whoHad 71 = .ok (.aload_n 0, 1) := by decide +kernel
theorem dX7_whoHad_72 : decode cX7_whoHad 72 = .ok (.getfield 7, 3) := by decide +kernel
theorem dX7_whoHad_75 : decode cX7_whoHad 75 = .ok (.iload_n 1, 1) := by decide +kernel
theorem dX7_whoHad_76 : decode cX7_whoHad 76 = .ok (.iload 6, 2) := by decide +kernel
theorem dX7_whoHad_78 : decode cX7_whoHad 78 = .ok (.iastore, 1) := by decide +kernel
theorem dX7_whoHad_79 : decode cX7_whoHad 79 = .ok (.goto 11, 3) := by decide +kernel
theorem dX7_whoHad_82 : decode cX7_whoHad 82 = .ok (.aload_n 0, 1) := by decide +kernel
theorem dX7_whoHad_83 : decode cX7_whoHad 83 = .ok (.getfield 13, 3) := by decide +kernel
theorem dX7_whoHad_86 : decode cX7_whoHad 86 = .ok (.iload_n 1, 1) := by decide +kernel
theorem dX7_whoHad_87 : decode cX7_whoHad 87 = .ok (.iload 6, 2) := by decide +kernel
theorem dX7_whoHad_89 : decode cX7_whoHad 89 = .ok (.iastore, 1) := by decide +kernel
theorem dX7_whoHad_90 : decode cX7_whoHad 90 = .ok (.aload_n 0, 1) := by decide +kernel
theorem dX7_whoHad_91 : decode cX7_whoHad 91 = .ok (.invokevirtual 217, 3) := by decide +kernel
theorem dX7_whoHad_94 : decode cX7_whoHad 94 = .ok (.bipush (-9), 2) := by decide +kernel
theorem dX7_whoHad_96 : decode cX7_whoHad 96 = .ok (.if_icmp .ne 12, 3) := by decide +kernel
theorem dX7_whoHad_99 : decode cX7_whoHad 99 = .ok (.iload 5, 2) := by decide +kernel
theorem dX7_whoHad_101 : decode cX7_whoHad 101 = .ok (.iconst 1, 1) := by decide +kernel
theorem dX7_whoHad_102 : decode cX7_whoHad 102 = .ok (.iload 6, 2) := by decide +kernel
theorem dX7_whoHad_104 : decode cX7_whoHad 104 = .ok (.ishl, 1) := by decide +kernel
theorem dX7_whoHad_105 : decode cX7_whoHad 105 = .ok (.ior, 1) := by decide +kernel
theorem dX7_whoHad_106 : decode cX7_whoHad 106 = .ok (.istore 5, 2) := by decide +kernel
theorem dX7_whoHad_108 : decode cX7_whoHad 108 = .ok (.iinc 6 1, 3) := by decide +kernel
theorem dX7_whoHad_111 : decode cX7_whoHad 111 = .ok (.goto (-60), 3) := by decide +kernel
theorem dX7_whoHad_114 : decode cX7_whoHad 114 = .ok (.aload_n 0, 1) := by decide +kernel
theorem dX7_whoHad_115 : decode cX7_whoHad 115 = .ok (.getfield 7, 3) := by decide +kernel
theorem dX7_whoHad_118 : decode cX7_whoHad 118 = .ok (.iload_n 1, 1) := by decide +kernel
theorem dX7_whoHad_119 : decode cX7_whoHad 119 = .ok (.iload_n 3, 1) := by decide +kernel
theorem dX7_whoHad_120 : decode cX7_whoHad 120 = .ok (.iastore, 1) := by decide +kernel
theorem dX7_whoHad_121 : decode cX7_whoHad 121 = .ok (.aload_n 0, 1) := by decide +kernel
theorem dX7_whoHad_122 : decode cX7_whoHad 122 = .ok (.getfield 13, 3) := by decide +kernel
theorem dX7_whoHad_125 : decode cX7_whoHad 125 = .ok (.iload_n 1, 1) := by decide +kernel
theorem dX7_whoHad_126 : decode cX7_whoHad 126 = .ok (.iload 4, 2) := by decide +kernel
theorem dX7_whoHad_128 : decode cX7_whoHad 128 = .ok (.iastore, 1) := by decide +kernel
theorem dX7_whoHad_129 : decode cX7_whoHad 129 = .ok (.iload 5, 2) := by decide +kernel
theorem dX7_whoHad_131 : decode cX7_whoHad 131 = .ok (.ireturn, 1) := by decide +kernel
theorem dX7_leastOil_0 : decode cX7_leastOil 0 = .ok (.aload_n 0, 1) := by decide +kernel
theorem dX7_leastOil_1 : decode cX7_leastOil 1 = .ok (.getfield 25, 3) := by decide +kernel
theorem dX7_leastOil_4 : decode cX7_leastOil 4 = .ok (.iconst 1, 1) := by decide +kernel
theorem dX7_leastOil_5 : decode cX7_leastOil 5 = .ok (.iaload, 1) := by decide +kernel
theorem dX7_leastOil_6 : decode cX7_leastOil 6 = .ok (.istore_n 1, 1) := by decide +kernel
theorem dX7_leastOil_7 : decode cX7_leastOil 7 = .ok (.aload_n 0, 1) := by decide +kernel
theorem dX7_leastOil_8 : decode cX7_leastOil 8 = .ok (.getfield 25, 3) := by decide +kernel
theorem dX7_leastOil_11 : decode cX7_leastOil 11 = .ok (.iconst 1, 1) := by decide +kernel
theorem dX7_leastOil_12 : decode cX7_leastOil 12 = .ok (.sipush 200, 3) := by decide +kernel
theorem dX7_leastOil_15 : decode cX7_leastOil 15 = .ok (.iastore, 1) := by decide +kernel
theorem dX7_leastOil_16 : decode cX7_leastOil 16 = .ok (.aload_n 0, 1) := by decide +kernel
theorem dX7_leastOil_17 : decode cX7_leastOil 17 = .ok (.invokevirtual 199, 3) := by decide +kernel
theorem dX7_leastOil_20 : decode cX7_leastOil 20 = .ok (.istore_n 2, 1) := by decide +kernel
theorem dX7_leastOil_21 : decode cX7_leastOil 21 = .ok (.sipush 200, 3) := by decide +kernel
theorem dX7_leastOil_24 : decode cX7_leastOil 24 = .ok (.istore_n 3, 1) := by decide +kernel
theorem dX7_leastOil_25 : decode cX7_leastOil 25 = .ok (.sipush 199, 3) := by decide +kernel
theorem dX7_leastOil_28 : decode cX7_leastOil 28 = .ok (.istore 4, 2) := by decide +kernel
theorem dX7_leastOil_30 : decode cX7_leastOil 30 = .ok (.iload 4, 2) := by decide +kernel
theorem dX7_leastOil_32 : decode cX7_leastOil 32 = .ok (.ifCond .lt 28, 3) := by decide +kernel
theorem dX7_leastOil_35 : decode cX7_leastOil 35 = .ok (.aload_n 0, 1) := by decide +kernel
theorem dX7_leastOil_36 : decode cX7_leastOil 36 = .ok (.getfield 25, 3) := by decide +kernel
theorem dX7_leastOil_39 : decode cX7_leastOil 39 = .ok (.iconst 1, 1) := by decide +kernel
theorem dX7_leastOil_40 : decode cX7_leastOil 40 = .ok (.iload 4, 2) := by decide +kernel
theorem dX7_leastOil_42 : decode cX7_leastOil 42 = .ok (.iastore, 1) := by decide +kernel
theorem dX7_leastOil_43 : decode cX7_leastOil 43 = .ok (.aload_n 0, 1) := by decide +kernel
theorem dX7_leastOil_44 : decode cX7_leastOil 44 = .ok (.invokevirtual 199, 3) := by decide +kernel
theorem dX7_leastOil_47 : decode cX7_leastOil 47 = .ok (.iload_n 2, 1) := by decide +kernel
theorem dX7_leastOil_48 : decode cX7_leastOil 48 = .ok (.if_icmp .ne 6, 3) := by decide +kernel
theorem dX7_leastOil_51 : decode cX7_leastOil 51 = .ok (.iload 4, 2) := by decide +kernel
theorem dX7_leastOil_53 : decode cX7_leastOil 53 = .ok (.istore_n 3, 1) := by decide +kernel
theorem dX7_leastOil_54 : decode cX7_leastOil 54 = .ok (.iinc 4 (-1), 3) := by decide +kernel
theorem dX7_leastOil_57 : decode cX7_leastOil 57 = .ok (.goto (-27), 3) := by decide +kernel
theorem dX7_leastOil_60 : decode cX7_leastOil 60 = .ok (.aload_n 0, 1) := by decide +kernel
theorem dX7_leastOil_61 : decode cX7_leastOil 61 = .ok (.getfield 25, 3) := by decide +kernel
theorem dX7_leastOil_64 : decode cX7_leastOil 64 = .ok (.iconst 1, 1) := by decide +kernel
theorem dX7_leastOil_65 : decode cX7_leastOil 65 = .ok (.iload_n 1, 1) := by decide +kernel
theorem dX7_leastOil_66 : decode cX7_leastOil 66 = .ok (.iastore, 1) := by decide +kernel
theorem dX7_leastOil_67 : decode cX7_leastOil 67 = .ok (.iload_n 3, 1) := by decide +kernel
theorem dX7_leastOil_68 : decode cX7_leastOil 68 = .ok (.ireturn, 1) := by decide +kernel
theorem dX7_row_0 : decode cX7_row 0 = .ok (.iload_n 1, 1) := by decide +kernel
theorem dX7_row_1 : decode cX7_row 1 = .ok (.ifCond .ge 10, 3) := by decide +kernel
theorem dX7_row_4 : decode cX7_row 4 = .ok (.aload_n 0, 1) := by decide +kernel
theorem dX7_row_5 : decode cX7_row 5 = .ok (.bipush (-4), 2) := by decide +kernel
theorem dX7_row_7 : decode cX7_row 7 = .ok (.invokevirtual 80, 3) := by decide +kernel
theorem dX7_row_10 : decode cX7_row 10 = .ok (.ireturn, 1) := by decide +kernel
theorem dX7_row_11 : decode cX7_row 11 = .ok (.iload_n 1, 1) := by decide +kernel
theorem dX7_row_12 : decode cX7_row 12 = .ok (.bipush 99, 2) := by decide +kernel
theorem dX7_row_14 : decode cX7_row 14 = .ok (.if_icmp .gt 12, 3) := by decide +kernel
theorem dX7_row_17 : decode cX7_row 17 = .ok (.aload_n 0, 1) := by decide +kernel
theorem dX7_row_18 : decode cX7_row 18 = .ok (.getfield 214, 3) := by decide +kernel
theorem dX7_row_21 : decode cX7_row 21 = .ok (.bipush 12, 2) := by decide +kernel
theorem dX7_row_23 : decode cX7_row 23 = .ok (.if_icmp .ne 10, 3) := by decide +kernel
theorem dX7_row_26 : decode cX7_row 26 = .ok (.aload_n 0, 1) := by decide +kernel
theorem dX7_row_27 : decode cX7_row 27 = .ok (.bipush (-6), 2) := by decide +kernel
theorem dX7_row_29 : decode cX7_row 29 = .ok (.invokevirtual 80, 3) := by decide +kernel
theorem dX7_row_32 : decode cX7_row 32 = .ok (.ireturn, 1) := by decide +kernel
theorem dX7_row_33 : decode cX7_row 33 = .ok (.aload_n 0, 1) := by decide +kernel
theorem dX7_row_34 : decode cX7_row 34 = .ok (.getfield 34, 3) := by decide +kernel
theorem dX7_row_37 : decode cX7_row 37 = .ok (.aload_n 0, 1) := by decide +kernel
theorem dX7_row_38 : decode cX7_row 38 = .ok (.dup, 1) := by decide +kernel
theorem dX7_row_39 : decode cX7_row 39 = .ok (.getfield 214, 3) := by decide +kernel
theorem dX7_row_42 : decode cX7_row 42 = .ok (.dup_x1, 1) := by decide +kernel
theorem dX7_row_43 : decode cX7_row 43 = .ok (.iconst 1, 1) := by decide +kernel
theorem dX7_row_44 : decode cX7_row 44 = .ok (.iadd, 1) := by decide +kernel
theorem dX7_row_45 : decode cX7_row 45 = .ok (.putfield 214, 3) := by decide +kernel
theorem dX7_row_48 : decode cX7_row 48 = .ok (.iload_n 1, 1) := by decide +kernel
theorem dX7_row_49 : decode cX7_row 49 = .ok (.iastore, 1) := by decide +kernel
theorem dX7_row_50 : decode cX7_row 50 = .ok (.aload_n 0, 1) := by decide +kernel
theorem dX7_row_51 : decode cX7_row 51 = .ok (.getfield 214, 3) := by decide +kernel
theorem dX7_row_54 : decode cX7_row 54 = .ok (.ireturn, 1) := by decide +kernel
theorem dX7_judge_0 : decode cX7_judge 0 = .ok (.aload_n 0, 1) := by decide +kernel
theorem dX7_judge_1 : decode cX7_judge 1 = .ok (.invokevirtual 217, 3) := by decide +kernel
theorem dX7_judge_4 : decode cX7_judge 4 = .ok (.istore_n 1, 1) := by decide +kernel
theorem dX7_judge_5 : decode cX7_judge 5 = .ok (.aload_n 0, 1) := by decide +kernel
theorem dX7_judge_6 : decode cX7_judge 6 = .ok (.iconst 0, 1) := by decide +kernel
theorem dX7_judge_7 : decode cX7_judge 7 = .ok (.putfield 214, 3) := by decide +kernel
theorem dX7_judge_10 : decode cX7_judge 10 = .ok (.iload_n 1, 1) := by decide +kernel
theorem dX7_judge_11 : decode cX7_judge 11 = .ok (.ireturn, 1) := by decide +kernel
theorem dX7_clear_0 : decode cX7_clear 0 = .ok (.aload_n 0, 1) := by decide +kernel
theorem dX7_clear_1 : decode cX7_clear 1 = .ok (.getfield 214, 3) := by decide +kernel
theorem dX7_clear_4 : decode cX7_clear 4 = .ok (.istore_n 1, 1) := by decide +kernel
theorem dX7_clear_5 : decode cX7_clear 5 = .ok (.aload_n 0, 1) := by decide +kernel
theorem dX7_clear_6 : decode cX7_clear 6 = .ok (.iconst 0, 1) := by decide +kernel
theorem dX7_clear_7 : decode cX7_clear 7 = .ok (.putfield 214, 3) := by decide +kernel
theorem dX7_clear_10 : decode cX7_clear 10 = .ok (.iload_n 1, 1) := by decide +kernel
theorem dX7_clear_11 : decode cX7_clear 11 = .ok (.ireturn, 1) := by decide +kernel
theorem dX7_lots_0 : decode cX7_lots 0 = .ok (.iload_n 1, 1) := by decide +kernel
theorem dX7_lots_1 : decode cX7_lots 1 = .ok (.iconst 1, 1) := by decide +kernel
theorem dX7_lots_2 : decode cX7_lots 2 = .ok (.if_icmp .ge 10, 3) := by decide +kernel
theorem dX7_lots_5 : decode cX7_lots 5 = .ok (.aload_n 0, 1) := by decide +kernel
theorem dX7_lots_6 : decode cX7_lots 6 = .ok (.bipush (-4), 2) := by decide +kernel
theorem dX7_lots_8 : decode cX7_lots 8 = .ok (.invokevirtual 80, 3) := by decide +kernel
theorem dX7_lots_11 : decode cX7_lots 11 = .ok (.ireturn, 1) := by decide +kernel
theorem dX7_lots_12 : decode cX7_lots 12 = .ok (.iload_n 1, 1) := by decide +kernel
theorem dX7_lots_13 : decode cX7_lots 13 = .ok (.bipush 20, 2) := by decide +kernel
theorem dX7_lots_15 : decode cX7_lots 15 = .ok (.if_icmp .le 10, 3) := by decide +kernel
theorem dX7_lots_18 : decode cX7_lots 18 = .ok (.aload_n 0, 1) := by decide +kernel
theorem dX7_lots_19 : decode cX7_lots 19 = .ok (.bipush (-6), 2) := by decide +kernel
theorem dX7_lots_21 : decode cX7_lots 21 = .ok (.invokevirtual 80, 3) := by decide +kernel
theorem dX7_lots_24 : decode cX7_lots 24 = .ok (.ireturn, 1) := by decide +kernel
theorem dX7_lots_25 : decode cX7_lots 25 = .ok (.iload_n 3, 1) := by decide +kernel
theorem dX7_lots_26 : decode cX7_lots 26 = .ok (.iconst 0, 1) := by decide +kernel
theorem dX7_lots_27 : decode cX7_lots 27 = .ok (.iconst 1, 1) := by decide +kernel
theorem dX7_lots_28 : decode cX7_lots 28 = .ok (.invokestatic 88, 3) := by decide +kernel
theorem dX7_lots_31 : decode cX7_lots 31 = .ok (.ifCond .ne 10, 3) := by decide +kernel
theorem dX7_lots_34 : decode cX7_lots 34 = .ok (.aload_n 0, 1) := by decide +kernel
theorem dX7_lots_35 : decode cX7_lots 35 = .ok (.bipush (-2), 2) := by decide +kernel
theorem dX7_lots_37 : decode cX7_lots 37 = .ok (.invokevirtual 80, 3) := by decide +kernel
theorem dX7_lots_40 : decode cX7_lots 40 = .ok (.ireturn, 1) := by decide +kernel
theorem dX7_lots_41 : decode cX7_lots 41 = .ok (.aload_n 0, 1) := by decide +kernel
theorem dX7_lots_42 : decode cX7_lots 42 = .ok (.aload_n 0, 1) := by decide +kernel
theorem dX7_lots_43 : decode cX7_lots 43 = .ok (.getfield 43, 3) := by decide +kernel
theorem dX7_lots_46 : decode cX7_lots 46 = .ok (.invokevirtual 128, 3) := by decide +kernel
theorem dX7_lots_49 : decode cX7_lots 49 = .ok (.iload_n 2, 1) := by decide +kernel
theorem dX7_lots_50 : decode cX7_lots 50 = .ok (.istore 4, 2) := by decide +kernel
theorem dX7_lots_52 : decode cX7_lots 52 = .ok (.iconst 0, 1) := by decide +kernel
theorem dX7_lots_53 : decode cX7_lots 53 = .ok (.istore 5, 2) := by decide +kernel
theorem dX7_lots_55 : decode cX7_lots 55 = .ok (.iconst 0, 1) := by decide +kernel
theorem dX7_lots_56 : decode cX7_lots 56 = .ok (.istore 6, 2) := by decide +kernel
theorem dX7_lots_58 : decode cX7_lots 58 = .ok (.iconst 0, 1) := by decide +kernel
theorem dX7_lots_59 : decode cX7_lots 59 = .ok (.istore 7, 2) := by decide +kernel
theorem dX7_lots_61 : decode cX7_lots 61 = .ok (.iload 7, 2) := by decide +kernel
theorem dX7_lots_63 : decode cX7_lots 63 = .ok (.iload_n 1, 1) := by decide +kernel
theorem dX7_lots_64 : decode cX7_lots 64 = .ok (.if_icmp .ge 83, 3) := by decide +kernel
theorem dX7_lots_67 : decode cX7_lots 67 = .ok (.iconst 0, 1) := by decide +kernel
theorem dX7_lots_68 : decode cX7_lots 68 = .ok (.istore 8, 2) := by decide +kernel
theorem dX7_lots_70 : decode cX7_lots 70 = .ok (.iload 8, 2) := by decide +kernel
theorem dX7_lots_72 : decode cX7_lots 72 = .ok (.aload_n 0, 1) := by decide +kernel
theorem dX7_lots_73 : decode cX7_lots 73 = .ok (.getfield 84, 3) := by decide +kernel
theorem dX7_lots_76 : decode cX7_lots 76 = .ok (.if_icmp .ge 38, 3) := by decide +kernel
theorem dX7_lots_79 : decode cX7_lots 79 = .ok (.iload 4, 2) := by decide +kernel
theorem dX7_lots_81 : decode cX7_lots 81 = .ok (.ldc 220, 2) := by decide +kernel
theorem dX7_lots_83 : decode cX7_lots 83 = .ok (.imul, 1) := by decide +kernel
theorem dX7_lots_84 : decode cX7_lots 84 = .ok (.ldc 221, 2) := by decide +kernel
theorem dX7_lots_86 : decode cX7_lots 86 = .ok (.iadd, 1) := by decide +kernel
theorem dX7_lots_87 : decode cX7_lots 87 = .ok (.istore 4, 2) := by decide +kernel
theorem dX7_lots_89 : decode cX7_lots 89 = .ok (.aload_n 0, 1) := by decide +kernel
theorem dX7_lots_90 : decode cX7_lots 90 = .ok (.getfield 22, 3) := by decide +kernel
theorem dX7_lots_93 : decode cX7_lots 93 = .ok (.iload 8, 2) := by decide +kernel
theorem dX7_lots_95 : decode cX7_lots 95 = .ok (.iload 4, 2) := by decide +kernel
theorem dX7_lots_97 : decode cX7_lots 97 = .ok (.ldc 222, 2) := by decide +kernel
theorem dX7_lots_99 : decode cX7_lots 99 = .ok (.iand, 1) := by decide +kernel
theorem dX7_lots_100 : decode cX7_lots 100 = .ok (.sipush 256, 3) := by decide +kernel
theorem dX7_lots_103 : decode cX7_lots 103 = .ok (.idiv, 1) := by decide +kernel
theorem dX7_lots_104 : decode cX7_lots 104 = .ok (.bipush 12, 2) := by decide +kernel
theorem dX7_lots_106 : decode cX7_lots 106 = .ok (.irem, 1) := by decide +kernel
theorem dX7_lots_107 : decode cX7_lots 107 = .ok (.iastore, 1) := by decide +kernel
theorem dX7_lots_108 : decode cX7_lots 108 = .ok (.iinc 8 1, 3) := by decide +kernel
theorem dX7_lots_111 : decode cX7_lots 111 = .ok (.goto (-41), 3) := by decide +kernel
theorem dX7_lots_114 : decode cX7_lots 114 = .ok (.iload 5, 2) := by decide +kernel
theorem dX7_lots_116 : decode cX7_lots 116 = .ok (.aload_n 0, 1) := by decide +kernel
theorem dX7_lots_117 : decode cX7_lots 117 = .ok (.invokevirtual 199, 3) := by decide +kernel
theorem dX7_lots_120 : decode cX7_lots 120 = .ok (.iadd, 1) := by decide +kernel
theorem dX7_lots_121 : decode cX7_lots 121 = .ok (.istore 5, 2) := by decide +kernel
theorem dX7_lots_123 : decode cX7_lots 123 = .ok (.aload_n 0, 1) := by decide +kernel
theorem dX7_lots_124 : decode cX7_lots 124 = .ok (.getfield 49, 3) := by decide +kernel
theorem dX7_lots_127 : decode cX7_lots 127 = .ok (.iconst 0, 1) := by decide +kernel
theorem dX7_lots_128 : decode cX7_lots 128 = .ok (.iaload, 1) := by decide +kernel
theorem dX7_lots_129 : decode cX7_lots 129 = .ok (.aload_n 0, 1) := by decide +kernel
theorem dX7_lots_130 : decode cX7_lots 130 = .ok (.getfield 25, 3) := by decide +kernel
theorem dX7_lots_133 : decode cX7_lots 133 = .ok (.iconst 0, 1) := by decide +kernel
theorem dX7_lots_134 : decode cX7_lots 134 = .ok (.iaload, 1) := by decide +kernel
theorem dX7_lots_135 : decode cX7_lots 135 = .ok (.if_icmp .ne 6, 3) := by decide +kernel
theorem dX7_lots_138 : decode cX7_lots 138 = .ok (.iinc 6 1, 3) := by decide +kernel
theorem dX7_lots_141 : decode cX7_lots 141 = .ok (.iinc 7 1, 3) := by decide +kernel
theorem dX7_lots_144 : decode cX7_lots 144 = .ok (.goto (-83), 3) := by decide +kernel
theorem dX7_lots_147 : decode cX7_lots 147 = .ok (.aload_n 0, 1) := by decide +kernel
theorem dX7_lots_148 : decode cX7_lots 148 = .ok (.aload_n 0, 1) := by decide +kernel
theorem dX7_lots_149 : decode cX7_lots 149 = .ok (.getfield 43, 3) := by decide +kernel
theorem dX7_lots_152 : decode cX7_lots 152 = .ok (.invokevirtual 132, 3) := by decide +kernel
theorem dX7_lots_155 : decode cX7_lots 155 = .ok (.iload_n 3, 1) := by decide +kernel
theorem dX7_lots_156 : decode cX7_lots 156 = .ok (.ifCond .ne 8, 3) := by decide +kernel
theorem dX7_lots_159 : decode cX7_lots 159 = .ok (.iload 5, 2) := by decide +kernel
theorem dX7_lots_161 : decode cX7_lots 161 = .ok (.goto 5, 3) := by decide +kernel
theorem dX7_lots_164 : decode cX7_lots 164 = .ok (.iload 6, 2) := by decide +kernel
theorem dX7_lots_166 : decode cX7_lots 166 = .ok (.ireturn, 1) := by decide +kernel
theorem dX7_keep_0 : decode cX7_keep 0 = .ok (.iconst 0, 1) := by decide +kernel
theorem dX7_keep_1 : decode cX7_keep 1 = .ok (.istore_n 2, 1) := by decide +kernel
theorem dX7_keep_2 : decode cX7_keep 2 = .ok (.iload_n 2, 1) := by decide +kernel
theorem dX7_keep_3 : decode cX7_keep 3 = .ok (.bipush 7, 2) := by decide +kernel
theorem dX7_keep_5 : decode cX7_keep 5 = .ok (.if_icmp .ge 66, 3) := by decide +kernel
theorem dX7_keep_8 : decode cX7_keep 8 = .ok (.aload_n 1, 1) := by decide +kernel
theorem dX7_keep_9 : decode cX7_keep 9 = .ok (.iload_n 2, 1) := by decide +kernel
theorem dX7_keep_10 : decode cX7_keep 10 = .ok (.aload_n 0, 1) := by decide +kernel
theorem dX7_keep_11 : decode cX7_keep 11 = .ok (.getfield 7, 3) := by decide +kernel
theorem dX7_keep_14 : decode cX7_keep 14 = .ok (.iload_n 2, 1) := by decide +kernel
theorem dX7_keep_15 : decode cX7_keep 15 = .ok (.iaload, 1) := by decide +kernel
theorem dX7_keep_16 : decode cX7_keep 16 = .ok (.iastore, 1) := by decide +kernel
theorem dX7_keep_17 : decode cX7_keep 17 = .ok (.aload_n 1, 1) := by decide +kernel
theorem dX7_keep_18 : decode cX7_keep 18 = .ok (.bipush 7, 2) := by decide +kernel
theorem dX7_keep_20 : decode cX7_keep 20 = .ok (.iload_n 2, 1) := by decide +kernel
theorem dX7_keep_21 : decode cX7_keep 21 = .ok (.iadd, 1) := by decide +kernel
theorem dX7_keep_22 : decode cX7_keep 22 = .ok (.aload_n 0, 1) := by decide +kernel
theorem dX7_keep_23 : decode cX7_keep 23 = .ok (.getfield 13, 3) := by decide +kernel
theorem dX7_keep_26 : decode cX7_keep 26 = .ok (.iload_n 2, 1) := by decide +kernel
theorem dX7_keep_27 : decode cX7_keep 27 = .ok (.iaload, 1) := by decide +kernel
theorem dX7_keep_28 : decode cX7_keep 28 = .ok (.iastore, 1) := by decide +kernel
theorem dX7_keep_29 : decode cX7_keep 29 = .ok (.aload_n 1, 1) := by decide +kernel
theorem dX7_keep_30 : decode cX7_keep 30 = .ok (.bipush 14, 2) := by decide +kernel
theorem dX7_keep_32 : decode cX7_keep 32 = .ok (.iload_n 2, 1) := by decide +kernel
theorem dX7_keep_33 : decode cX7_keep 33 = .ok (.iadd, 1) := by decide +kernel
theorem dX7_keep_34 : decode cX7_keep 34 = .ok (.aload_n 0, 1) := by decide +kernel
theorem dX7_keep_35 : decode cX7_keep 35 = .ok (.getfield 16, 3) := by decide +kernel
theorem dX7_keep_38 : decode cX7_keep 38 = .ok (.iload_n 2, 1) := by decide +kernel
theorem dX7_keep_39 : decode cX7_keep 39 = .ok (.iaload, 1) := by decide +kernel
theorem dX7_keep_40 : decode cX7_keep 40 = .ok (.iastore, 1) := by decide +kernel
theorem dX7_keep_41 : decode cX7_keep 41 = .ok (.aload_n 1, 1) := by decide +kernel
theorem dX7_keep_42 : decode cX7_keep 42 = .ok (.bipush 21, 2) := by decide +kernel
theorem dX7_keep_44 : decode cX7_keep 44 = .ok (.iload_n 2, 1) := by decide +kernel
theorem dX7_keep_45 : decode cX7_keep 45 = .ok (.iadd, 1) := by decide +kernel
theorem dX7_keep_46 : decode cX7_keep 46 = .ok (.aload_n 0, 1) := by decide +kernel
theorem dX7_keep_47 : decode cX7_keep 47 = .ok (.getfield 19, 3) := by decide +kernel
theorem dX7_keep_50 : decode cX7_keep 50 = .ok (.iload_n 2, 1) := by decide +kernel
theorem dX7_keep_51 : decode cX7_keep 51 = .ok (.iaload, 1) := by decide +kernel
theorem dX7_keep_52 : decode cX7_keep 52 = .ok (.iastore, 1) := by decide +kernel
theorem dX7_keep_53 : decode cX7_keep 53 = .ok (.aload_n 1, 1) := by decide +kernel
theorem dX7_keep_54 : decode cX7_keep 54 = .ok (.bipush 28, 2) := by decide +kernel
theorem dX7_keep_56 : decode cX7_keep 56 = .ok (.iload_n 2, 1) := by decide +kernel
theorem dX7_keep_57 : decode cX7_keep 57 = .ok (.iadd, 1) := by decide +kernel
theorem dX7_keep_58 : decode cX7_keep 58 = .ok (.aload_n 0, 1) := by decide +kernel
theorem dX7_keep_59 : decode cX7_keep 59 = .ok (.getfield 22, 3) := by decide +kernel
theorem dX7_keep_62 : decode cX7_keep 62 = .ok (.iload_n 2, 1) := by decide +kernel
theorem dX7_keep_63 : decode cX7_keep 63 = .ok (.iaload, 1) := by decide +kernel
theorem dX7_keep_64 : decode cX7_keep 64 = .ok (.iastore, 1) := by decide +kernel
theorem dX7_keep_65 : decode cX7_keep 65 = .ok (.iinc 2 1, 3) := by decide +kernel
theorem dX7_keep_68 : decode cX7_keep 68 = .ok (.goto (-66), 3) := by decide +kernel
theorem dX7_keep_71 : decode cX7_keep 71 = .ok (.iconst 0, 1) := by decide +kernel
theorem dX7_keep_72 : decode cX7_keep 72 = .ok (.istore_n 2, 1) := by decide +kernel
theorem dX7_keep_73 : decode cX7_keep 73 = .ok (.iload_n 2, 1) := by decide +kernel
theorem dX7_keep_74 : decode cX7_keep 74 = .ok (.iconst 3, 1) := by decide +kernel
theorem dX7_keep_75 : decode cX7_keep 75 = .ok (.if_icmp .ge 21, 3) := by decide +kernel
theorem dX7_keep_78 : decode cX7_keep 78 = .ok (.aload_n 1, 1) := by decide +kernel
theorem dX7_keep_79 : decode cX7_keep 79 = .ok (.bipush 35, 2) := by decide +kernel
theorem dX7_keep_81 : decode cX7_keep 81 = .ok (.iload_n 2, 1) := by decide +kernel
theorem dX7_keep_82 : decode cX7_keep 82 = .ok (.iadd, 1) := by decide +kernel
theorem dX7_keep_83 : decode cX7_keep 83 = .ok (.aload_n 0, 1) := by decide +kernel
theorem dX7_keep_84 : decode cX7_keep 84 = .ok (.getfield 25, 3) := by decide +kernel
theorem dX7_keep_87 : decode cX7_keep 87 = .ok (.iload_n 2, 1) := by decide +kernel
theorem dX7_keep_88 : decode cX7_keep 88 = .ok (.iaload, 1) := by decide +kernel
theorem dX7_keep_89 : decode cX7_keep 89 = .ok (.iastore, 1) := by decide +kernel
theorem dX7_keep_90 : decode cX7_keep 90 = .ok (.iinc 2 1, 3) := by decide +kernel
theorem dX7_keep_93 : decode cX7_keep 93 = .ok (.goto (-20), 3) := by decide +kernel
theorem dX7_keep_96 : decode cX7_keep 96 = .ok (.aload_n 1, 1) := by decide +kernel
theorem dX7_keep_97 : decode cX7_keep 97 = .ok (.bipush 38, 2) := by decide +kernel
theorem dX7_keep_99 : decode cX7_keep 99 = .ok (.aload_n 0, 1) := by decide +kernel
theorem dX7_keep_100 : decode cX7_keep 100 = .ok (.getfield 84, 3) := by decide +kernel
theorem dX7_keep_103 : decode cX7_keep 103 = .ok (.iastore, 1) := by decide +kernel
theorem dX7_keep_104 : decode cX7_keep 104 = .ok (.return_, 1) := by decide +kernel
theorem dX7_again_0 : decode cX7_again 0 = .ok (.iconst 0, 1) := by decide +kernel
theorem dX7_again_1 : decode cX7_again 1 = .ok (.istore_n 2, 1) := by decide +kernel
theorem dX7_again_2 : decode cX7_again 2 = .ok (.iload_n 2, 1) := by decide +kernel
theorem dX7_again_3 : decode cX7_again 3 = .ok (.bipush 7, 2) := by decide +kernel
theorem dX7_again_5 : decode cX7_again 5 = .ok (.if_icmp .ge 66, 3) := by decide +kernel
theorem dX7_again_8 : decode cX7_again 8 = .ok (.aload_n 0, 1) := by decide +kernel
theorem dX7_again_9 : decode cX7_again 9 = .ok (.getfield 7, 3) := by decide +kernel
theorem dX7_again_12 : decode cX7_again 12 = .ok (.iload_n 2, 1) := by decide +kernel
theorem dX7_again_13 : decode cX7_again 13 = .ok (.aload_n 1, 1) := by decide +kernel
theorem dX7_again_14 : decode cX7_again 14 = .ok (.iload_n 2, 1) := by decide +kernel
theorem dX7_again_15 : decode cX7_again 15 = .ok (.iaload, 1) := by decide +kernel
theorem dX7_again_16 : decode cX7_again 16 = .ok (.iastore, 1) := by decide +kernel
theorem dX7_again_17 : decode cX7_again 17 = .ok (.aload_n 0, 1) := by decide +kernel
theorem dX7_again_18 : decode cX7_again 18 = .ok (.getfield 13, 3) := by decide +kernel
theorem dX7_again_21 : decode cX7_again 21 = .ok (.iload_n 2, 1) := by decide +kernel
theorem dX7_again_22 : decode cX7_again 22 = .ok (.aload_n 1, 1) := by decide +kernel
theorem dX7_again_23 : decode cX7_again 23 = .ok (.bipush 7, 2) := by decide +kernel
theorem dX7_again_25 : decode cX7_again 25 = .ok (.iload_n 2, 1) := by decide +kernel
theorem dX7_again_26 : decode cX7_again 26 = .ok (.iadd, 1) := by decide +kernel
theorem dX7_again_27 : decode cX7_again 27 = .ok (.iaload, 1) := by decide +kernel
theorem dX7_again_28 : decode cX7_again 28 = .ok (.iastore, 1) := by decide +kernel
theorem dX7_again_29 : decode cX7_again 29 = .ok (.aload_n 0, 1) := by decide +kernel
theorem dX7_again_30 : decode cX7_again 30 = .ok (.getfield 16, 3) := by decide +kernel
theorem dX7_again_33 : decode cX7_again 33 = .ok (.iload_n 2, 1) := by decide +kernel
theorem dX7_again_34 : decode cX7_again 34 = .ok (.aload_n 1, 1) := by decide +kernel
theorem dX7_again_35 : decode cX7_again 35 = .ok (.bipush 14, 2) := by decide +kernel
theorem dX7_again_37 : decode cX7_again 37 = .ok (.iload_n 2, 1) := by decide +kernel
theorem dX7_again_38 : decode cX7_again 38 = .ok (.iadd, 1) := by decide +kernel
theorem dX7_again_39 : decode cX7_again 39 = .ok (.iaload, 1) := by decide +kernel
theorem dX7_again_40 : decode cX7_again 40 = .ok (.iastore, 1) := by decide +kernel
theorem dX7_again_41 : decode cX7_again 41 = .ok (.aload_n 0, 1) := by decide +kernel
theorem dX7_again_42 : decode cX7_again 42 = .ok (.getfield 19, 3) := by decide +kernel
theorem dX7_again_45 : decode cX7_again 45 = .ok (.iload_n 2, 1) := by decide +kernel
theorem dX7_again_46 : decode cX7_again 46 = .ok (.aload_n 1, 1) := by decide +kernel
theorem dX7_again_47 : decode cX7_again 47 = .ok (.bipush 21, 2) := by decide +kernel
theorem dX7_again_49 : decode cX7_again 49 = .ok (.iload_n 2, 1) := by decide +kernel
theorem dX7_again_50 : decode cX7_again 50 = .ok (.iadd, 1) := by decide +kernel
theorem dX7_again_51 : decode cX7_again 51 = .ok (.iaload, 1) := by decide +kernel
theorem dX7_again_52 : decode cX7_again 52 = .ok (.iastore, 1) := by decide +kernel
theorem dX7_again_53 : decode cX7_again 53 = .ok (.aload_n 0, 1) := by decide +kernel
theorem dX7_again_54 : decode cX7_again 54 = .ok (.getfield 22, 3) := by decide +kernel
theorem dX7_again_57 : decode cX7_again 57 = .ok (.iload_n 2, 1) := by decide +kernel
theorem dX7_again_58 : decode cX7_again 58 = .ok (.aload_n 1, 1) := by decide +kernel
theorem dX7_again_59 : decode cX7_again 59 = .ok (.bipush 28, 2) := by decide +kernel
theorem dX7_again_61 : decode cX7_again 61 = .ok (.iload_n 2, 1) := by decide +kernel
theorem dX7_again_62 : decode cX7_again 62 = .ok (.iadd, 1) := by decide +kernel
theorem dX7_again_63 : decode cX7_again 63 = .ok (.iaload, 1) := by decide +kernel
theorem dX7_again_64 : decode cX7_again 64 = .ok (.iastore, 1) := by decide +kernel
theorem dX7_again_65 : decode cX7_again 65 = .ok (.iinc 2 1, 3) := by decide +kernel
theorem dX7_again_68 : decode cX7_again 68 = .ok (.goto (-66), 3) := by decide +kernel
theorem dX7_again_71 : decode cX7_again 71 = .ok (.iconst 0, 1) := by decide +kernel
theorem dX7_again_72 : decode cX7_again 72 = .ok (.istore_n 2, 1) := by decide +kernel
theorem dX7_again_73 : decode cX7_again 73 = .ok (.iload_n 2, 1) := by decide +kernel
theorem dX7_again_74 : decode cX7_again 74 = .ok (.iconst 3, 1) := by decide +kernel
theorem dX7_again_75 : decode cX7_again 75 = .ok (.if_icmp .ge 21, 3) := by decide +kernel
theorem dX7_again_78 : decode cX7_again 78 = .ok (.aload_n 0, 1) := by decide +kernel
theorem dX7_again_79 : decode cX7_again 79 = .ok (.getfield 25, 3) := by decide +kernel
theorem dX7_again_82 : decode cX7_again 82 = .ok (.iload_n 2, 1) := by decide +kernel
theorem dX7_again_83 : decode cX7_again 83 = .ok (.aload_n 1, 1) := by decide +kernel
theorem dX7_again_84 : decode cX7_again 84 = .ok (.bipush 35, 2) := by decide +kernel
theorem dX7_again_86 : decode cX7_again 86 = .ok (.iload_n 2, 1) := by decide +kernel
theorem dX7_again_87 : decode cX7_again 87 = .ok (.iadd, 1) := by decide +kernel
theorem dX7_again_88 : decode cX7_again 88 = .ok (.iaload, 1) := by decide +kernel
theorem dX7_again_89 : decode cX7_again 89 = .ok (.iastore, 1) := by decide +kernel
theorem dX7_again_90 : decode cX7_again 90 = .ok (.iinc 2 1, 3) := by decide +kernel
theorem dX7_again_93 : decode cX7_again 93 = .ok (.goto (-20), 3) := by decide +kernel
theorem dX7_again_96 : decode cX7_again 96 = .ok (.aload_n 0, 1) := by decide +kernel
theorem dX7_again_97 : decode cX7_again 97 = .ok (.aload_n 1, 1) := by decide +kernel
theorem dX7_again_98 : decode cX7_again 98 = .ok (.bipush 38, 2) := by decide +kernel
theorem dX7_again_100 : decode cX7_again 100 = .ok (.iaload, 1) := by decide +kernel
theorem dX7_again_101 : decode cX7_again 101 = .ok (.putfield 84, 3) := by decide +kernel
theorem dX7_again_104 : decode cX7_again 104 = .ok (.return_, 1) := by decide +kernel
theorem dX7_image_0 : decode cX7_image 0 = .ok (.aload_n 0, 1) := by decide +kernel
theorem dX7_image_1 : decode cX7_image 1 = .ok (.iconst 1, 1) := by decide +kernel
theorem dX7_image_2 : decode cX7_image 2 = .ok (.putfield 223, 3) := by decide +kernel
theorem dX7_image_5 : decode cX7_image 5 = .ok (.aload_n 0, 1) := by decide +kernel
theorem dX7_image_6 : decode cX7_image 6 = .ok (.aload_n 0, 1) := by decide +kernel
theorem dX7_image_7 : decode cX7_image 7 = .ok (.getfield 40, 3) := by decide +kernel
theorem dX7_image_10 : decode cX7_image 10 = .ok (.invokevirtual 128, 3) := by decide +kernel
theorem dX7_image_13 : decode cX7_image 13 = .ok (.aload_n 0, 1) := by decide +kernel
theorem dX7_image_14 : decode cX7_image 14 = .ok (.getfield 84, 3) := by decide +kernel
theorem dX7_image_17 : decode cX7_image 17 = .ok (.ireturn, 1) := by decide +kernel
theorem dX7_on_0 : decode cX7_on 0 = .ok (.aload_n 0, 1) := by decide +kernel
theorem dX7_on_1 : decode cX7_on 1 = .ok (.getfield 223, 3) := by decide +kernel
theorem dX7_on_4 : decode cX7_on 4 = .ok (.ifCond .ne 10, 3) := by decide +kernel
theorem dX7_on_7 : decode cX7_on 7 = .ok (.aload_n 0, 1) := by decide +kernel
theorem dX7_on_8 : decode cX7_on 8 = .ok (.bipush (-3), 2) := by decide +kernel
theorem dX7_on_10 : decode cX7_on 10 = .ok (.invokevirtual 80, 3) := by decide +kernel
theorem dX7_on_13 : decode cX7_on 13 = .ok (.ireturn, 1) := by decide +kernel
theorem dX7_on_14 : decode cX7_on 14 = .ok (.aload_n 0, 1) := by decide +kernel
theorem dX7_on_15 : decode cX7_on 15 = .ok (.aload_n 0, 1) := by decide +kernel
theorem dX7_on_16 : decode cX7_on 16 = .ok (.getfield 40, 3) := by decide +kernel
theorem dX7_on_19 : decode cX7_on 19 = .ok (.invokevirtual 132, 3) := by decide +kernel
theorem dX7_on_22 : decode cX7_on 22 = .ok (.aload_n 0, 1) := by decide +kernel
theorem dX7_on_23 : decode cX7_on 23 = .ok (.getfield 84, 3) := by decide +kernel
theorem dX7_on_26 : decode cX7_on 26 = .ok (.ireturn, 1) := by decide +kernel
theorem dX7_count_0 : decode cX7_count 0 = .ok (.iconst 0, 1) := by decide +kernel
theorem dX7_count_1 : decode cX7_count 1 = .ok (.istore_n 2, 1) := by decide +kernel
theorem dX7_count_2 : decode cX7_count 2 = .ok (.iload_n 1, 1) := by decide +kernel
theorem dX7_count_3 : decode cX7_count 3 = .ok (.tableswitch 114 0 6 #[41, 46, 53, 60, 67, 104, 109], 41) := by decide +kernel
theorem dX7_count_44 : decode cX7_count 44 = .ok (.aload_n 0, 1) := by decide +kernel
theorem dX7_count_45 : decode cX7_count 45 = .ok (.getfield 84, 3) := by decide +kernel
theorem dX7_count_48 : decode cX7_count 48 = .ok (.ireturn, 1) := by decide +kernel
theorem dX7_count_49 : decode cX7_count 49 = .ok (.aload_n 0, 1) := by decide +kernel
theorem dX7_count_50 : decode cX7_count 50 = .ok (.getfield 25, 3) := by decide +kernel
theorem dX7_count_53 : decode cX7_count 53 = .ok (.iconst 0, 1) := by decide +kernel
theorem dX7_count_54 : decode cX7_count 54 = .ok (.iaload, 1) := by decide +kernel
theorem dX7_count_55 : decode cX7_count 55 = .ok (.ireturn, 1) := by decide +kernel
theorem dX7_count_56 : decode cX7_count 56 = .ok (.aload_n 0, 1) := by decide +kernel
theorem dX7_count_57 : decode cX7_count 57 = .ok (.getfield 25, 3) := by decide +kernel
theorem dX7_count_60 : decode cX7_count 60 = .ok (.iconst 1, 1) := by decide +kernel
theorem dX7_count_61 : decode cX7_count 61 = .ok (.iaload, 1) := by decide +kernel
theorem dX7_count_62 : decode cX7_count 62 = .ok (.ireturn, 1) := by decide +kernel
theorem dX7_count_63 : decode cX7_count 63 = .ok (.aload_n 0, 1) := by decide +kernel
theorem dX7_count_64 : decode cX7_count 64 = .ok (.getfield 25, 3) := by decide +kernel
theorem dX7_count_67 : decode cX7_count 67 = .ok (.iconst 2, 1) := by decide +kernel
theorem dX7_count_68 : decode cX7_count 68 = .ok (.iaload, 1) := by decide +kernel
theorem dX7_count_69 : decode cX7_count 69 = .ok (.ireturn, 1) := by decide +kernel
theorem dX7_count_70 : decode cX7_count 70 = .ok (.iconst 0, 1) := by decide +kernel
theorem dX7_count_71 : decode cX7_count 71 = .ok (.istore_n 3, 1) := by decide +kernel
theorem dX7_count_72 : decode cX7_count 72 = .ok (.iload_n 3, 1) := by decide +kernel
theorem dX7_count_73 : decode cX7_count 73 = .ok (.aload_n 0, 1) := by decide +kernel
theorem dX7_count_74 : decode cX7_count 74 = .ok (.getfield 84, 3) := by decide +kernel
theorem dX7_count_77 : decode cX7_count 77 = .ok (.if_icmp .ge 28, 3) := by decide +kernel
theorem dX7_count_80 : decode cX7_count 80 = .ok (.iload_n 2, 1) := by decide +kernel
theorem dX7_count_81 : decode cX7_count 81 = .ok (.aload_n 0, 1) := by decide +kernel
theorem dX7_count_82 : decode cX7_count 82 = .ok (.getfield 16, 3) := by decide +kernel
theorem dX7_count_85 : decode cX7_count 85 = .ok (.iload_n 3, 1) := by decide +kernel
theorem dX7_count_86 : decode cX7_count 86 = .ok (.iaload, 1) := by decide +kernel
theorem dX7_count_87 : decode cX7_count 87 = .ok (.aload_n 0, 1) := by decide +kernel
theorem dX7_count_88 : decode cX7_count 88 = .ok (.getfield 19, 3) := by decide +kernel
theorem dX7_count_91 : decode cX7_count 91 = .ok (.iload_n 3, 1) := by decide +kernel
theorem dX7_count_92 : decode cX7_count 92 = .ok (.iaload, 1) := by decide +kernel
theorem dX7_count_93 : decode cX7_count 93 = .ok (.isub, 1) := by decide +kernel
theorem dX7_count_94 : decode cX7_count 94 = .ok (.invokestatic 144, 3) := by decide +kernel
theorem dX7_count_97 : decode cX7_count 97 = .ok (.iadd, 1) := by decide +kernel
theorem dX7_count_98 : decode cX7_count 98 = .ok (.istore_n 2, 1) := by decide +kernel
theorem dX7_count_99 : decode cX7_count 99 = .ok (.iinc 3 1, 3) := by decide +kernel
theorem dX7_count_102 : decode cX7_count 102 = .ok (.goto (-30), 3) := by decide +kernel
theorem dX7_count_105 : decode cX7_count 105 = .ok (.iload_n 2, 1) := by decide +kernel
theorem dX7_count_106 : decode cX7_count 106 = .ok (.ireturn, 1) := by decide +kernel
theorem dX7_count_107 : decode cX7_count 107 = .ok (.aload_n 0, 1) := by decide +kernel
theorem dX7_count_108 : decode cX7_count 108 = .ok (.getfield 214, 3) := by decide +kernel
theorem dX7_count_111 : decode cX7_count 111 = .ok (.ireturn, 1) := by decide +kernel
theorem dX7_count_112 : decode cX7_count 112 = .ok (.aload_n 0, 1) := by decide +kernel
theorem dX7_count_113 : decode cX7_count 113 = .ok (.getfield 92, 3) := by decide +kernel
theorem dX7_count_116 : decode cX7_count 116 = .ok (.ireturn, 1) := by decide +kernel
theorem dX7_count_117 : decode cX7_count 117 = .ok (.iload_n 1, 1) := by decide +kernel
theorem dX7_count_118 : decode cX7_count 118 = .ok (.bipush 11, 2) := by decide +kernel
theorem dX7_count_120 : decode cX7_count 120 = .ok (.bipush 16, 2) := by decide +kernel
theorem dX7_count_122 : decode cX7_count 122 = .ok (.invokestatic 88, 3) := by decide +kernel
theorem dX7_count_125 : decode cX7_count 125 = .ok (.ifCond .eq 15, 3) := by decide +kernel
theorem dX7_count_128 : decode cX7_count 128 = .ok (.aload_n 0, 1) := by decide +kernel
theorem dX7_count_129 : decode cX7_count 129 = .ok (.getfield 37, 3) := by decide +kernel
theorem dX7_count_132 : decode cX7_count 132 = .ok (.iload_n 1, 1) := by decide +kernel
theorem dX7_count_133 : decode cX7_count 133 = .ok (.bipush 10, 2) := by decide +kernel
theorem dX7_count_135 : decode cX7_count 135 = .ok (.isub, 1) := by decide +kernel
theorem dX7_count_136 : decode cX7_count 136 = .ok (.iaload, 1) := by decide +kernel
theorem dX7_count_137 : decode cX7_count 137 = .ok (.goto 5, 3) := by decide +kernel
theorem dX7_count_140 : decode cX7_count 140 = .ok (.bipush (-9), 2) := by decide +kernel
theorem dX7_count_142 : decode cX7_count 142 = .ok (.ireturn, 1) := by decide +kernel
theorem dJ11_isValidCodePoint_9a6ad_0 : decode cJ11_isValidCodePoint_9a6ad 0 = .ok (.iload_n 0, 1) := by decide +kernel
theorem dJ11_isValidCodePoint_9a6ad_1 : decode cJ11_isValidCodePoint_9a6ad 1 = .ok (.bipush 16, 2) := by decide +kernel
theorem dJ11_isValidCodePoint_9a6ad_3 : decode cJ11_isValidCodePoint_9a6ad 3 = .ok (.iushr, 1) := by decide +kernel
theorem dJ11_isValidCodePoint_9a6ad_4 : decode cJ11_isValidCodePoint_9a6ad 4 = .ok (.istore_n 1, 1) := by decide +kernel
theorem dJ11_isValidCodePoint_9a6ad_5 : decode cJ11_isValidCodePoint_9a6ad 5 = .ok (.iload_n 1, 1) := by decide +kernel
theorem dJ11_isValidCodePoint_9a6ad_6 : decode cJ11_isValidCodePoint_9a6ad 6 = .ok (.bipush 17, 2) := by decide +kernel
theorem dJ11_isValidCodePoint_9a6ad_8 : decode cJ11_isValidCodePoint_9a6ad 8 = .ok (.if_icmp .ge 7, 3) := by decide +kernel
theorem dJ11_isValidCodePoint_9a6ad_11 : decode cJ11_isValidCodePoint_9a6ad 11 = .ok (.iconst 1, 1) := by decide +kernel
theorem dJ11_isValidCodePoint_9a6ad_12 : decode cJ11_isValidCodePoint_9a6ad 12 = .ok (.goto 4, 3) := by decide +kernel
theorem dJ11_isValidCodePoint_9a6ad_15 : decode cJ11_isValidCodePoint_9a6ad 15 = .ok (.iconst 0, 1) := by decide +kernel
theorem dJ11_isValidCodePoint_9a6ad_16 : decode cJ11_isValidCodePoint_9a6ad 16 = .ok (.ireturn, 1) := by decide +kernel
theorem dJ11_highSurrogate_5068e_0 : decode cJ11_highSurrogate_5068e 0 = .ok (.iload_n 0, 1) := by decide +kernel
theorem dJ11_highSurrogate_5068e_1 : decode cJ11_highSurrogate_5068e 1 = .ok (.bipush 10, 2) := by decide +kernel
theorem dJ11_highSurrogate_5068e_3 : decode cJ11_highSurrogate_5068e 3 = .ok (.iushr, 1) := by decide +kernel
theorem dJ11_highSurrogate_5068e_4 : decode cJ11_highSurrogate_5068e 4 = .ok (.ldc 110, 2) := by decide +kernel
theorem dJ11_highSurrogate_5068e_6 : decode cJ11_highSurrogate_5068e 6 = .ok (.iadd, 1) := by decide +kernel
theorem dJ11_highSurrogate_5068e_7 : decode cJ11_highSurrogate_5068e 7 = .ok (.i2c, 1) := by decide +kernel
theorem dJ11_highSurrogate_5068e_8 : decode cJ11_highSurrogate_5068e 8 = .ok (.ireturn, 1) := by decide +kernel
theorem dJ11_lowSurrogate_5068e_0 : decode cJ11_lowSurrogate_5068e 0 = .ok (.iload_n 0, 1) := by decide +kernel
theorem dJ11_lowSurrogate_5068e_1 : decode cJ11_lowSurrogate_5068e 1 = .ok (.sipush 1023, 3) := by decide +kernel
theorem dJ11_lowSurrogate_5068e_4 : decode cJ11_lowSurrogate_5068e 4 = .ok (.iand, 1) := by decide +kernel
theorem dJ11_lowSurrogate_5068e_5 : decode cJ11_lowSurrogate_5068e 5 = .ok (.ldc 76, 2) := by decide +kernel
theorem dJ11_lowSurrogate_5068e_7 : decode cJ11_lowSurrogate_5068e 7 = .ok (.iadd, 1) := by decide +kernel
theorem dJ11_lowSurrogate_5068e_8 : decode cJ11_lowSurrogate_5068e 8 = .ok (.i2c, 1) := by decide +kernel
theorem dJ11_lowSurrogate_5068e_9 : decode cJ11_lowSurrogate_5068e 9 = .ok (.ireturn, 1) := by decide +kernel
theorem dJ9_abs_0f7a4_0 : decode cJ9_abs_0f7a4 0 = .ok (.iload_n 0, 1) := by decide +kernel
theorem dJ9_abs_0f7a4_1 : decode cJ9_abs_0f7a4 1 = .ok (.ifCond .ge 8, 3) := by decide +kernel
theorem dJ9_abs_0f7a4_4 : decode cJ9_abs_0f7a4 4 = .ok (.iload_n 0, 1) := by decide +kernel
theorem dJ9_abs_0f7a4_5 : decode cJ9_abs_0f7a4 5 = .ok (.ineg, 1) := by decide +kernel
theorem dJ9_abs_0f7a4_6 : decode cJ9_abs_0f7a4 6 = .ok (.goto 4, 3) := by decide +kernel
theorem dJ9_abs_0f7a4_9 : decode cJ9_abs_0f7a4 9 = .ok (.iload_n 0, 1) := by decide +kernel
theorem dJ9_abs_0f7a4_10 : decode cJ9_abs_0f7a4 10 = .ok (.ireturn, 1) := by decide +kernel
theorem dJ9_max_7cf53_0 : decode cJ9_max_7cf53 0 = .ok (.iload_n 0, 1) := by decide +kernel
theorem dJ9_max_7cf53_1 : decode cJ9_max_7cf53 1 = .ok (.iload_n 1, 1) := by decide +kernel
theorem dJ9_max_7cf53_2 : decode cJ9_max_7cf53 2 = .ok (.if_icmp .lt 7, 3) := by decide +kernel
theorem dJ9_max_7cf53_5 : decode cJ9_max_7cf53 5 = .ok (.iload_n 0, 1) := by decide +kernel
theorem dJ9_max_7cf53_6 : decode cJ9_max_7cf53 6 = .ok (.goto 4, 3) := by decide +kernel
theorem dJ9_max_7cf53_9 : decode cJ9_max_7cf53 9 = .ok (.iload_n 1, 1) := by decide +kernel
theorem dJ9_max_7cf53_10 : decode cJ9_max_7cf53 10 = .ok (.ireturn, 1) := by decide +kernel
theorem dJ9_min_7cf53_0 : decode cJ9_min_7cf53 0 = .ok (.iload_n 0, 1) := by decide +kernel
theorem dJ9_min_7cf53_1 : decode cJ9_min_7cf53 1 = .ok (.iload_n 1, 1) := by decide +kernel
theorem dJ9_min_7cf53_2 : decode cJ9_min_7cf53 2 = .ok (.if_icmp .gt 7, 3) := by decide +kernel
theorem dJ9_min_7cf53_5 : decode cJ9_min_7cf53 5 = .ok (.iload_n 0, 1) := by decide +kernel
theorem dJ9_min_7cf53_6 : decode cJ9_min_7cf53 6 = .ok (.goto 4, 3) := by decide +kernel
theorem dJ9_min_7cf53_9 : decode cJ9_min_7cf53 9 = .ok (.iload_n 1, 1) := by decide +kernel
theorem dJ9_min_7cf53_10 : decode cJ9_min_7cf53 10 = .ok (.ireturn, 1) := by decide +kernel
theorem dJ0_length_8abf5_0 : decode cJ0_length_8abf5 0 = .ok (.aload_n 0, 1) := by decide +kernel
theorem dJ0_length_8abf5_1 : decode cJ0_length_8abf5 1 = .ok (.getfield 9, 3) := by decide +kernel
theorem dJ0_length_8abf5_4 : decode cJ0_length_8abf5 4 = .ok (.arraylength, 1) := by decide +kernel
theorem dJ0_length_8abf5_5 : decode cJ0_length_8abf5 5 = .ok (.aload_n 0, 1) := by decide +kernel
theorem dJ0_length_8abf5_6 : decode cJ0_length_8abf5 6 = .ok (.invokevirtual 335, 3) := by decide +kernel
theorem dJ0_length_8abf5_9 : decode cJ0_length_8abf5 9 = .ok (.ishr, 1) := by decide +kernel
theorem dJ0_length_8abf5_10 : decode cJ0_length_8abf5 10 = .ok (.ireturn, 1) := by decide +kernel
theorem dJ0_indexOf_0f7a4_0 : decode cJ0_indexOf_0f7a4 0 = .ok (.aload_n 0, 1) := by decide +kernel
theorem dJ0_indexOf_0f7a4_1 : decode cJ0_indexOf_0f7a4 1 = .ok (.iload_n 1, 1) := by decide +kernel
theorem dJ0_indexOf_0f7a4_2 : decode cJ0_indexOf_0f7a4 2 = .ok (.iconst 0, 1) := by decide +kernel
theorem dJ0_indexOf_0f7a4_3 : decode cJ0_indexOf_0f7a4 3 = .ok (.invokevirtual 633, 3) := by decide +kernel
theorem dJ0_indexOf_0f7a4_6 : decode cJ0_indexOf_0f7a4 6 = .ok (.ireturn, 1) := by decide +kernel
theorem dJ0_indexOf_7cf53_0 : decode cJ0_indexOf_7cf53 0 = .ok (.aload_n 0, 1) := by decide +kernel
theorem dJ0_indexOf_7cf53_1 : decode cJ0_indexOf_7cf53 1 = .ok (.invokevirtual 492, 3) := by decide +kernel
theorem dJ0_indexOf_7cf53_4 : decode cJ0_indexOf_7cf53 4 = .ok (.ifCond .eq 19, 3) := by decide +kernel
theorem dJ0_indexOf_7cf53_7 : decode cJ0_indexOf_7cf53 7 = .ok (.aload_n 0, 1) := by decide +kernel
theorem dJ0_indexOf_7cf53_8 : decode cJ0_indexOf_7cf53 8 = .ok (.getfield 9, 3) := by decide +kernel
theorem dJ0_indexOf_7cf53_11 : decode cJ0_indexOf_7cf53 11 = .ok (.iload_n 1, 1) := by decide +kernel
theorem dJ0_indexOf_7cf53_12 : decode cJ0_indexOf_7cf53 12 = .ok (.iload_n 2, 1) := by decide +kernel
theorem dJ0_indexOf_7cf53_13 : decode cJ0_indexOf_7cf53 13 = .ok (.aload_n 0, 1) := by decide +kernel
theorem dJ0_indexOf_7cf53_14 : decode cJ0_indexOf_7cf53 14 = .ok (.invokevirtual 505, 3) := by decide +kernel
theorem dJ0_indexOf_7cf53_17 : decode cJ0_indexOf_7cf53 17 = .ok (.invokestatic 637, 3) := by decide +kernel
theorem dJ0_indexOf_7cf53_20 : decode cJ0_indexOf_7cf53 20 = .ok (.goto 16, 3) := by decide +kernel
theorem dJ0_indexOf_7cf53_23 : decode cJ0_indexOf_7cf53 23 = .ok (.aload_n 0, 1) := by decide +kernel
theorem dJ0_indexOf_7cf53_24 : decode cJ0_indexOf_7cf53 24 = .ok (.getfield 9, 3) := by decide +kernel
theorem dJ0_indexOf_7cf53_27 : decode cJ0_indexOf_7cf53 27 = .ok (.iload_n 1, 1) := by decide +kernel
theorem dJ0_indexOf_7cf53_28 : decode cJ0_indexOf_7cf53 28 = .ok (.iload_n 2, 1) := by decide +kernel
theorem dJ0_indexOf_7cf53_29 : decode cJ0_indexOf_7cf53 29 = .ok (.aload_n 0, 1) := by decide +kernel
theorem dJ0_indexOf_7cf53_30 : decode cJ0_indexOf_7cf53 30 = .ok (.invokevirtual 505, 3) := by decide +kernel
theorem dJ0_indexOf_7cf53_33 : decode cJ0_indexOf_7cf53 33 = .ok (.invokestatic 640, 3) := by decide +kernel
theorem dJ0_indexOf_7cf53_36 : decode cJ0_indexOf_7cf53 36 = .ok (.ireturn, 1) := by decide +kernel
theorem dJ0_coder_7d493_0 : decode cJ0_coder_7d493 0 = .ok (.getstatic 38, 3) := by decide +kernel
theorem dJ0_coder_7d493_3 : decode cJ0_coder_7d493 3 = .ok (.ifCond .eq 10, 3) := by decide +kernel
theorem dJ0_coder_7d493_6 : decode cJ0_coder_7d493 6 = .ok (.aload_n 0, 1) := by decide +kernel
theorem dJ0_coder_7d493_7 : decode cJ0_coder_7d493 7 = .ok (.getfield 15, 3) := by decide +kernel
theorem dJ0_coder_7d493_10 : decode cJ0_coder_7d493 10 = .ok (.goto 4, 3) := by decide +kernel
theorem dJ0_coder_7d493_13 : decode cJ0_coder_7d493 13 = .ok (.iconst 1, 1) := by decide +kernel
theorem dJ0_coder_7d493_14 : decode cJ0_coder_7d493 14 = .ok (.ireturn, 1) := by decide +kernel
theorem dJ0_isLatin1_aae02_0 : decode cJ0_isLatin1_aae02 0 = .ok (.getstatic 38, 3) := by decide +kernel
theorem dJ0_isLatin1_aae02_3 : decode cJ0_isLatin1_aae02 3 = .ok (.ifCond .eq 14, 3) := by decide +kernel
theorem dJ0_isLatin1_aae02_6 : decode cJ0_isLatin1_aae02 6 = .ok (.aload_n 0, 1) := by decide +kernel
theorem dJ0_isLatin1_aae02_7 : decode cJ0_isLatin1_aae02 7 = .ok (.getfield 15, 3) := by decide +kernel
theorem dJ0_isLatin1_aae02_10 : decode cJ0_isLatin1_aae02 10 = .ok (.ifCond .ne 7, 3) := by decide +kernel
theorem dJ0_isLatin1_aae02_13 : decode cJ0_isLatin1_aae02 13 = .ok (.iconst 1, 1) := by decide +kernel
theorem dJ0_isLatin1_aae02_14 : decode cJ0_isLatin1_aae02 14 = .ok (.goto 4, 3) := by decide +kernel
theorem dJ0_isLatin1_aae02_17 : decode cJ0_isLatin1_aae02 17 = .ok (.iconst 0, 1) := by decide +kernel
theorem dJ0_isLatin1_aae02_18 : decode cJ0_isLatin1_aae02 18 = .ok (.ireturn, 1) := by decide +kernel
theorem dJ0_checkBoundsBeginEnd_23922_0 : decode cJ0_checkBoundsBeginEnd_23922 0 = .ok (.iload_n 0, 1) := by decide +kernel
theorem dJ0_checkBoundsBeginEnd_23922_1 : decode cJ0_checkBoundsBeginEnd_23922 1 = .ok (.iload_n 1, 1) := by decide +kernel
theorem dJ0_checkBoundsBeginEnd_23922_2 : decode cJ0_checkBoundsBeginEnd_23922 2 = .ok (.iload_n 2, 1) := by decide +kernel
theorem dJ0_checkBoundsBeginEnd_23922_3 : decode cJ0_checkBoundsBeginEnd_23922 3 = .ok (.getstatic 1053, 3) := by decide +kernel
theorem dJ0_checkBoundsBeginEnd_23922_6 : decode cJ0_checkBoundsBeginEnd_23922 6 = .ok (.invokestatic 1062, 3) := by decide +kernel
theorem dJ0_checkBoundsBeginEnd_23922_9 : decode cJ0_checkBoundsBeginEnd_23922 9 = .ok (.pop, 1) := by decide +kernel
theorem dJ0_checkBoundsBeginEnd_23922_10 : decode cJ0_checkBoundsBeginEnd_23922 10 = .ok (.return_, 1) := by decide +kernel
theorem dJ1_canEncode_9a6ad_0 : decode cJ1_canEncode_9a6ad 0 = .ok (.iload_n 0, 1) := by decide +kernel
theorem dJ1_canEncode_9a6ad_1 : decode cJ1_canEncode_9a6ad 1 = .ok (.ifCond .lt 14, 3) := by decide +kernel
theorem dJ1_canEncode_9a6ad_4 : decode cJ1_canEncode_9a6ad 4 = .ok (.iload_n 0, 1) := by decide +kernel
theorem dJ1_canEncode_9a6ad_5 : decode cJ1_canEncode_9a6ad 5 = .ok (.sipush 255, 3) := by decide +kernel
theorem dJ1_canEncode_9a6ad_8 : decode cJ1_canEncode_9a6ad 8 = .ok (.if_icmp .gt 7, 3) := by decide +kernel
theorem dJ1_canEncode_9a6ad_11 : decode cJ1_canEncode_9a6ad 11 = .ok (.iconst 1, 1) := by decide +kernel
theorem dJ1_canEncode_9a6ad_12 : decode cJ1_canEncode_9a6ad 12 = .ok (.goto 4, 3) := by decide +kernel
theorem dJ1_canEncode_9a6ad_15 : decode cJ1_canEncode_9a6ad 15 = .ok (.iconst 0, 1) := by decide +kernel
theorem dJ1_canEncode_9a6ad_16 : decode cJ1_canEncode_9a6ad 16 = .ok (.ireturn, 1) := by decide +kernel
theorem dJ1_indexOf_4cfef_0 : decode cJ1_indexOf_4cfef 0 = .ok (.iload_n 1, 1) := by decide +kernel
theorem dJ1_indexOf_4cfef_1 : decode cJ1_indexOf_4cfef 1 = .ok (.invokestatic 88, 3) := by decide +kernel
theorem dJ1_indexOf_4cfef_4 : decode cJ1_indexOf_4cfef 4 = .ok (.ifCond .ne 5, 3) := by decide +kernel
theorem dJ1_indexOf_4cfef_7 : decode cJ1_indexOf_4cfef 7 = .ok (.iconst (-1), 1) := by decide +kernel
theorem dJ1_indexOf_4cfef_8 : decode cJ1_indexOf_4cfef 8 = .ok (.ireturn, 1) := by decide +kernel
theorem dJ1_indexOf_4cfef_9 : decode cJ1_indexOf_4cfef 9 = .ok (.iload_n 2, 1) := by decide +kernel
theorem dJ1_indexOf_4cfef_10 : decode cJ1_indexOf_4cfef 10 = .ok (.iconst 0, 1) := by decide +kernel
theorem dJ1_indexOf_4cfef_11 : decode cJ1_indexOf_4cfef 11 = .ok (.invokestatic 92, 3) := by decide +kernel
theorem dJ1_indexOf_4cfef_14 : decode cJ1_indexOf_4cfef 14 = .ok (.istore_n 2, 1) := by decide +kernel
theorem dJ1_indexOf_4cfef_15 : decode cJ1_indexOf_4cfef 15 = .ok (.iload_n 3, 1) := by decide +kernel
theorem dJ1_indexOf_4cfef_16 : decode cJ1_indexOf_4cfef 16 = .ok (.aload_n 0, 1) := by decide +kernel
theorem dJ1_indexOf_4cfef_17 : decode cJ1_indexOf_4cfef 17 = .ok (.arraylength, 1) := by decide +kernel
theorem dJ1_indexOf_4cfef_18 : decode cJ1_indexOf_4cfef 18 = .ok (.invokestatic 38, 3) := by decide +kernel
theorem dJ1_indexOf_4cfef_21 : decode cJ1_indexOf_4cfef 21 = .ok (.istore_n 3, 1) := by decide +kernel
theorem dJ1_indexOf_4cfef_22 : decode cJ1_indexOf_4cfef 22 = .ok (.iload_n 2, 1) := by decide +kernel
theorem dJ1_indexOf_4cfef_23 : decode cJ1_indexOf_4cfef 23 = .ok (.iload_n 3, 1) := by decide +kernel
theorem dJ1_indexOf_4cfef_24 : decode cJ1_indexOf_4cfef 24 = .ok (.if_icmp .lt 5, 3) := by decide +kernel
theorem dJ1_indexOf_4cfef_27 : decode cJ1_indexOf_4cfef 27 = .ok (.iconst (-1), 1) := by decide +kernel
theorem dJ1_indexOf_4cfef_28 : decode cJ1_indexOf_4cfef 28 = .ok (.ireturn, 1) := by decide +kernel
theorem dJ1_indexOf_4cfef_29 : decode cJ1_indexOf_4cfef 29 = .ok (.aload_n 0, 1) := by decide +kernel
theorem dJ1_indexOf_4cfef_30 : decode cJ1_indexOf_4cfef 30 = .ok (.iload_n 1, 1) := by decide +kernel
theorem dJ1_indexOf_4cfef_31 : decode cJ1_indexOf_4cfef 31 = .ok (.iload_n 2, 1) := by decide +kernel
theorem dJ1_indexOf_4cfef_32 : decode cJ1_indexOf_4cfef 32 = .ok (.iload_n 3, 1) := by decide +kernel
theorem dJ1_indexOf_4cfef_33 : decode cJ1_indexOf_4cfef 33 = .ok (.invokestatic 95, 3) := by decide +kernel
theorem dJ1_indexOf_4cfef_36 : decode cJ1_indexOf_4cfef 36 = .ok (.ireturn, 1) := by decide +kernel
theorem dJ1_indexOfChar_4cfef_0 : decode cJ1_indexOfChar_4cfef 0 = .ok (.iload_n 1, 1) := by decide +kernel
theorem dJ1_indexOfChar_4cfef_1 : decode cJ1_indexOfChar_4cfef 1 = .ok (.i2b, 1) := by decide +kernel
theorem dJ1_indexOfChar_4cfef_2 : decode cJ1_indexOfChar_4cfef 2 = .ok (.istore 4, 2) := by decide +kernel
theorem dJ1_indexOfChar_4cfef_4 : decode cJ1_indexOfChar_4cfef 4 = .ok (.iload_n 2, 1) := by decide +kernel
theorem dJ1_indexOfChar_4cfef_5 : decode cJ1_indexOfChar_4cfef 5 = .ok (.istore 5, 2) := by decide +kernel
theorem dJ1_indexOfChar_4cfef_7 : decode cJ1_indexOfChar_4cfef 7 = .ok (.iload 5, 2) := by decide +kernel
theorem dJ1_indexOfChar_4cfef_9 : decode cJ1_indexOfChar_4cfef 9 = .ok (.iload_n 3, 1) := by decide +kernel
theorem dJ1_indexOfChar_4cfef_10 : decode cJ1_indexOfChar_4cfef 10 = .ok (.if_icmp .ge 21, 3) := by decide +kernel
theorem dJ1_indexOfChar_4cfef_13 : decode cJ1_indexOfChar_4cfef 13 = .ok (.aload_n 0, 1) := by decide +kernel
theorem dJ1_indexOfChar_4cfef_14 : decode cJ1_indexOfChar_4cfef 14 = .ok (.iload 5, 2) := by decide +kernel
theorem dJ1_indexOfChar_4cfef_16 : decode cJ1_indexOfChar_4cfef 16 = .ok (.baload, 1) := by decide +kernel
theorem dJ1_indexOfChar_4cfef_17 : decode cJ1_indexOfChar_4cfef 17 = .ok (.iload 4, 2) := by decide +kernel
theorem dJ1_indexOfChar_4cfef_19 : decode cJ1_indexOfChar_4cfef 19 = .ok (.if_icmp .ne 6, 3) := by decide +kernel
theorem dJ1_indexOfChar_4cfef_22 : decode cJ1_indexOfChar_4cfef 22 = .ok (.iload 5, 2) := by decide +kernel
theorem dJ1_indexOfChar_4cfef_24 : decode cJ1_indexOfChar_4cfef 24 = .ok (.ireturn, 1) := by decide +kernel
theorem dJ1_indexOfChar_4cfef_25 : decode cJ1_indexOfChar_4cfef 25 = .ok (.iinc 5 1, 3) := by decide +kernel
theorem dJ1_indexOfChar_4cfef_28 : decode cJ1_indexOfChar_4cfef 28 = .ok (.goto (-21), 3) := by decide +kernel
theorem dJ1_indexOfChar_4cfef_31 : decode cJ1_indexOfChar_4cfef 31 = .ok (.iconst (-1), 1) := by decide +kernel
theorem dJ1_indexOfChar_4cfef_32 : decode cJ1_indexOfChar_4cfef 32 = .ok (.ireturn, 1) := by decide +kernel
theorem dJ2_getChar_3b067_0 : decode cJ2_getChar_3b067 0 = .ok (.getstatic 44, 3) := by decide +kernel
theorem dJ2_getChar_3b067_3 : decode cJ2_getChar_3b067 3 = .ok (.ifCond .ne 25, 3) := by decide +kernel
theorem dJ2_getChar_3b067_6 : decode cJ2_getChar_3b067 6 = .ok (.iload_n 1, 1) := by decide +kernel
theorem dJ2_getChar_3b067_7 : decode cJ2_getChar_3b067 7 = .ok (.ifCond .lt 11, 3) := by decide +kernel
theorem dJ2_getChar_3b067_10 : decode cJ2_getChar_3b067 10 = .ok (.iload_n 1, 1) := by decide +kernel
theorem dJ2_getChar_3b067_11 : decode cJ2_getChar_3b067 11 = .ok (.aload_n 0, 1) := by decide +kernel
theorem dJ2_getChar_3b067_12 : decode cJ2_getChar_3b067 12 = .ok (.invokestatic 48, 3) := by decide +kernel
theorem dJ2_getChar_3b067_15 : decode cJ2_getChar_3b067 15 = .ok (.if_icmp .lt 13, 3) := by decide +kernel
theorem dJ2_getChar_3b067_18 : decode cJ2_getChar_3b067 18 = .ok (.new 52, 3) := by decide +kernel
theorem dJ2_getChar_3b067_21 : decode cJ2_getChar_3b067 21 = .ok (.dup, 1) := by decide +kernel
theorem dJ2_getChar_3b067_22 : decode cJ2_getChar_3b067 22 = .ok (.ldc 54, 2) := by decide +kernel
theorem dJ2_getChar_3b067_24 : decode cJ2_getChar_3b067 24 = .ok (.invokespecial 56, 3) := by decide +kernel
theorem dJ2_getChar_3b067_27 : decode cJ2_getChar_3b067 27 = .ok (.athrow, 1) := by decide +kernel
theorem dJ2_getChar_3b067_28 : decode cJ2_getChar_3b067 28 = .ok (.iload_n 1, 1) := by decide +kernel
theorem dJ2_getChar_3b067_29 : decode cJ2_getChar_3b067 29 = .ok (.iconst 1, 1) := by decide +kernel
theorem dJ2_getChar_3b067_30 : decode cJ2_getChar_3b067 30 = .ok (.ishl, 1) := by decide +kernel
theorem dJ2_getChar_3b067_31 : decode cJ2_getChar_3b067 31 = .ok (.istore_n 1, 1) := by decide +kernel
theorem dJ2_getChar_3b067_32 : decode cJ2_getChar_3b067 32 = .ok (.aload_n 0, 1) := by decide +kernel
theorem dJ2_getChar_3b067_33 : decode cJ2_getChar_3b067 33 = .ok (.iload_n 1, 1) := by decide +kernel
theorem dJ2_getChar_3b067_34 : decode cJ2_getChar_3b067 34 = .ok (.iinc 1 1, 3) := by decide +kernel
theorem dJ2_getChar_3b067_37 : decode cJ2_getChar_3b067 37 = .ok (.baload, 1) := by decide +kernel
theorem dJ2_getChar_3b067_38 : decode cJ2_getChar_3b067 38 = .ok (.sipush 255, 3) := by decide +kernel
theorem dJ2_getChar_3b067_41 : decode cJ2_getChar_3b067 41 = .ok (.iand, 1) := by decide +kernel
theorem dJ2_getChar_3b067_42 : decode cJ2_getChar_3b067 42 = .ok (.getstatic 59, 3) := by decide +kernel
theorem dJ2_getChar_3b067_45 : decode cJ2_getChar_3b067 45 = .ok (.ishl, 1) := by decide +kernel
theorem dJ2_getChar_3b067_46 : decode cJ2_getChar_3b067 46 = .ok (.aload_n 0, 1) := by decide +kernel
theorem dJ2_getChar_3b067_47 : decode cJ2_getChar_3b067 47 = .ok (.iload_n 1, 1) := by decide +kernel
theorem dJ2_getChar_3b067_48 : decode cJ2_getChar_3b067 48 = .ok (.baload, 1) := by decide +kernel
theorem dJ2_getChar_3b067_49 : decode cJ2_getChar_3b067 49 = .ok (.sipush 255, 3) := by decide +kernel
theorem dJ2_getChar_3b067_52 : decode cJ2_getChar_3b067 52 = .ok (.iand, 1) := by decide +kernel
theorem dJ2_getChar_3b067_53 : decode cJ2_getChar_3b067 53 = .ok (.getstatic 63, 3) := by decide +kernel
theorem dJ2_getChar_3b067_56 : decode cJ2_getChar_3b067 56 = .ok (.ishl, 1) := by decide +kernel
theorem dJ2_getChar_3b067_57 : decode cJ2_getChar_3b067 57 = .ok (.ior, 1) := by decide +kernel
theorem dJ2_getChar_3b067_58 : decode cJ2_getChar_3b067 58 = .ok (.i2c, 1) := by decide +kernel
theorem dJ2_getChar_3b067_59 : decode cJ2_getChar_3b067 59 = .ok (.ireturn, 1) := by decide +kernel
theorem dJ2_length_9d52b_0 : decode cJ2_length_9d52b 0 = .ok (.aload_n 0, 1) := by decide +kernel
theorem dJ2_length_9d52b_1 : decode cJ2_length_9d52b 1 = .ok (.arraylength, 1) := by decide +kernel
theorem dJ2_length_9d52b_2 : decode cJ2_length_9d52b 2 = .ok (.iconst 1, 1) := by decide +kernel
theorem dJ2_length_9d52b_3 : decode cJ2_length_9d52b 3 = .ok (.ishr, 1) := by decide +kernel
theorem dJ2_length_9d52b_4 : decode cJ2_length_9d52b 4 = .ok (.ireturn, 1) := by decide +kernel
theorem dJ2_indexOf_4cfef_0 : decode cJ2_indexOf_4cfef 0 = .ok (.iload_n 2, 1) := by decide +kernel
theorem dJ2_indexOf_4cfef_1 : decode cJ2_indexOf_4cfef 1 = .ok (.iconst 0, 1) := by decide +kernel
theorem dJ2_indexOf_4cfef_2 : decode cJ2_indexOf_4cfef 2 = .ok (.invokestatic 224, 3) := by decide +kernel
theorem dJ2_indexOf_4cfef_5 : decode cJ2_indexOf_4cfef 5 = .ok (.istore_n 2, 1) := by decide +kernel
theorem dJ2_indexOf_4cfef_6 : decode cJ2_indexOf_4cfef 6 = .ok (.iload_n 3, 1) := by decide +kernel
theorem dJ2_indexOf_4cfef_7 : decode cJ2_indexOf_4cfef 7 = .ok (.aload_n 0, 1) := by decide +kernel
theorem dJ2_indexOf_4cfef_8 : decode cJ2_indexOf_4cfef 8 = .ok (.arraylength, 1) := by decide +kernel
theorem dJ2_indexOf_4cfef_9 : decode cJ2_indexOf_4cfef 9 = .ok (.iconst 1, 1) := by decide +kernel
theorem dJ2_indexOf_4cfef_10 : decode cJ2_indexOf_4cfef 10 = .ok (.ishr, 1) := by decide +kernel
theorem dJ2_indexOf_4cfef_11 : decode cJ2_indexOf_4cfef 11 = .ok (.invokestatic 183, 3) := by decide +kernel
theorem dJ2_indexOf_4cfef_14 : decode cJ2_indexOf_4cfef 14 = .ok (.istore_n 3, 1) := by decide +kernel
theorem dJ2_indexOf_4cfef_15 : decode cJ2_indexOf_4cfef 15 = .ok (.iload_n 2, 1) := by decide +kernel
theorem dJ2_indexOf_4cfef_16 : decode cJ2_indexOf_4cfef 16 = .ok (.iload_n 3, 1) := by decide +kernel
theorem dJ2_indexOf_4cfef_17 : decode cJ2_indexOf_4cfef 17 = .ok (.if_icmp .lt 5, 3) := by decide +kernel
theorem dJ2_indexOf_4cfef_20 : decode cJ2_indexOf_4cfef 20 = .ok (.iconst (-1), 1) := by decide +kernel
theorem dJ2_indexOf_4cfef_21 : decode cJ2_indexOf_4cfef 21 = .ok (.ireturn, 1) := by decide +kernel
theorem dJ2_indexOf_4cfef_22 : decode cJ2_indexOf_4cfef 22 = .ok (.iload_n 1, 1) := by decide +kernel
theorem dJ2_indexOf_4cfef_23 : decode cJ2_indexOf_4cfef 23 = .ok (.ldc 227, 2) := by decide +kernel
theorem dJ2_indexOf_4cfef_25 : decode cJ2_indexOf_4cfef 25 = .ok (.if_icmp .ge 11, 3) := by decide +kernel
theorem dJ2_indexOf_4cfef_28 : decode cJ2_indexOf_4cfef 28 = .ok (.aload_n 0, 1) := by decide +kernel
theorem dJ2_indexOf_4cfef_29 : decode cJ2_indexOf_4cfef 29 = .ok (.iload_n 1, 1) := by decide +kernel
theorem dJ2_indexOf_4cfef_30 : decode cJ2_indexOf_4cfef 30 = .ok (.iload_n 2, 1) := by decide +kernel
theorem dJ2_indexOf_4cfef_31 : decode cJ2_indexOf_4cfef 31 = .ok (.iload_n 3, 1) := by decide +kernel
theorem dJ2_indexOf_4cfef_32 : decode cJ2_indexOf_4cfef 32 = .ok (.invokestatic 228, 3) := by decide +kernel
theorem dJ2_indexOf_4cfef_35 : decode cJ2_indexOf_4cfef 35 = .ok (.ireturn, 1) := by decide +kernel
theorem dJ2_indexOf_4cfef_36 : decode cJ2_indexOf_4cfef 36 = .ok (.aload_n 0, 1) := by decide +kernel
theorem dJ2_indexOf_4cfef_37 : decode cJ2_indexOf_4cfef 37 = .ok (.iload_n 1, 1) := by decide +kernel
theorem dJ2_indexOf_4cfef_38 : decode cJ2_indexOf_4cfef 38 = .ok (.iload_n 2, 1) := by decide +kernel
theorem dJ2_indexOf_4cfef_39 : decode cJ2_indexOf_4cfef 39 = .ok (.iload_n 3, 1) := by decide +kernel
theorem dJ2_indexOf_4cfef_40 : decode cJ2_indexOf_4cfef 40 = .ok (.invokestatic 232, 3) := by decide +kernel
theorem dJ2_indexOf_4cfef_43 : decode cJ2_indexOf_4cfef 43 = .ok (.ireturn, 1) := by decide +kernel
theorem dJ2_indexOfChar_4cfef_0 : decode cJ2_indexOfChar_4cfef 0 = .ok (.iload_n 2, 1) := by decide +kernel
theorem dJ2_indexOfChar_4cfef_1 : decode cJ2_indexOfChar_4cfef 1 = .ok (.iload_n 3, 1) := by decide +kernel
theorem dJ2_indexOfChar_4cfef_2 : decode cJ2_indexOfChar_4cfef 2 = .ok (.aload_n 0, 1) := by decide +kernel
theorem dJ2_indexOfChar_4cfef_3 : decode cJ2_indexOfChar_4cfef 3 = .ok (.invokestatic 96, 3) := by decide +kernel
theorem dJ2_indexOfChar_4cfef_6 : decode cJ2_indexOfChar_4cfef 6 = .ok (.aload_n 0, 1) := by decide +kernel
theorem dJ2_indexOfChar_4cfef_7 : decode cJ2_indexOfChar_4cfef 7 = .ok (.iload_n 1, 1) := by decide +kernel
theorem dJ2_indexOfChar_4cfef_8 : decode cJ2_indexOfChar_4cfef 8 = .ok (.iload_n 2, 1) := by decide +kernel
theorem dJ2_indexOfChar_4cfef_9 : decode cJ2_indexOfChar_4cfef 9 = .ok (.iload_n 3, 1) := by decide +kernel
theorem dJ2_indexOfChar_4cfef_10 : decode cJ2_indexOfChar_4cfef 10 = .ok (.invokestatic 244, 3) := by decide +kernel
theorem dJ2_indexOfChar_4cfef_13 : decode cJ2_indexOfChar_4cfef 13 = .ok (.ireturn, 1) := by decide +kernel
theorem dJ2_indexOfCharUnsafe_4cfef_0 : decode cJ2_indexOfCharUnsafe_4cfef 0 = .ok (.iload_n 2, 1) := by decide +kernel
theorem dJ2_indexOfCharUnsafe_4cfef_1 : decode cJ2_indexOfCharUnsafe_4cfef 1 = .ok (.istore 4, 2) := by decide +kernel
theorem dJ2_indexOfCharUnsafe_4cfef_3 : decode cJ2_indexOfCharUnsafe_4cfef 3 = .ok (.iload 4, 2) := by decide +kernel
theorem dJ2_indexOfCharUnsafe_4cfef_5 : decode cJ2_indexOfCharUnsafe_4cfef 5 = .ok (.iload_n 3, 1) := by decide +kernel
theorem dJ2_indexOfCharUnsafe_4cfef_6 : decode cJ2_indexOfCharUnsafe_4cfef 6 = .ok (.if_icmp .ge 22, 3) := by decide +kernel
theorem dJ2_indexOfCharUnsafe_4cfef_9 : decode cJ2_indexOfCharUnsafe_4cfef 9 = .ok (.aload_n 0, 1) := by decide +kernel
theorem dJ2_indexOfCharUnsafe_4cfef_10 : decode cJ2_indexOfCharUnsafe_4cfef 10 = .ok (.iload 4, 2) := by decide +kernel
theorem dJ2_indexOfCharUnsafe_4cfef_12 : decode cJ2_indexOfCharUnsafe_4cfef 12 = .ok (.invokestatic 71, 3) := by decide +kernel
theorem dJ2_indexOfCharUnsafe_4cfef_15 : decode cJ2_indexOfCharUnsafe_4cfef 15 = .ok (.iload_n 1, 1) := by decide +kernel
theorem dJ2_indexOfCharUnsafe_4cfef_16 : decode cJ2_indexOfCharUnsafe_4cfef 16 = .ok (.if_icmp .ne 6, 3) := by decide +kernel
theorem dJ2_indexOfCharUnsafe_4cfef_19 : decode cJ2_indexOfCharUnsafe_4cfef 19 = .ok (.iload 4, 2) := by decide +kernel
theorem dJ2_indexOfCharUnsafe_4cfef_21 : decode cJ2_indexOfCharUnsafe_4cfef 21 = .ok (.ireturn, 1) := by decide +kernel
theorem dJ2_indexOfCharUnsafe_4cfef_22 : decode cJ2_indexOfCharUnsafe_4cfef 22 = .ok (.iinc 4 1, 3) := by decide +kernel
theorem dJ2_indexOfCharUnsafe_4cfef_25 : decode cJ2_indexOfCharUnsafe_4cfef 25 = .ok (.goto (-22), 3) := by decide +kernel
theorem dJ2_indexOfCharUnsafe_4cfef_28 : decode cJ2_indexOfCharUnsafe_4cfef 28 = .ok (.iconst (-1), 1) := by decide +kernel
theorem dJ2_indexOfCharUnsafe_4cfef_29 : decode cJ2_indexOfCharUnsafe_4cfef 29 = .ok (.ireturn, 1) := by decide +kernel
theorem dJ2_indexOfSupplementary_4cfef_0 : decode cJ2_indexOfSupplementary_4cfef 0 = .ok (.iload_n 1, 1) := by decide +kernel
theorem dJ2_indexOfSupplementary_4cfef_1 : decode cJ2_indexOfSupplementary_4cfef 1 = .ok (.invokestatic 164, 3) := by decide +kernel
theorem dJ2_indexOfSupplementary_4cfef_4 : decode cJ2_indexOfSupplementary_4cfef 4 = .ok (.ifCond .eq 65, 3) := by decide +kernel
theorem dJ2_indexOfSupplementary_4cfef_7 : decode cJ2_indexOfSupplementary_4cfef 7 = .ok (.iload_n 1, 1) := by decide +kernel
theorem dJ2_indexOfSupplementary_4cfef_8 : decode cJ2_indexOfSupplementary_4cfef 8 = .ok (.invokestatic 157, 3) := by decide +kernel
theorem dJ2_indexOfSupplementary_4cfef_11 : decode cJ2_indexOfSupplementary_4cfef 11 = .ok (.istore 4, 2) := by decide +kernel
theorem dJ2_indexOfSupplementary_4cfef_13 : decode cJ2_indexOfSupplementary_4cfef 13 = .ok (.iload_n 1, 1) := by decide +kernel
theorem dJ2_indexOfSupplementary_4cfef_14 : decode cJ2_indexOfSupplementary_4cfef 14 = .ok (.invokestatic 161, 3) := by decide +kernel
theorem dJ2_indexOfSupplementary_4cfef_17 : decode cJ2_indexOfSupplementary_4cfef 17 = .ok (.istore 5, 2) := by decide +kernel
theorem dJ2_indexOfSupplementary_4cfef_19 : decode cJ2_indexOfSupplementary_4cfef 19 = .ok (.iload_n 2, 1) := by decide +kernel
theorem dJ2_indexOfSupplementary_4cfef_20 : decode cJ2_indexOfSupplementary_4cfef 20 = .ok (.iload_n 3, 1) := by decide +kernel
theorem dJ2_indexOfSupplementary_4cfef_21 : decode cJ2_indexOfSupplementary_4cfef 21 = .ok (.aload_n 0, 1) := by decide +kernel
theorem dJ2_indexOfSupplementary_4cfef_22 : decode cJ2_indexOfSupplementary_4cfef 22 = .ok (.invokestatic 96, 3) := by decide +kernel
theorem dJ2_indexOfSupplementary_4cfef_25 : decode cJ2_indexOfSupplementary_4cfef 25 = .ok (.iload_n 2, 1) := by decide +kernel
theorem dJ2_indexOfSupplementary_4cfef_26 : decode cJ2_indexOfSupplementary_4cfef 26 = .ok (.istore 6, 2) := by decide +kernel
theorem dJ2_indexOfSupplementary_4cfef_28 : decode cJ2_indexOfSupplementary_4cfef 28 = .ok (.iload 6, 2) := by decide +kernel
theorem dJ2_indexOfSupplementary_4cfef_30 : decode cJ2_indexOfSupplementary_4cfef 30 = .ok (.iload_n 3, 1) := by decide +kernel
theorem dJ2_indexOfSupplementary_4cfef_31 : decode cJ2_indexOfSupplementary_4cfef 31 = .ok (.iconst 1, 1) := by decide +kernel
theorem dJ2_indexOfSupplementary_4cfef_32 : decode cJ2_indexOfSupplementary_4cfef 32 = .ok (.isub, 1) := by decide +kernel
theorem dJ2_indexOfSupplementary_4cfef_33 : decode cJ2_indexOfSupplementary_4cfef 33 = .ok (.if_icmp .ge 36, 3) := by decide +kernel
theorem dJ2_indexOfSupplementary_4cfef_36 : decode cJ2_indexOfSupplementary_4cfef 36 = .ok (.aload_n 0, 1) := by decide +kernel
theorem dJ2_indexOfSupplementary_4cfef_37 : decode cJ2_indexOfSupplementary_4cfef 37 = .ok (.iload 6, 2) := by decide +kernel
theorem dJ2_indexOfSupplementary_4cfef_39 : decode cJ2_indexOfSupplementary_4cfef 39 = .ok (.invokestatic 71, 3) := by decide +kernel
theorem dJ2_indexOfSupplementary_4cfef_42 : decode cJ2_indexOfSupplementary_4cfef 42 = .ok (.iload 4, 2) := by decide +kernel
theorem dJ2_indexOfSupplementary_4cfef_44 : decode cJ2_indexOfSupplementary_4cfef 44 = .ok (.if_icmp .ne 19, 3) := by decide +kernel
theorem dJ2_indexOfSupplementary_4cfef_47 : decode cJ2_indexOfSupplementary_4cfef 47 = .ok (.aload_n 0, 1) := by decide +kernel
theorem dJ2_indexOfSupplementary_4cfef_48 : decode cJ2_indexOfSupplementary_4cfef 48 = .ok (.iload 6, 2) := by decide +kernel
theorem dJ2_indexOfSupplementary_4cfef_50 : decode cJ2_indexOfSupplementary_4cfef 50 = .ok (.iconst 1, 1) := by decide +kernel
theorem dJ2_indexOfSupplementary_4cfef_51 : decode cJ2_indexOfSupplementary_4cfef 51 = .ok (.iadd, 1) := by decide +kernel
theorem dJ2_indexOfSupplementary_4cfef_52 : decode cJ2_indexOfSupplementary_4cfef 52 = .ok (.invokestatic 71, 3) := by decide +kernel
theorem dJ2_indexOfSupplementary_4cfef_55 : decode cJ2_indexOfSupplementary_4cfef 55 = .ok (.iload 5, 2) := by decide +kernel
theorem dJ2_indexOfSupplementary_4cfef_57 : decode cJ2_indexOfSupplementary_4cfef 57 = .ok (.if_icmp .ne 6, 3) := by decide +kernel
theorem dJ2_indexOfSupplementary_4cfef_60 : decode cJ2_indexOfSupplementary_4cfef 60 = .ok (.iload 6, 2) := by decide +kernel
theorem dJ2_indexOfSupplementary_4cfef_62 : decode cJ2_indexOfSupplementary_4cfef 62 = .ok (.ireturn, 1) := by decide +kernel
theorem dJ2_indexOfSupplementary_4cfef_63 : decode cJ2_indexOfSupplementary_4cfef 63 = .ok (.iinc 6 1, 3) := by decide +kernel
theorem dJ2_indexOfSupplementary_4cfef_66 : decode cJ2_indexOfSupplementary_4cfef 66 = .ok (.goto (-38), 3) := by decide +kernel
theorem dJ2_indexOfSupplementary_4cfef_69 : decode cJ2_indexOfSupplementary_4cfef 69 = .ok (.iconst (-1), 1) := by decide +kernel
theorem dJ2_indexOfSupplementary_4cfef_70 : decode cJ2_indexOfSupplementary_4cfef 70 = .ok (.ireturn, 1) := by decide +kernel
theorem dJ2_checkBoundsBeginEnd_d044e_0 : decode cJ2_checkBoundsBeginEnd_d044e 0 = .ok (.iload_n 0, 1) := by decide +kernel
theorem dJ2_checkBoundsBeginEnd_d044e_1 : decode cJ2_checkBoundsBeginEnd_d044e 1 = .ok (.iload_n 1, 1) := by decide +kernel
theorem dJ2_checkBoundsBeginEnd_d044e_2 : decode cJ2_checkBoundsBeginEnd_d044e 2 = .ok (.aload_n 2, 1) := by decide +kernel
theorem dJ2_checkBoundsBeginEnd_d044e_3 : decode cJ2_checkBoundsBeginEnd_d044e 3 = .ok (.invokestatic 48, 3) := by decide +kernel
theorem dJ2_checkBoundsBeginEnd_d044e_6 : decode cJ2_checkBoundsBeginEnd_d044e 6 = .ok (.invokestatic 241, 3) := by decide +kernel
theorem dJ2_checkBoundsBeginEnd_d044e_9 : decode cJ2_checkBoundsBeginEnd_d044e 9 = .ok (.return_, 1) := by decide +kernel
theorem dJ3_checkFromToIndex_8c36e_0 : decode cJ3_checkFromToIndex_8c36e 0 = .ok (.iload_n 0, 1) := by decide +kernel
theorem dJ3_checkFromToIndex_8c36e_1 : decode cJ3_checkFromToIndex_8c36e 1 = .ok (.ifCond .lt 13, 3) := by decide +kernel
theorem dJ3_checkFromToIndex_8c36e_4 : decode cJ3_checkFromToIndex_8c36e 4 = .ok (.iload_n 0, 1) := by decide +kernel
theorem dJ3_checkFromToIndex_8c36e_5 : decode cJ3_checkFromToIndex_8c36e 5 = .ok (.iload_n 1, 1) := by decide +kernel
theorem dJ3_checkFromToIndex_8c36e_6 : decode cJ3_checkFromToIndex_8c36e 6 = .ok (.if_icmp .gt 8, 3) := by decide +kernel
theorem dJ3_checkFromToIndex_8c36e_9 : decode cJ3_checkFromToIndex_8c36e 9 = .ok (.iload_n 1, 1) := by decide +kernel
theorem dJ3_checkFromToIndex_8c36e_10 : decode cJ3_checkFromToIndex_8c36e 10 = .ok (.iload_n 2, 1) := by decide +kernel
theorem dJ3_checkFromToIndex_8c36e_11 : decode cJ3_checkFromToIndex_8c36e 11 = .ok (.if_icmp .le 11, 3) := by decide +kernel
theorem dJ3_checkFromToIndex_8c36e_14 : decode cJ3_checkFromToIndex_8c36e 14 = .ok (.aload_n 3, 1) := by decide +kernel
theorem dJ3_checkFromToIndex_8c36e_15 : decode cJ3_checkFromToIndex_8c36e 15 = .ok (.iload_n 0, 1) := by decide +kernel
theorem dJ3_checkFromToIndex_8c36e_16 : decode cJ3_checkFromToIndex_8c36e 16 = .ok (.iload_n 1, 1) := by decide +kernel
theorem dJ3_checkFromToIndex_8c36e_17 : decode cJ3_checkFromToIndex_8c36e 17 = .ok (.iload_n 2, 1) := by decide +kernel
theorem dJ3_checkFromToIndex_8c36e_18 : decode cJ3_checkFromToIndex_8c36e 18 = .ok (.invokestatic 99, 3) := by decide +kernel
theorem dJ3_checkFromToIndex_8c36e_21 : decode cJ3_checkFromToIndex_8c36e 21 = .ok (.athrow, 1) := by decide +kernel
theorem dJ3_checkFromToIndex_8c36e_22 : decode cJ3_checkFromToIndex_8c36e 22 = .ok (.iload_n 0, 1) := by decide +kernel
theorem dJ3_checkFromToIndex_8c36e_23 : decode cJ3_checkFromToIndex_8c36e 23 = .ok (.ireturn, 1) := by decide +kernel
theorem dL_law_0 : decode cL_law 0 = .ok (.new 7, 3) := by decide +kernel
theorem dL_law_3 : decode cL_law 3 = .ok (.dup, 1) := by decide +kernel
theorem dL_law_4 : decode cL_law 4 = .ok (.invokespecial 9, 3) := by decide +kernel
theorem dL_law_7 : decode cL_law 7 = .ok (.astore_n 1, 1) := by decide +kernel
theorem dL_law_8 : decode cL_law 8 = .ok (.new 10, 3) := by decide +kernel
theorem dL_law_11 : decode cL_law 11 = .ok (.dup, 1) := by decide +kernel
theorem dL_law_12 : decode cL_law 12 = .ok (.invokespecial 12, 3) := by decide +kernel
theorem dL_law_15 : decode cL_law 15 = .ok (.astore_n 2, 1) := by decide +kernel
theorem dL_law_16 : decode cL_law 16 = .ok (.iconst 0, 1) := by decide +kernel
theorem dL_law_17 : decode cL_law 17 = .ok (.istore_n 3, 1) := by decide +kernel
theorem dL_law_18 : decode cL_law 18 = .ok (.iload_n 3, 1) := by decide +kernel
theorem dL_law_19 : decode cL_law 19 = .ok (.aload_n 0, 1) := by decide +kernel
theorem dL_law_20 : decode cL_law 20 = .ok (.arraylength, 1) := by decide +kernel
theorem dL_law_21 : decode cL_law 21 = .ok (.iconst 4, 1) := by decide +kernel
theorem dL_law_22 : decode cL_law 22 = .ok (.isub, 1) := by decide +kernel
theorem dL_law_23 : decode cL_law 23 = .ok (.if_icmp .gt 777, 3) := by decide +kernel
theorem dL_law_26 : decode cL_law 26 = .ok (.aload_n 0, 1) := by decide +kernel
theorem dL_law_27 : decode cL_law 27 = .ok (.iload_n 3, 1) := by decide +kernel
theorem dL_law_28 : decode cL_law 28 = .ok (.iaload, 1) := by decide +kernel
theorem dL_law_29 : decode cL_law 29 = .ok (.bipush 31, 2) := by decide +kernel
theorem dL_law_31 : decode cL_law 31 = .ok (.iand, 1) := by decide +kernel
theorem dL_law_32 : decode cL_law 32 = .ok (.tableswitch 762 0 27 #[128, 151, 164, 197, 230, 263, 286, 319, 342, 375, 388, 411, 434, 457, 470, 493, 506, 539, 562, 575, 608, 621, 644, 657, 670, 713, 726, 739], 128) := by decide +kernel
theorem dL_law_160 : decode cL_law 160 = .ok (.aload_n 1, 1) := by decide +kernel
theorem dL_law_161 : decode cL_law 161 = .ok (.aload_n 0, 1) := by decide +kernel
theorem dL_law_162 : decode cL_law 162 = .ok (.iload_n 3, 1) := by decide +kernel
theorem dL_law_163 : decode cL_law 163 = .ok (.iconst 1, 1) := by decide +kernel
theorem dL_law_164 : decode cL_law 164 = .ok (.iadd, 1) := by decide +kernel
theorem dL_law_165 : decode cL_law 165 = .ok (.iaload, 1) := by decide +kernel
theorem dL_law_166 : decode cL_law 166 = .ok (.invokevirtual 13, 3) := by decide +kernel
theorem dL_law_169 : decode cL_law 169 = .ok (.aload_n 2, 1) := by decide +kernel
theorem dL_law_170 : decode cL_law 170 = .ok (.aload_n 0, 1) := by decide +kernel
theorem dL_law_171 : decode cL_law 171 = .ok (.iload_n 3, 1) := by decide +kernel
theorem dL_law_172 : decode cL_law 172 = .ok (.iconst 1, 1) := by decide +kernel
theorem dL_law_173 : decode cL_law 173 = .ok (.iadd, 1) := by decide +kernel
theorem dL_law_174 : decode cL_law 174 = .ok (.iaload, 1) := by decide +kernel
theorem dL_law_175 : decode cL_law 175 = .ok (.invokevirtual 17, 3) := by decide +kernel
theorem dL_law_178 : decode cL_law 178 = .ok (.if_icmp .eq 616, 3) := by decide +kernel
theorem dL_law_181 : decode cL_law 181 = .ok (.iconst 0, 1) := by decide +kernel
theorem dL_law_182 : decode cL_law 182 = .ok (.ireturn, 1) := by decide +kernel
theorem dL_law_183 : decode cL_law 183 = .ok (.aload_n 1, 1) := by decide +kernel
theorem dL_law_184 : decode cL_law 184 = .ok (.invokevirtual 18, 3) := by decide +kernel
theorem dL_law_187 : decode cL_law 187 = .ok (.aload_n 2, 1) := by decide +kernel
theorem dL_law_188 : decode cL_law 188 = .ok (.invokevirtual 22, 3) := by decide +kernel
theorem dL_law_191 : decode cL_law 191 = .ok (.if_icmp .eq 603, 3) := by decide +kernel
theorem dL_law_194 : decode cL_law 194 = .ok (.iconst 0, 1) := by decide +kernel
theorem dL_law_195 : decode cL_law 195 = .ok (.ireturn, 1) := by decide +kernel
theorem dL_law_196 : decode cL_law 196 = .ok (.aload_n 1, 1) := by decide +kernel
theorem dL_law_197 : decode cL_law 197 = .ok (.aload_n 0, 1) := by decide +kernel
theorem dL_law_198 : decode cL_law 198 = .ok (.iload_n 3, 1) := by decide +kernel
theorem dL_law_199 : decode cL_law 199 = .ok (.iconst 1, 1) := by decide +kernel
theorem dL_law_200 : decode cL_law 200 = .ok (.iadd, 1) := by decide +kernel
theorem dL_law_201 : decode cL_law 201 = .ok (.iaload, 1) := by decide +kernel
theorem dL_law_202 : decode cL_law 202 = .ok (.aload_n 0, 1) := by decide +kernel
theorem dL_law_203 : decode cL_law 203 = .ok (.iload_n 3, 1) := by decide +kernel
theorem dL_law_204 : decode cL_law 204 = .ok (.iconst 2, 1) := by decide +kernel
theorem dL_law_205 : decode cL_law 205 = .ok (.iadd, 1) := by decide +kernel
theorem dL_law_206 : decode cL_law 206 = .ok (.iaload, 1) := by decide +kernel
theorem dL_law_207 : decode cL_law 207 = .ok (.invokevirtual 23, 3) := by decide +kernel
theorem dL_law_210 : decode cL_law 210 = .ok (.aload_n 2, 1) := by decide +kernel
theorem dL_law_211 : decode cL_law 211 = .ok (.aload_n 0, 1) := by decide +kernel
theorem dL_law_212 : decode cL_law 212 = .ok (.iload_n 3, 1) := by decide +kernel
theorem dL_law_213 : decode cL_law 213 = .ok (.iconst 1, 1) := by decide +kernel
theorem dL_law_214 : decode cL_law 214 = .ok (.iadd, 1) := by decide +kernel
theorem dL_law_215 : decode cL_law 215 = .ok (.iaload, 1) := by decide +kernel
theorem dL_law_216 : decode cL_law 216 = .ok (.aload_n 0, 1) := by decide +kernel
theorem dL_law_217 : decode cL_law 217 = .ok (.iload_n 3, 1) := by decide +kernel
theorem dL_law_218 : decode cL_law 218 = .ok (.iconst 2, 1) := by decide +kernel
theorem dL_law_219 : decode cL_law 219 = .ok (.iadd, 1) := by decide +kernel
theorem dL_law_220 : decode cL_law 220 = .ok (.iaload, 1) := by decide +kernel
theorem dL_law_221 : decode cL_law 221 = .ok (.invokevirtual 27, 3) := by decide +kernel
theorem dL_law_224 : decode cL_law 224 = .ok (.if_icmp .eq 570, 3) := by decide +kernel
theorem dL_law_227 : decode cL_law 227 = .ok (.iconst 0, 1) := by decide +kernel
theorem dL_law_228 : decode cL_law 228 = .ok (.ireturn, 1) := by decide +kernel
theorem dL_law_229 : decode cL_law 229 = .ok (.aload_n 1, 1) := by decide +kernel
theorem dL_law_230 : decode cL_law 230 = .ok (.aload_n 0, 1) := by decide +kernel
theorem dL_law_231 : decode cL_law 231 = .ok (.iload_n 3, 1) := by decide +kernel
theorem dL_law_232 : decode cL_law 232 = .ok (.iconst 1, 1) := by decide +kernel
theorem dL_law_233 : decode cL_law 233 = .ok (.iadd, 1) := by decide +kernel
theorem dL_law_234 : decode cL_law 234 = .ok (.iaload, 1) := by decide +kernel
theorem dL_law_235 : decode cL_law 235 = .ok (.aload_n 0, 1) := by decide +kernel
theorem dL_law_236 : decode cL_law 236 = .ok (.iload_n 3, 1) := by decide +kernel
theorem dL_law_237 : decode cL_law 237 = .ok (.iconst 2, 1) := by decide +kernel
theorem dL_law_238 : decode cL_law 238 = .ok (.iadd, 1) := by decide +kernel
theorem dL_law_239 : decode cL_law 239 = .ok (.iaload, 1) := by decide +kernel
theorem dL_law_240 : decode cL_law 240 = .ok (.invokevirtual 28, 3) := by decide +kernel
theorem dL_law_243 : decode cL_law 243 = .ok (.aload_n 2, 1) := by decide +kernel
theorem dL_law_244 : decode cL_law 244 = .ok (.aload_n 0, 1) := by decide +kernel
theorem dL_law_245 : decode cL_law 245 = .ok (.iload_n 3, 1) := by decide +kernel
theorem dL_law_246 : decode cL_law 246 = .ok (.iconst 1, 1) := by decide +kernel
theorem dL_law_247 : decode cL_law 247 = .ok (.iadd, 1) := by decide +kernel
theorem dL_law_248 : decode cL_law 248 = .ok (.iaload, 1) := by decide +kernel
theorem dL_law_249 : decode cL_law 249 = .ok (.aload_n 0, 1) := by decide +kernel
theorem dL_law_250 : decode cL_law 250 = .ok (.iload_n 3, 1) := by decide +kernel
theorem dL_law_251 : decode cL_law 251 = .ok (.iconst 2, 1) := by decide +kernel
theorem dL_law_252 : decode cL_law 252 = .ok (.iadd, 1) := by decide +kernel
theorem dL_law_253 : decode cL_law 253 = .ok (.iaload, 1) := by decide +kernel
theorem dL_law_254 : decode cL_law 254 = .ok (.invokevirtual 31, 3) := by decide +kernel
theorem dL_law_257 : decode cL_law 257 = .ok (.if_icmp .eq 537, 3) := by decide +kernel
theorem dL_law_260 : decode cL_law 260 = .ok (.iconst 0, 1) := by decide +kernel
theorem dL_law_261 : decode cL_law 261 = .ok (.ireturn, 1) := by decide +kernel
theorem dL_law_262 : decode cL_law 262 = .ok (.aload_n 1, 1) := by decide +kernel
theorem dL_law_263 : decode cL_law 263 = .ok (.aload_n 0, 1) := by decide +kernel
theorem dL_law_264 : decode cL_law 264 = .ok (.iload_n 3, 1) := by decide +kernel
theorem dL_law_265 : decode cL_law 265 = .ok (.iconst 1, 1) := by decide +kernel
theorem dL_law_266 : decode cL_law 266 = .ok (.iadd, 1) := by decide +kernel
theorem dL_law_267 : decode cL_law 267 = .ok (.iaload, 1) := by decide +kernel
theorem dL_law_268 : decode cL_law 268 = .ok (.aload_n 0, 1) := by decide +kernel
theorem dL_law_269 : decode cL_law 269 = .ok (.iload_n 3, 1) := by decide +kernel
theorem dL_law_270 : decode cL_law 270 = .ok (.iconst 2, 1) := by decide +kernel
theorem dL_law_271 : decode cL_law 271 = .ok (.iadd, 1) := by decide +kernel
theorem dL_law_272 : decode cL_law 272 = .ok (.iaload, 1) := by decide +kernel
theorem dL_law_273 : decode cL_law 273 = .ok (.invokevirtual 32, 3) := by decide +kernel
theorem dL_law_276 : decode cL_law 276 = .ok (.aload_n 2, 1) := by decide +kernel
theorem dL_law_277 : decode cL_law 277 = .ok (.aload_n 0, 1) := by decide +kernel
theorem dL_law_278 : decode cL_law 278 = .ok (.iload_n 3, 1) := by decide +kernel
theorem dL_law_279 : decode cL_law 279 = .ok (.iconst 1, 1) := by decide +kernel
theorem dL_law_280 : decode cL_law 280 = .ok (.iadd, 1) := by decide +kernel
theorem dL_law_281 : decode cL_law 281 = .ok (.iaload, 1) := by decide +kernel
theorem dL_law_282 : decode cL_law 282 = .ok (.aload_n 0, 1) := by decide +kernel
theorem dL_law_283 : decode cL_law 283 = .ok (.iload_n 3, 1) := by decide +kernel
theorem dL_law_284 : decode cL_law 284 = .ok (.iconst 2, 1) := by decide +kernel
theorem dL_law_285 : decode cL_law 285 = .ok (.iadd, 1) := by decide +kernel
theorem dL_law_286 : decode cL_law 286 = .ok (.iaload, 1) := by decide +kernel
theorem dL_law_287 : decode cL_law 287 = .ok (.invokevirtual 35, 3) := by decide +kernel
theorem dL_law_290 : decode cL_law 290 = .ok (.if_icmp .eq 504, 3) := by decide +kernel
theorem dL_law_293 : decode cL_law 293 = .ok (.iconst 0, 1) := by decide +kernel
theorem dL_law_294 : decode cL_law 294 = .ok (.ireturn, 1) := by decide +kernel
theorem dL_law_295 : decode cL_law 295 = .ok (.aload_n 1, 1) := by decide +kernel
theorem dL_law_296 : decode cL_law 296 = .ok (.aload_n 0, 1) := by decide +kernel
theorem dL_law_297 : decode cL_law 297 = .ok (.iload_n 3, 1) := by decide +kernel
theorem dL_law_298 : decode cL_law 298 = .ok (.iconst 1, 1) := by decide +kernel
theorem dL_law_299 : decode cL_law 299 = .ok (.iadd, 1) := by decide +kernel
theorem dL_law_300 : decode cL_law 300 = .ok (.iaload, 1) := by decide +kernel
theorem dL_law_301 : decode cL_law 301 = .ok (.invokevirtual 36, 3) := by decide +kernel
theorem dL_law_304 : decode cL_law 304 = .ok (.aload_n 2, 1) := by decide +kernel
theorem dL_law_305 : decode cL_law 305 = .ok (.aload_n 0, 1) := by decide +kernel
theorem dL_law_306 : decode cL_law 306 = .ok (.iload_n 3, 1) := by decide +kernel
theorem dL_law_307 : decode cL_law 307 = .ok (.iconst 1, 1) := by decide +kernel
theorem dL_law_308 : decode cL_law 308 = .ok (.iadd, 1) := by decide +kernel
theorem dL_law_309 : decode cL_law 309 = .ok (.iaload, 1) := by decide +kernel
theorem dL_law_310 : decode cL_law 310 = .ok (.invokevirtual 39, 3) := by decide +kernel
theorem dL_law_313 : decode cL_law 313 = .ok (.if_icmp .eq 481, 3) := by decide +kernel
theorem dL_law_316 : decode cL_law 316 = .ok (.iconst 0, 1) := by decide +kernel
theorem dL_law_317 : decode cL_law 317 = .ok (.ireturn, 1) := by decide +kernel
theorem dL_law_318 : decode cL_law 318 = .ok (.aload_n 1, 1) := by decide +kernel
theorem dL_law_319 : decode cL_law 319 = .ok (.aload_n 0, 1) := by decide +kernel
theorem dL_law_320 : decode cL_law 320 = .ok (.iload_n 3, 1) := by decide +kernel
theorem dL_law_321 : decode cL_law 321 = .ok (.iconst 1, 1) := by decide +kernel
theorem dL_law_322 : decode cL_law 322 = .ok (.iadd, 1) := by decide +kernel
theorem dL_law_323 : decode cL_law 323 = .ok (.iaload, 1) := by decide +kernel
theorem dL_law_324 : decode cL_law 324 = .ok (.aload_n 0, 1) := by decide +kernel
theorem dL_law_325 : decode cL_law 325 = .ok (.iload_n 3, 1) := by decide +kernel
theorem dL_law_326 : decode cL_law 326 = .ok (.iconst 2, 1) := by decide +kernel
theorem dL_law_327 : decode cL_law 327 = .ok (.iadd, 1) := by decide +kernel
theorem dL_law_328 : decode cL_law 328 = .ok (.iaload, 1) := by decide +kernel
theorem dL_law_329 : decode cL_law 329 = .ok (.invokevirtual 40, 3) := by decide +kernel
theorem dL_law_332 : decode cL_law 332 = .ok (.aload_n 2, 1) := by decide +kernel
theorem dL_law_333 : decode cL_law 333 = .ok (.aload_n 0, 1) := by decide +kernel
theorem dL_law_334 : decode cL_law 334 = .ok (.iload_n 3, 1) := by decide +kernel
theorem dL_law_335 : decode cL_law 335 = .ok (.iconst 1, 1) := by decide +kernel
theorem dL_law_336 : decode cL_law 336 = .ok (.iadd, 1) := by decide +kernel
theorem dL_law_337 : decode cL_law 337 = .ok (.iaload, 1) := by decide +kernel
theorem dL_law_338 : decode cL_law 338 = .ok (.aload_n 0, 1) := by decide +kernel
theorem dL_law_339 : decode cL_law 339 = .ok (.iload_n 3, 1) := by decide +kernel
theorem dL_law_340 : decode cL_law 340 = .ok (.iconst 2, 1) := by decide +kernel
theorem dL_law_341 : decode cL_law 341 = .ok (.iadd, 1) := by decide +kernel
theorem dL_law_342 : decode cL_law 342 = .ok (.iaload, 1) := by decide +kernel
theorem dL_law_343 : decode cL_law 343 = .ok (.invokevirtual 43, 3) := by decide +kernel
theorem dL_law_346 : decode cL_law 346 = .ok (.if_icmp .eq 448, 3) := by decide +kernel
theorem dL_law_349 : decode cL_law 349 = .ok (.iconst 0, 1) := by decide +kernel
theorem dL_law_350 : decode cL_law 350 = .ok (.ireturn, 1) := by decide +kernel
theorem dL_law_351 : decode cL_law 351 = .ok (.aload_n 1, 1) := by decide +kernel
theorem dL_law_352 : decode cL_law 352 = .ok (.aload_n 0, 1) := by decide +kernel
theorem dL_law_353 : decode cL_law 353 = .ok (.iload_n 3, 1) := by decide +kernel
theorem dL_law_354 : decode cL_law 354 = .ok (.iconst 1, 1) := by decide +kernel
theorem dL_law_355 : decode cL_law 355 = .ok (.iadd, 1) := by decide +kernel
theorem dL_law_356 : decode cL_law 356 = .ok (.iaload, 1) := by decide +kernel
theorem dL_law_357 : decode cL_law 357 = .ok (.invokevirtual 44, 3) := by decide +kernel
theorem dL_law_360 : decode cL_law 360 = .ok (.aload_n 2, 1) := by decide +kernel
theorem dL_law_361 : decode cL_law 361 = .ok (.aload_n 0, 1) := by decide +kernel
theorem dL_law_362 : decode cL_law 362 = .ok (.iload_n 3, 1) := by decide +kernel
theorem dL_law_363 : decode cL_law 363 = .ok (.iconst 1, 1) := by decide +kernel
theorem dL_law_364 : decode cL_law 364 = .ok (.iadd, 1) := by decide +kernel
theorem dL_law_365 : decode cL_law 365 = .ok (.iaload, 1) := by decide +kernel
theorem dL_law_366 : decode cL_law 366 = .ok (.invokevirtual 47, 3) := by decide +kernel
theorem dL_law_369 : decode cL_law 369 = .ok (.if_icmp .eq 425, 3) := by decide +kernel
theorem dL_law_372 : decode cL_law 372 = .ok (.iconst 0, 1) := by decide +kernel
theorem dL_law_373 : decode cL_law 373 = .ok (.ireturn, 1) := by decide +kernel
theorem dL_law_374 : decode cL_law 374 = .ok (.aload_n 1, 1) := by decide +kernel
theorem dL_law_375 : decode cL_law 375 = .ok (.aload_n 0, 1) := by decide +kernel
theorem dL_law_376 : decode cL_law 376 = .ok (.iload_n 3, 1) := by decide +kernel
theorem dL_law_377 : decode cL_law 377 = .ok (.iconst 1, 1) := by decide +kernel
theorem dL_law_378 : decode cL_law 378 = .ok (.iadd, 1) := by decide +kernel
theorem dL_law_379 : decode cL_law 379 = .ok (.iaload, 1) := by decide +kernel
theorem dL_law_380 : decode cL_law 380 = .ok (.aload_n 0, 1) := by decide +kernel
theorem dL_law_381 : decode cL_law 381 = .ok (.iload_n 3, 1) := by decide +kernel
theorem dL_law_382 : decode cL_law 382 = .ok (.iconst 2, 1) := by decide +kernel
theorem dL_law_383 : decode cL_law 383 = .ok (.iadd, 1) := by decide +kernel
theorem dL_law_384 : decode cL_law 384 = .ok (.iaload, 1) := by decide +kernel
theorem dL_law_385 : decode cL_law 385 = .ok (.invokevirtual 48, 3) := by decide +kernel
theorem dL_law_388 : decode cL_law 388 = .ok (.aload_n 2, 1) := by decide +kernel
theorem dL_law_389 : decode cL_law 389 = .ok (.aload_n 0, 1) := by decide +kernel
theorem dL_law_390 : decode cL_law 390 = .ok (.iload_n 3, 1) := by decide +kernel
theorem dL_law_391 : decode cL_law 391 = .ok (.iconst 1, 1) := by decide +kernel
theorem dL_law_392 : decode cL_law 392 = .ok (.iadd, 1) := by decide +kernel
theorem dL_law_393 : decode cL_law 393 = .ok (.iaload, 1) := by decide +kernel
theorem dL_law_394 : decode cL_law 394 = .ok (.aload_n 0, 1) := by decide +kernel
theorem dL_law_395 : decode cL_law 395 = .ok (.iload_n 3, 1) := by decide +kernel
theorem dL_law_396 : decode cL_law 396 = .ok (.iconst 2, 1) := by decide +kernel
theorem dL_law_397 : decode cL_law 397 = .ok (.iadd, 1) := by decide +kernel
theorem dL_law_398 : decode cL_law 398 = .ok (.iaload, 1) := by decide +kernel
theorem dL_law_399 : decode cL_law 399 = .ok (.invokevirtual 51, 3) := by decide +kernel
theorem dL_law_402 : decode cL_law 402 = .ok (.if_icmp .eq 392, 3) := by decide +kernel
theorem dL_law_405 : decode cL_law 405 = .ok (.iconst 0, 1) := by decide +kernel
theorem dL_law_406 : decode cL_law 406 = .ok (.ireturn, 1) := by decide +kernel
theorem dL_law_407 : decode cL_law 407 = .ok (.aload_n 1, 1) := by decide +kernel
theorem dL_law_408 : decode cL_law 408 = .ok (.invokevirtual 52, 3) := by decide +kernel
theorem dL_law_411 : decode cL_law 411 = .ok (.aload_n 2, 1) := by decide +kernel
theorem dL_law_412 : decode cL_law 412 = .ok (.invokevirtual 55, 3) := by decide +kernel
theorem dL_law_415 : decode cL_law 415 = .ok (.if_icmp .eq 379, 3) := by decide +kernel
theorem dL_law_418 : decode cL_law 418 = .ok (.iconst 0, 1) := by decide +kernel
theorem dL_law_419 : decode cL_law 419 = .ok (.ireturn, 1) := by decide +kernel
theorem dL_law_420 : decode cL_law 420 = .ok (.aload_n 1, 1) := by decide +kernel
theorem dL_law_421 : decode cL_law 421 = .ok (.aload_n 0, 1) := by decide +kernel
theorem dL_law_422 : decode cL_law 422 = .ok (.iload_n 3, 1) := by decide +kernel
theorem dL_law_423 : decode cL_law 423 = .ok (.iconst 1, 1) := by decide +kernel
theorem dL_law_424 : decode cL_law 424 = .ok (.iadd, 1) := by decide +kernel
theorem dL_law_425 : decode cL_law 425 = .ok (.iaload, 1) := by decide +kernel
theorem dL_law_426 : decode cL_law 426 = .ok (.invokevirtual 56, 3) := by decide +kernel
theorem dL_law_429 : decode cL_law 429 = .ok (.aload_n 2, 1) := by decide +kernel
theorem dL_law_430 : decode cL_law 430 = .ok (.aload_n 0, 1) := by decide +kernel
theorem dL_law_431 : decode cL_law 431 = .ok (.iload_n 3, 1) := by decide +kernel
theorem dL_law_432 : decode cL_law 432 = .ok (.iconst 1, 1) := by decide +kernel
theorem dL_law_433 : decode cL_law 433 = .ok (.iadd, 1) := by decide +kernel
theorem dL_law_434 : decode cL_law 434 = .ok (.iaload, 1) := by decide +kernel
theorem dL_law_435 : decode cL_law 435 = .ok (.invokevirtual 59, 3) := by decide +kernel
theorem dL_law_438 : decode cL_law 438 = .ok (.if_icmp .eq 356, 3) := by decide +kernel
theorem dL_law_441 : decode cL_law 441 = .ok (.iconst 0, 1) := by decide +kernel
theorem dL_law_442 : decode cL_law 442 = .ok (.ireturn, 1) := by decide +kernel
theorem dL_law_443 : decode cL_law 443 = .ok (.aload_n 1, 1) := by decide +kernel
theorem dL_law_444 : decode cL_law 444 = .ok (.aload_n 0, 1) := by decide +kernel
theorem dL_law_445 : decode cL_law 445 = .ok (.iload_n 3, 1) := by decide +kernel
theorem dL_law_446 : decode cL_law 446 = .ok (.iconst 1, 1) := by decide +kernel
theorem dL_law_447 : decode cL_law 447 = .ok (.iadd, 1) := by decide +kernel
theorem dL_law_448 : decode cL_law 448 = .ok (.iaload, 1) := by decide +kernel
theorem dL_law_449 : decode cL_law 449 = .ok (.invokevirtual 60, 3) := by decide +kernel
theorem dL_law_452 : decode cL_law 452 = .ok (.aload_n 2, 1) := by decide +kernel
theorem dL_law_453 : decode cL_law 453 = .ok (.aload_n 0, 1) := by decide +kernel
theorem dL_law_454 : decode cL_law 454 = .ok (.iload_n 3, 1) := by decide +kernel
theorem dL_law_455 : decode cL_law 455 = .ok (.iconst 1, 1) := by decide +kernel
theorem dL_law_456 : decode cL_law 456 = .ok (.iadd, 1) := by decide +kernel
theorem dL_law_457 : decode cL_law 457 = .ok (.iaload, 1) := by decide +kernel
theorem dL_law_458 : decode cL_law 458 = .ok (.invokevirtual 63, 3) := by decide +kernel
theorem dL_law_461 : decode cL_law 461 = .ok (.if_icmp .eq 333, 3) := by decide +kernel
theorem dL_law_464 : decode cL_law 464 = .ok (.iconst 0, 1) := by decide +kernel
theorem dL_law_465 : decode cL_law 465 = .ok (.ireturn, 1) := by decide +kernel
theorem dL_law_466 : decode cL_law 466 = .ok (.aload_n 1, 1) := by decide +kernel
theorem dL_law_467 : decode cL_law 467 = .ok (.aload_n 0, 1) := by decide +kernel
theorem dL_law_468 : decode cL_law 468 = .ok (.iload_n 3, 1) := by decide +kernel
theorem dL_law_469 : decode cL_law 469 = .ok (.iconst 1, 1) := by decide +kernel
theorem dL_law_470 : decode cL_law 470 = .ok (.iadd, 1) := by decide +kernel
theorem dL_law_471 : decode cL_law 471 = .ok (.iaload, 1) := by decide +kernel
theorem dL_law_472 : decode cL_law 472 = .ok (.invokevirtual 64, 3) := by decide +kernel
theorem dL_law_475 : decode cL_law 475 = .ok (.aload_n 2, 1) := by decide +kernel
theorem dL_law_476 : decode cL_law 476 = .ok (.aload_n 0, 1) := by decide +kernel
theorem dL_law_477 : decode cL_law 477 = .ok (.iload_n 3, 1) := by decide +kernel
theorem dL_law_478 : decode cL_law 478 = .ok (.iconst 1, 1) := by decide +kernel
theorem dL_law_479 : decode cL_law 479 = .ok (.iadd, 1) := by decide +kernel
theorem dL_law_480 : decode cL_law 480 = .ok (.iaload, 1) := by decide +kernel
theorem dL_law_481 : decode cL_law 481 = .ok (.invokevirtual 67, 3) := by decide +kernel
theorem dL_law_484 : decode cL_law 484 = .ok (.if_icmp .eq 310, 3) := by decide +kernel
theorem dL_law_487 : decode cL_law 487 = .ok (.iconst 0, 1) := by decide +kernel
theorem dL_law_488 : decode cL_law 488 = .ok (.ireturn, 1) := by decide +kernel
theorem dL_law_489 : decode cL_law 489 = .ok (.aload_n 1, 1) := by decide +kernel
theorem dL_law_490 : decode cL_law 490 = .ok (.invokevirtual 68, 3) := by decide +kernel
theorem dL_law_493 : decode cL_law 493 = .ok (.aload_n 2, 1) := by decide +kernel
theorem dL_law_494 : decode cL_law 494 = .ok (.invokevirtual 71, 3) := by decide +kernel
theorem dL_law_497 : decode cL_law 497 = .ok (.if_icmp .eq 297, 3) := by decide +kernel
theorem dL_law_500 : decode cL_law 500 = .ok (.iconst 0, 1) := by decide +kernel
theorem dL_law_501 : decode cL_law 501 = .ok (.ireturn, 1) := by decide +kernel
theorem dL_law_502 : decode cL_law 502 = .ok (.aload_n 1, 1) := by decide +kernel
theorem dL_law_503 : decode cL_law 503 = .ok (.aload_n 0, 1) := by decide +kernel
theorem dL_law_504 : decode cL_law 504 = .ok (.iload_n 3, 1) := by decide +kernel
theorem dL_law_505 : decode cL_law 505 = .ok (.iconst 1, 1) := by decide +kernel
theorem dL_law_506 : decode cL_law 506 = .ok (.iadd, 1) := by decide +kernel
theorem dL_law_507 : decode cL_law 507 = .ok (.iaload, 1) := by decide +kernel
theorem dL_law_508 : decode cL_law 508 = .ok (.invokevirtual 72, 3) := by decide +kernel
theorem dL_law_511 : decode cL_law 511 = .ok (.aload_n 2, 1) := by decide +kernel
theorem dL_law_512 : decode cL_law 512 = .ok (.aload_n 0, 1) := by decide +kernel
theorem dL_law_513 : decode cL_law 513 = .ok (.iload_n 3, 1) := by decide +kernel
theorem dL_law_514 : decode cL_law 514 = .ok (.iconst 1, 1) := by decide +kernel
theorem dL_law_515 : decode cL_law 515 = .ok (.iadd, 1) := by decide +kernel
theorem dL_law_516 : decode cL_law 516 = .ok (.iaload, 1) := by decide +kernel
theorem dL_law_517 : decode cL_law 517 = .ok (.invokevirtual 75, 3) := by decide +kernel
theorem dL_law_520 : decode cL_law 520 = .ok (.if_icmp .eq 274, 3) := by decide +kernel
theorem dL_law_523 : decode cL_law 523 = .ok (.iconst 0, 1) := by decide +kernel
theorem dL_law_524 : decode cL_law 524 = .ok (.ireturn, 1) := by decide +kernel
theorem dL_law_525 : decode cL_law 525 = .ok (.aload_n 1, 1) := by decide +kernel
theorem dL_law_526 : decode cL_law 526 = .ok (.invokevirtual 76, 3) := by decide +kernel
theorem dL_law_529 : decode cL_law 529 = .ok (.aload_n 2, 1) := by decide +kernel
theorem dL_law_530 : decode cL_law 530 = .ok (.invokevirtual 79, 3) := by decide +kernel
theorem dL_law_533 : decode cL_law 533 = .ok (.if_icmp .eq 261, 3) := by decide +kernel
theorem dL_law_536 : decode cL_law 536 = .ok (.iconst 0, 1) := by decide +kernel
theorem dL_law_537 : decode cL_law 537 = .ok (.ireturn, 1) := by decide +kernel
theorem dL_law_538 : decode cL_law 538 = .ok (.aload_n 1, 1) := by decide +kernel
theorem dL_law_539 : decode cL_law 539 = .ok (.aload_n 0, 1) := by decide +kernel
theorem dL_law_540 : decode cL_law 540 = .ok (.iload_n 3, 1) := by decide +kernel
theorem dL_law_541 : decode cL_law 541 = .ok (.iconst 1, 1) := by decide +kernel
theorem dL_law_542 : decode cL_law 542 = .ok (.iadd, 1) := by decide +kernel
theorem dL_law_543 : decode cL_law 543 = .ok (.iaload, 1) := by decide +kernel
theorem dL_law_544 : decode cL_law 544 = .ok (.aload_n 0, 1) := by decide +kernel
theorem dL_law_545 : decode cL_law 545 = .ok (.iload_n 3, 1) := by decide +kernel
theorem dL_law_546 : decode cL_law 546 = .ok (.iconst 2, 1) := by decide +kernel
theorem dL_law_547 : decode cL_law 547 = .ok (.iadd, 1) := by decide +kernel
theorem dL_law_548 : decode cL_law 548 = .ok (.iaload, 1) := by decide +kernel
theorem dL_law_549 : decode cL_law 549 = .ok (.invokevirtual 80, 3) := by decide +kernel
theorem dL_law_552 : decode cL_law 552 = .ok (.aload_n 2, 1) := by decide +kernel
theorem dL_law_553 : decode cL_law 553 = .ok (.aload_n 0, 1) := by decide +kernel
theorem dL_law_554 : decode cL_law 554 = .ok (.iload_n 3, 1) := by decide +kernel
theorem dL_law_555 : decode cL_law 555 = .ok (.iconst 1, 1) := by decide +kernel
theorem dL_law_556 : decode cL_law 556 = .ok (.iadd, 1) := by decide +kernel
theorem dL_law_557 : decode cL_law 557 = .ok (.iaload, 1) := by decide +kernel
theorem dL_law_558 : decode cL_law 558 = .ok (.aload_n 0, 1) := by decide +kernel
theorem dL_law_559 : decode cL_law 559 = .ok (.iload_n 3, 1) := by decide +kernel
theorem dL_law_560 : decode cL_law 560 = .ok (.iconst 2, 1) := by decide +kernel
theorem dL_law_561 : decode cL_law 561 = .ok (.iadd, 1) := by decide +kernel
theorem dL_law_562 : decode cL_law 562 = .ok (.iaload, 1) := by decide +kernel
theorem dL_law_563 : decode cL_law 563 = .ok (.invokevirtual 83, 3) := by decide +kernel
theorem dL_law_566 : decode cL_law 566 = .ok (.if_icmp .eq 228, 3) := by decide +kernel
theorem dL_law_569 : decode cL_law 569 = .ok (.iconst 0, 1) := by decide +kernel
theorem dL_law_570 : decode cL_law 570 = .ok (.ireturn, 1) := by decide +kernel
theorem dL_law_571 : decode cL_law 571 = .ok (.aload_n 1, 1) := by decide +kernel
theorem dL_law_572 : decode cL_law 572 = .ok (.aload_n 0, 1) := by decide +kernel
theorem dL_law_573 : decode cL_law 573 = .ok (.iload_n 3, 1) := by decide +kernel
theorem dL_law_574 : decode cL_law 574 = .ok (.iconst 1, 1) := by decide +kernel
theorem dL_law_575 : decode cL_law 575 = .ok (.iadd, 1) := by decide +kernel
theorem dL_law_576 : decode cL_law 576 = .ok (.iaload, 1) := by decide +kernel
theorem dL_law_577 : decode cL_law 577 = .ok (.invokevirtual 84, 3) := by decide +kernel
theorem dL_law_580 : decode cL_law 580 = .ok (.aload_n 2, 1) := by decide +kernel
theorem dL_law_581 : decode cL_law 581 = .ok (.aload_n 0, 1) := by decide +kernel
theorem dL_law_582 : decode cL_law 582 = .ok (.iload_n 3, 1) := by decide +kernel
theorem dL_law_583 : decode cL_law 583 = .ok (.iconst 1, 1) := by decide +kernel
theorem dL_law_584 : decode cL_law 584 = .ok (.iadd, 1) := by decide +kernel
theorem dL_law_585 : decode cL_law 585 = .ok (.iaload, 1) := by decide +kernel
theorem dL_law_586 : decode cL_law 586 = .ok (.invokevirtual 87, 3) := by decide +kernel
theorem dL_law_589 : decode cL_law 589 = .ok (.if_icmp .eq 205, 3) := by decide +kernel
theorem dL_law_592 : decode cL_law 592 = .ok (.iconst 0, 1) := by decide +kernel
theorem dL_law_593 : decode cL_law 593 = .ok (.ireturn, 1) := by decide +kernel
theorem dL_law_594 : decode cL_law 594 = .ok (.aload_n 1, 1) := by decide +kernel
theorem dL_law_595 : decode cL_law 595 = .ok (.invokevirtual 88, 3) := by decide +kernel
theorem dL_law_598 : decode cL_law 598 = .ok (.aload_n 2, 1) := by decide +kernel
theorem dL_law_599 : decode cL_law 599 = .ok (.invokevirtual 91, 3) := by decide +kernel
theorem dL_law_602 : decode cL_law 602 = .ok (.if_icmp .eq 192, 3) := by decide +kernel
theorem dL_law_605 : decode cL_law 605 = .ok (.iconst 0, 1) := by decide +kernel
theorem dL_law_606 : decode cL_law 606 = .ok (.ireturn, 1) := by decide +kernel
theorem dL_law_607 : decode cL_law 607 = .ok (.aload_n 1, 1) := by decide +kernel
theorem dL_law_608 : decode cL_law 608 = .ok (.aload_n 0, 1) := by decide +kernel
theorem dL_law_609 : decode cL_law 609 = .ok (.iload_n 3, 1) := by decide +kernel
theorem dL_law_610 : decode cL_law 610 = .ok (.iconst 1, 1) := by decide +kernel
theorem dL_law_611 : decode cL_law 611 = .ok (.iadd, 1) := by decide +kernel
theorem dL_law_612 : decode cL_law 612 = .ok (.iaload, 1) := by decide +kernel
theorem dL_law_613 : decode cL_law 613 = .ok (.aload_n 0, 1) := by decide +kernel
theorem dL_law_614 : decode cL_law 614 = .ok (.iload_n 3, 1) := by decide +kernel
theorem dL_law_615 : decode cL_law 615 = .ok (.iconst 2, 1) := by decide +kernel
theorem dL_law_616 : decode cL_law 616 = .ok (.iadd, 1) := by decide +kernel
theorem dL_law_617 : decode cL_law 617 = .ok (.iaload, 1) := by decide +kernel
theorem dL_law_618 : decode cL_law 618 = .ok (.invokevirtual 92, 3) := by decide +kernel
theorem dL_law_621 : decode cL_law 621 = .ok (.aload_n 2, 1) := by decide +kernel
theorem dL_law_622 : decode cL_law 622 = .ok (.aload_n 0, 1) := by decide +kernel
theorem dL_law_623 : decode cL_law 623 = .ok (.iload_n 3, 1) := by decide +kernel
theorem dL_law_624 : decode cL_law 624 = .ok (.iconst 1, 1) := by decide +kernel
theorem dL_law_625 : decode cL_law 625 = .ok (.iadd, 1) := by decide +kernel
theorem dL_law_626 : decode cL_law 626 = .ok (.iaload, 1) := by decide +kernel
theorem dL_law_627 : decode cL_law 627 = .ok (.aload_n 0, 1) := by decide +kernel
theorem dL_law_628 : decode cL_law 628 = .ok (.iload_n 3, 1) := by decide +kernel
theorem dL_law_629 : decode cL_law 629 = .ok (.iconst 2, 1) := by decide +kernel
theorem dL_law_630 : decode cL_law 630 = .ok (.iadd, 1) := by decide +kernel
theorem dL_law_631 : decode cL_law 631 = .ok (.iaload, 1) := by decide +kernel
theorem dL_law_632 : decode cL_law 632 = .ok (.invokevirtual 95, 3) := by decide +kernel
theorem dL_law_635 : decode cL_law 635 = .ok (.if_icmp .eq 159, 3) := by decide +kernel
theorem dL_law_638 : decode cL_law 638 = .ok (.iconst 0, 1) := by decide +kernel
theorem dL_law_639 : decode cL_law 639 = .ok (.ireturn, 1) := by decide +kernel
theorem dL_law_640 : decode cL_law 640 = .ok (.aload_n 1, 1) := by decide +kernel
theorem dL_law_641 : decode cL_law 641 = .ok (.invokevirtual 96, 3) := by decide +kernel
theorem dL_law_644 : decode cL_law 644 = .ok (.aload_n 2, 1) := by decide +kernel
theorem dL_law_645 : decode cL_law 645 = .ok (.invokevirtual 99, 3) := by decide +kernel
theorem dL_law_648 : decode cL_law 648 = .ok (.if_icmp .eq 146, 3) := by decide +kernel
theorem dL_law_651 : decode cL_law 651 = .ok (.iconst 0, 1) := by decide +kernel
theorem dL_law_652 : decode cL_law 652 = .ok (.ireturn, 1) := by decide +kernel
theorem dL_law_653 : decode cL_law 653 = .ok (.aload_n 1, 1) := by decide +kernel
theorem dL_law_654 : decode cL_law 654 = .ok (.aload_n 0, 1) := by decide +kernel
theorem dL_law_655 : decode cL_law 655 = .ok (.iload_n 3, 1) := by decide +kernel
theorem dL_law_656 : decode cL_law 656 = .ok (.iconst 1, 1) := by decide +kernel
theorem dL_law_657 : decode cL_law 657 = .ok (.iadd, 1) := by decide +kernel
theorem dL_law_658 : decode cL_law 658 = .ok (.iaload, 1) := by decide +kernel
theorem dL_law_659 : decode cL_law 659 = .ok (.invokevirtual 100, 3) := by decide +kernel
theorem dL_law_662 : decode cL_law 662 = .ok (.aload_n 2, 1) := by decide +kernel
theorem dL_law_663 : decode cL_law 663 = .ok (.aload_n 0, 1) := by decide +kernel
theorem dL_law_664 : decode cL_law 664 = .ok (.iload_n 3, 1) := by decide +kernel
theorem dL_law_665 : decode cL_law 665 = .ok (.iconst 1, 1) := by decide +kernel
theorem dL_law_666 : decode cL_law 666 = .ok (.iadd, 1) := by decide +kernel
theorem dL_law_667 : decode cL_law 667 = .ok (.iaload, 1) := by decide +kernel
theorem dL_law_668 : decode cL_law 668 = .ok (.invokevirtual 103, 3) := by decide +kernel
theorem dL_law_671 : decode cL_law 671 = .ok (.if_icmp .eq 123, 3) := by decide +kernel
theorem dL_law_674 : decode cL_law 674 = .ok (.iconst 0, 1) := by decide +kernel
theorem dL_law_675 : decode cL_law 675 = .ok (.ireturn, 1) := by decide +kernel
theorem dL_law_676 : decode cL_law 676 = .ok (.aload_n 1, 1) := by decide +kernel
theorem dL_law_677 : decode cL_law 677 = .ok (.invokevirtual 104, 3) := by decide +kernel
theorem dL_law_680 : decode cL_law 680 = .ok (.aload_n 2, 1) := by decide +kernel
theorem dL_law_681 : decode cL_law 681 = .ok (.invokevirtual 107, 3) := by decide +kernel
theorem dL_law_684 : decode cL_law 684 = .ok (.if_icmp .eq 110, 3) := by decide +kernel
theorem dL_law_687 : decode cL_law 687 = .ok (.iconst 0, 1) := by decide +kernel
theorem dL_law_688 : decode cL_law 688 = .ok (.ireturn, 1) := by decide +kernel
theorem dL_law_689 : decode cL_law 689 = .ok (.aload_n 1, 1) := by decide +kernel
theorem dL_law_690 : decode cL_law 690 = .ok (.invokevirtual 108, 3) := by decide +kernel
theorem dL_law_693 : decode cL_law 693 = .ok (.aload_n 2, 1) := by decide +kernel
theorem dL_law_694 : decode cL_law 694 = .ok (.invokevirtual 111, 3) := by decide +kernel
theorem dL_law_697 : decode cL_law 697 = .ok (.if_icmp .eq 97, 3) := by decide +kernel
theorem dL_law_700 : decode cL_law 700 = .ok (.iconst 0, 1) := by decide +kernel
theorem dL_law_701 : decode cL_law 701 = .ok (.ireturn, 1) := by decide +kernel
theorem dL_law_702 : decode cL_law 702 = .ok (.aload_n 1, 1) := by decide +kernel
theorem dL_law_703 : decode cL_law 703 = .ok (.aload_n 0, 1) := by decide +kernel
theorem dL_law_704 : decode cL_law 704 = .ok (.iload_n 3, 1) := by decide +kernel
theorem dL_law_705 : decode cL_law 705 = .ok (.iconst 1, 1) := by decide +kernel
theorem dL_law_706 : decode cL_law 706 = .ok (.iadd, 1) := by decide +kernel
theorem dL_law_707 : decode cL_law 707 = .ok (.iaload, 1) := by decide +kernel
theorem dL_law_708 : decode cL_law 708 = .ok (.aload_n 0, 1) := by decide +kernel
theorem dL_law_709 : decode cL_law 709 = .ok (.iload_n 3, 1) := by decide +kernel
theorem dL_law_710 : decode cL_law 710 = .ok (.iconst 2, 1) := by decide +kernel
theorem dL_law_711 : decode cL_law 711 = .ok (.iadd, 1) := by decide +kernel
theorem dL_law_712 : decode cL_law 712 = .ok (.iaload, 1) := by decide +kernel
theorem dL_law_713 : decode cL_law 713 = .ok (.aload_n 0, 1) := by decide +kernel
theorem dL_law_714 : decode cL_law 714 = .ok (.iload_n 3, 1) := by decide +kernel
theorem dL_law_715 : decode cL_law 715 = .ok (.iconst 3, 1) := by decide +kernel
theorem dL_law_716 : decode cL_law 716 = .ok (.iadd, 1) := by decide +kernel
theorem dL_law_717 : decode cL_law 717 = .ok (.iaload, 1) := by decide +kernel
theorem dL_law_718 : decode cL_law 718 = .ok (.invokevirtual 112, 3) := by decide +kernel
theorem dL_law_721 : decode cL_law 721 = .ok (.aload_n 2, 1) := by decide +kernel
theorem dL_law_722 : decode cL_law 722 = .ok (.aload_n 0, 1) := by decide +kernel
theorem dL_law_723 : decode cL_law 723 = .ok (.iload_n 3, 1) := by decide +kernel
theorem dL_law_724 : decode cL_law 724 = .ok (.iconst 1, 1) := by decide +kernel
theorem dL_law_725 : decode cL_law 725 = .ok (.iadd, 1) := by decide +kernel
theorem dL_law_726 : decode cL_law 726 = .ok (.iaload, 1) := by decide +kernel
theorem dL_law_727 : decode cL_law 727 = .ok (.aload_n 0, 1) := by decide +kernel
theorem dL_law_728 : decode cL_law 728 = .ok (.iload_n 3, 1) := by decide +kernel
theorem dL_law_729 : decode cL_law 729 = .ok (.iconst 2, 1) := by decide +kernel
theorem dL_law_730 : decode cL_law 730 = .ok (.iadd, 1) := by decide +kernel
theorem dL_law_731 : decode cL_law 731 = .ok (.iaload, 1) := by decide +kernel
theorem dL_law_732 : decode cL_law 732 = .ok (.aload_n 0, 1) := by decide +kernel
theorem dL_law_733 : decode cL_law 733 = .ok (.iload_n 3, 1) := by decide +kernel
theorem dL_law_734 : decode cL_law 734 = .ok (.iconst 3, 1) := by decide +kernel
theorem dL_law_735 : decode cL_law 735 = .ok (.iadd, 1) := by decide +kernel
theorem dL_law_736 : decode cL_law 736 = .ok (.iaload, 1) := by decide +kernel
theorem dL_law_737 : decode cL_law 737 = .ok (.invokevirtual 116, 3) := by decide +kernel
theorem dL_law_740 : decode cL_law 740 = .ok (.if_icmp .eq 54, 3) := by decide +kernel
theorem dL_law_743 : decode cL_law 743 = .ok (.iconst 0, 1) := by decide +kernel
theorem dL_law_744 : decode cL_law 744 = .ok (.ireturn, 1) := by decide +kernel
theorem dL_law_745 : decode cL_law 745 = .ok (.aload_n 1, 1) := by decide +kernel
theorem dL_law_746 : decode cL_law 746 = .ok (.invokevirtual 117, 3) := by decide +kernel
theorem dL_law_749 : decode cL_law 749 = .ok (.aload_n 2, 1) := by decide +kernel
theorem dL_law_750 : decode cL_law 750 = .ok (.invokevirtual 120, 3) := by decide +kernel
theorem dL_law_753 : decode cL_law 753 = .ok (.if_icmp .eq 41, 3) := by decide +kernel
theorem dL_law_756 : decode cL_law 756 = .ok (.iconst 0, 1) := by decide +kernel
theorem dL_law_757 : decode cL_law 757 = .ok (.ireturn, 1) := by decide +kernel
theorem dL_law_758 : decode cL_law 758 = .ok (.aload_n 1, 1) := by decide +kernel
theorem dL_law_759 : decode cL_law 759 = .ok (.invokevirtual 121, 3) := by decide +kernel
theorem dL_law_762 : decode cL_law 762 = .ok (.aload_n 2, 1) := by decide +kernel
theorem dL_law_763 : decode cL_law 763 = .ok (.invokevirtual 124, 3) := by decide +kernel
theorem dL_law_766 : decode cL_law 766 = .ok (.if_icmp .eq 28, 3) := by decide +kernel
theorem dL_law_769 : decode cL_law 769 = .ok (.iconst 0, 1) := by decide +kernel
theorem dL_law_770 : decode cL_law 770 = .ok (.ireturn, 1) := by decide +kernel
theorem dL_law_771 : decode cL_law 771 = .ok (.aload_n 1, 1) := by decide +kernel
theorem dL_law_772 : decode cL_law 772 = .ok (.aload_n 0, 1) := by decide +kernel
theorem dL_law_773 : decode cL_law 773 = .ok (.iload_n 3, 1) := by decide +kernel
theorem dL_law_774 : decode cL_law 774 = .ok (.iconst 1, 1) := by decide +kernel
theorem dL_law_775 : decode cL_law 775 = .ok (.iadd, 1) := by decide +kernel
theorem dL_law_776 : decode cL_law 776 = .ok (.iaload, 1) := by decide +kernel
theorem dL_law_777 : decode cL_law 777 = .ok (.invokevirtual 125, 3) := by decide +kernel
theorem dL_law_780 : decode cL_law 780 = .ok (.aload_n 2, 1) := by decide +kernel
theorem dL_law_781 : decode cL_law 781 = .ok (.aload_n 0, 1) := by decide +kernel
theorem dL_law_782 : decode cL_law 782 = .ok (.iload_n 3, 1) := by decide +kernel
theorem dL_law_783 : decode cL_law 783 = .ok (.iconst 1, 1) := by decide +kernel
theorem dL_law_784 : decode cL_law 784 = .ok (.iadd, 1) := by decide +kernel
theorem dL_law_785 : decode cL_law 785 = .ok (.iaload, 1) := by decide +kernel
theorem dL_law_786 : decode cL_law 786 = .ok (.invokevirtual 128, 3) := by decide +kernel
theorem dL_law_789 : decode cL_law 789 = .ok (.if_icmp .eq 5, 3) := by decide +kernel
theorem dL_law_792 : decode cL_law 792 = .ok (.iconst 0, 1) := by decide +kernel
theorem dL_law_793 : decode cL_law 793 = .ok (.ireturn, 1) := by decide +kernel
theorem dL_law_794 : decode cL_law 794 = .ok (.iinc 3 4, 3) := by decide +kernel
theorem dL_law_797 : decode cL_law 797 = .ok (.goto (-779), 3) := by decide +kernel
theorem dL_law_800 : decode cL_law 800 = .ok (.iconst 1, 1) := by decide +kernel
theorem dL_law_801 : decode cL_law 801 = .ok (.ireturn, 1) := by decide +kernel
