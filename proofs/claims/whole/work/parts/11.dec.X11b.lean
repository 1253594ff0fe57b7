theorem dX11_ticks_41 : decode cX11_ticks 41 = .ok (.getfield 7, 3) := by decide +kernel
theorem dX11_ticks_44 : decode cX11_ticks 44 = .ok (.iconst 0, 1) := by decide +kernel
theorem dX11_ticks_45 : decode cX11_ticks 45 = .ok (.iaload, 1) := by decide +kernel
theorem dX11_ticks_46 : decode cX11_ticks 46 = .ok (.if_icmp .gt 10, 3) := by decide +kernel
theorem dX11_ticks_49 : decode cX11_ticks 49 = .ok (.aload_n 0, 1) := by decide +kernel
theorem dX11_ticks_50 : decode cX11_ticks 50 = .ok (.iload_n 1, 1) := by decide +kernel
theorem dX11_ticks_51 : decode cX11_ticks 51 = .ok (.iconst 0, 1) := by decide +kernel
theorem dX11_ticks_52 : decode cX11_ticks 52 = .ok (.invokevirtual 187, 3) := by decide +kernel
theorem dX11_ticks_55 : decode cX11_ticks 55 = .ok (.pop, 1) := by decide +kernel
theorem dX11_ticks_56 : decode cX11_ticks 56 = .ok (.iinc 1 1, 3) := by decide +kernel
theorem dX11_ticks_59 : decode cX11_ticks 59 = .ok (.goto (-47), 3) := by decide +kernel
theorem dX11_ticks_62 : decode cX11_ticks 62 = .ok (.aload_n 0, 1) := by decide +kernel
theorem dX11_ticks_63 : decode cX11_ticks 63 = .ok (.invokevirtual 190, 3) := by decide +kernel
theorem dX11_ticks_66 : decode cX11_ticks 66 = .ok (.iconst 0, 1) := by decide +kernel
theorem dX11_ticks_67 : decode cX11_ticks 67 = .ok (.istore_n 1, 1) := by decide +kernel
theorem dX11_ticks_68 : decode cX11_ticks 68 = .ok (.iload_n 1, 1) := by decide +kernel
theorem dX11_ticks_69 : decode cX11_ticks 69 = .ok (.aload_n 0, 1) := by decide +kernel
theorem dX11_ticks_70 : decode cX11_ticks 70 = .ok (.getfield 7, 3) := by decide +kernel
theorem dX11_ticks_73 : decode cX11_ticks 73 = .ok (.bipush 84, 2) := by decide +kernel
theorem dX11_ticks_75 : decode cX11_ticks 75 = .ok (.iaload, 1) := by decide +kernel
theorem dX11_ticks_76 : decode cX11_ticks 76 = .ok (.if_icmp .ge 122, 3) := by decide +kernel
theorem dX11_ticks_79 : decode cX11_ticks 79 = .ok (.iload_n 1, 1) := by decide +kernel
theorem dX11_ticks_80 : decode cX11_ticks 80 = .ok (.invokestatic 193, 3) := by decide +kernel
theorem dX11_ticks_83 : decode cX11_ticks 83 = .ok (.istore_n 2, 1) := by decide +kernel
theorem dX11_ticks_84 : decode cX11_ticks 84 = .ok (.aload_n 0, 1) := by decide +kernel
theorem dX11_ticks_85 : decode cX11_ticks 85 = .ok (.getfield 7, 3) := by decide +kernel
theorem dX11_ticks_88 : decode cX11_ticks 88 = .ok (.iload_n 2, 1) := by decide +kernel
theorem dX11_ticks_89 : decode cX11_ticks 89 = .ok (.bipush 7, 2) := by decide +kernel
theorem dX11_ticks_91 : decode cX11_ticks 91 = .ok (.iadd, 1) := by decide +kernel
theorem dX11_ticks_92 : decode cX11_ticks 92 = .ok (.iaload, 1) := by decide +kernel
theorem dX11_ticks_93 : decode cX11_ticks 93 = .ok (.aload_n 0, 1) := by decide +kernel
theorem dX11_ticks_94 : decode cX11_ticks 94 = .ok (.getfield 7, 3) := by decide +kernel
theorem dX11_ticks_97 : decode cX11_ticks 97 = .ok (.iconst 0, 1) := by decide +kernel
theorem dX11_ticks_98 : decode cX11_ticks 98 = .ok (.iaload, 1) := by decide +kernel
theorem dX11_ticks_99 : decode cX11_ticks 99 = .ok (.if_icmp .eq 6, 3) := by decide +kernel
theorem dX11_ticks_102 : decode cX11_ticks 102 = .ok (.goto 90, 3) := by decide +kernel
theorem dX11_ticks_105 : decode cX11_ticks 105 = .ok (.aload_n 0, 1) := by decide +kernel
theorem dX11_ticks_106 : decode cX11_ticks 106 = .ok (.getfield 7, 3) := by decide +kernel
theorem dX11_ticks_109 : decode cX11_ticks 109 = .ok (.iload_n 2, 1) := by decide +kernel
theorem dX11_ticks_110 : decode cX11_ticks 110 = .ok (.bipush 7, 2) := by decide +kernel
theorem dX11_ticks_112 : decode cX11_ticks 112 = .ok (.iadd, 1) := by decide +kernel
theorem dX11_ticks_113 : decode cX11_ticks 113 = .ok (.dup2, 1) := by decide +kernel
theorem dX11_ticks_114 : decode cX11_ticks 114 = .ok (.iaload, 1) := by decide +kernel
theorem dX11_ticks_115 : decode cX11_ticks 115 = .ok (.aload_n 0, 1) := by decide +kernel
theorem dX11_ticks_116 : decode cX11_ticks 116 = .ok (.getfield 7, 3) := by decide +kernel
theorem dX11_ticks_119 : decode cX11_ticks 119 = .ok (.iload_n 2, 1) := by decide +kernel
theorem dX11_ticks_120 : decode cX11_ticks 120 = .ok (.iconst 4, 1) := by decide +kernel
theorem dX11_ticks_121 : decode cX11_ticks 121 = .ok (.iadd, 1) := by decide +kernel
theorem dX11_ticks_122 : decode cX11_ticks 122 = .ok (.iaload, 1) := by decide +kernel
theorem dX11_ticks_123 : decode cX11_ticks 123 = .ok (.iadd, 1) := by decide +kernel
theorem dX11_ticks_124 : decode cX11_ticks 124 = .ok (.iastore, 1) := by decide +kernel
theorem dX11_ticks_125 : decode cX11_ticks 125 = .ok (.aload_n 0, 1) := by decide +kernel
theorem dX11_ticks_126 : decode cX11_ticks 126 = .ok (.aload_n 0, 1) := by decide +kernel
theorem dX11_ticks_127 : decode cX11_ticks 127 = .ok (.getfield 7, 3) := by decide +kernel
theorem dX11_ticks_130 : decode cX11_ticks 130 = .ok (.iload_n 2, 1) := by decide +kernel
theorem dX11_ticks_131 : decode cX11_ticks 131 = .ok (.iconst 0, 1) := by decide +kernel
theorem dX11_ticks_132 : decode cX11_ticks 132 = .ok (.iadd, 1) := by decide +kernel
theorem dX11_ticks_133 : decode cX11_ticks 133 = .ok (.iaload, 1) := by decide +kernel
theorem dX11_ticks_134 : decode cX11_ticks 134 = .ok (.aload_n 0, 1) := by decide +kernel
theorem dX11_ticks_135 : decode cX11_ticks 135 = .ok (.getfield 7, 3) := by decide +kernel
theorem dX11_ticks_138 : decode cX11_ticks 138 = .ok (.iload_n 2, 1) := by decide +kernel
theorem dX11_ticks_139 : decode cX11_ticks 139 = .ok (.iconst 1, 1) := by decide +kernel
theorem dX11_ticks_140 : decode cX11_ticks 140 = .ok (.iadd, 1) := by decide +kernel
theorem dX11_ticks_141 : decode cX11_ticks 141 = .ok (.iaload, 1) := by decide +kernel
theorem dX11_ticks_142 : decode cX11_ticks 142 = .ok (.aload_n 0, 1) := by decide +kernel
theorem dX11_ticks_143 : decode cX11_ticks 143 = .ok (.getfield 7, 3) := by decide +kernel
theorem dX11_ticks_146 : decode cX11_ticks 146 = .ok (.iload_n 2, 1) := by decide +kernel
theorem dX11_ticks_147 : decode cX11_ticks 147 = .ok (.iconst 2, 1) := by decide +kernel
theorem dX11_ticks_148 : decode cX11_ticks 148 = .ok (.iadd, 1) := by decide +kernel
theorem dX11_ticks_149 : decode cX11_ticks 149 = .ok (.iaload, 1) := by decide +kernel
theorem dX11_ticks_150 : decode cX11_ticks 150 = .ok (.aload_n 0, 1) := by decide +kernel
theorem dX11_ticks_151 : decode cX11_ticks 151 = .ok (.getfield 7, 3) := by decide +kernel
theorem dX11_ticks_154 : decode cX11_ticks 154 = .ok (.iload_n 2, 1) := by decide +kernel
theorem dX11_ticks_155 : decode cX11_ticks 155 = .ok (.iconst 3, 1) := by decide +kernel
theorem dX11_ticks_156 : decode cX11_ticks 156 = .ok (.iadd, 1) := by decide +kernel
theorem dX11_ticks_157 : decode cX11_ticks 157 = .ok (.iaload, 1) := by decide +kernel
theorem dX11_ticks_158 : decode cX11_ticks 158 = .ok (.iconst (-1), 1) := by decide +kernel
theorem dX11_ticks_159 : decode cX11_ticks 159 = .ok (.invokevirtual 196, 3) := by decide +kernel
theorem dX11_ticks_162 : decode cX11_ticks 162 = .ok (.ifCond .lt 7, 3) := by decide +kernel
theorem dX11_ticks_165 : decode cX11_ticks 165 = .ok (.iconst 1, 1) := by decide +kernel
theorem dX11_ticks_166 : decode cX11_ticks 166 = .ok (.goto 4, 3) := by decide +kernel
theorem dX11_ticks_169 : decode cX11_ticks 169 = .ok (.iconst 0, 1) := by decide +kernel
theorem dX11_ticks_170 : decode cX11_ticks 170 = .ok (.istore_n 3, 1) := by decide +kernel
theorem dX11_ticks_171 : decode cX11_ticks 171 = .ok (.aload_n 0, 1) := by decide +kernel
theorem dX11_ticks_172 : decode cX11_ticks 172 = .ok (.getfield 7, 3) := by decide +kernel
theorem dX11_ticks_175 : decode cX11_ticks 175 = .ok (.iload_n 2, 1) := by decide +kernel
theorem dX11_ticks_176 : decode cX11_ticks 176 = .ok (.iload_n 3, 1) := by decide +kernel
theorem dX11_ticks_177 : decode cX11_ticks 177 = .ok (.ifCond .eq 7, 3) := by decide +kernel
theorem dX11_ticks_180 : decode cX11_ticks 180 = .ok (.iconst 5, 1) := by decide +kernel
theorem dX11_ticks_181 : decode cX11_ticks 181 = .ok (.goto 5, 3) := by decide +kernel
theorem dX11_ticks_184 : decode cX11_ticks 184 = .ok (.bipush 6, 2) := by decide +kernel
theorem dX11_ticks_186 : decode cX11_ticks 186 = .ok (.iadd, 1) := by decide +kernel
theorem dX11_ticks_187 : decode cX11_ticks 187 = .ok (.dup2, 1) := by decide +kernel
theorem dX11_ticks_188 : decode cX11_ticks 188 = .ok (.iaload, 1) := by decide +kernel
theorem dX11_ticks_189 : decode cX11_ticks 189 = .ok (.iconst 1, 1) := by decide +kernel
theorem dX11_ticks_190 : decode cX11_ticks 190 = .ok (.iadd, 1) := by decide +kernel
theorem dX11_ticks_191 : decode cX11_ticks 191 = .ok (.iastore, 1) := by decide +kernel
theorem dX11_ticks_192 : decode cX11_ticks 192 = .ok (.iinc 1 1, 3) := by decide +kernel
theorem dX11_ticks_195 : decode cX11_ticks 195 = .ok (.goto (-127), 3) := by decide +kernel
theorem dX11_ticks_198 : decode cX11_ticks 198 = .ok (.return_, 1) := by decide +kernel
theorem dX11_put_0 : decode cX11_put 0 = .ok (.aload_n 0, 1) := by decide +kernel
theorem dX11_put_1 : decode cX11_put 1 = .ok (.iload_n 1, 1) := by decide +kernel
theorem dX11_put_2 : decode cX11_put 2 = .ok (.iload_n 2, 1) := by decide +kernel
theorem dX11_put_3 : decode cX11_put 3 = .ok (.iload_n 3, 1) := by decide +kernel
theorem dX11_put_4 : decode cX11_put 4 = .ok (.iload 4, 2) := by decide +kernel
theorem dX11_put_6 : decode cX11_put 6 = .ok (.iload 5, 2) := by decide +kernel
theorem dX11_put_8 : decode cX11_put 8 = .ok (.invokevirtual 196, 3) := by decide +kernel
theorem dX11_put_11 : decode cX11_put 11 = .ok (.istore 6, 2) := by decide +kernel
theorem dX11_put_13 : decode cX11_put 13 = .ok (.iload 6, 2) := by decide +kernel
theorem dX11_put_15 : decode cX11_put 15 = .ok (.ifCond .ge 12, 3) := by decide +kernel
theorem dX11_put_18 : decode cX11_put 18 = .ok (.aload_n 0, 1) := by decide +kernel
theorem dX11_put_19 : decode cX11_put 19 = .ok (.iload 6, 2) := by decide +kernel
theorem dX11_put_21 : decode cX11_put 21 = .ok (.invokevirtual 199, 3) := by decide +kernel
theorem dX11_put_24 : decode cX11_put 24 = .ok (.goto 5, 3) := by decide +kernel
theorem dX11_put_27 : decode cX11_put 27 = .ok (.iload 6, 2) := by decide +kernel
theorem dX11_put_29 : decode cX11_put 29 = .ok (.ireturn, 1) := by decide +kernel
theorem dX11_takesBy_0 : decode cX11_takesBy 0 = .ok (.aload_n 0, 1) := by decide +kernel
theorem dX11_takesBy_1 : decode cX11_takesBy 1 = .ok (.iconst 1, 1) := by decide +kernel
theorem dX11_takesBy_2 : decode cX11_takesBy 2 = .ok (.invokevirtual 202, 3) := by decide +kernel
theorem dX11_takesBy_5 : decode cX11_takesBy 5 = .ok (.istore_n 2, 1) := by decide +kernel
theorem dX11_takesBy_6 : decode cX11_takesBy 6 = .ok (.iload_n 2, 1) := by decide +kernel
theorem dX11_takesBy_7 : decode cX11_takesBy 7 = .ok (.iconst (-1), 1) := by decide +kernel
theorem dX11_takesBy_8 : decode cX11_takesBy 8 = .ok (.if_icmp .ne 5, 3) := by decide +kernel
theorem dX11_takesBy_11 : decode cX11_takesBy 11 = .ok (.iconst (-1), 1) := by decide +kernel
theorem dX11_takesBy_12 : decode cX11_takesBy 12 = .ok (.ireturn, 1) := by decide +kernel
theorem dX11_takesBy_13 : decode cX11_takesBy 13 = .ok (.aload_n 0, 1) := by decide +kernel
theorem dX11_takesBy_14 : decode cX11_takesBy 14 = .ok (.iload_n 2, 1) := by decide +kernel
theorem dX11_takesBy_15 : decode cX11_takesBy 15 = .ok (.invokevirtual 206, 3) := by decide +kernel
theorem dX11_takesBy_18 : decode cX11_takesBy 18 = .ok (.istore_n 3, 1) := by decide +kernel
theorem dX11_takesBy_19 : decode cX11_takesBy 19 = .ok (.aload_n 0, 1) := by decide +kernel
theorem dX11_takesBy_20 : decode cX11_takesBy 20 = .ok (.iload_n 3, 1) := by decide +kernel
theorem dX11_takesBy_21 : decode cX11_takesBy 21 = .ok (.iload_n 1, 1) := by decide +kernel
theorem dX11_takesBy_22 : decode cX11_takesBy 22 = .ok (.invokevirtual 209, 3) := by decide +kernel
theorem dX11_takesBy_25 : decode cX11_takesBy 25 = .ok (.iload_n 3, 1) := by decide +kernel
theorem dX11_takesBy_26 : decode cX11_takesBy 26 = .ok (.ireturn, 1) := by decide +kernel
theorem dX11_take_0 : decode cX11_take 0 = .ok (.aload_n 0, 1) := by decide +kernel
theorem dX11_take_1 : decode cX11_take 1 = .ok (.iload_n 1, 1) := by decide +kernel
theorem dX11_take_2 : decode cX11_take 2 = .ok (.invokevirtual 212, 3) := by decide +kernel
theorem dX11_take_5 : decode cX11_take 5 = .ok (.ifCond .ne 10, 3) := by decide +kernel
theorem dX11_take_8 : decode cX11_take 8 = .ok (.aload_n 0, 1) := by decide +kernel
theorem dX11_take_9 : decode cX11_take 9 = .ok (.bipush (-2), 2) := by decide +kernel
theorem dX11_take_11 : decode cX11_take 11 = .ok (.invokevirtual 199, 3) := by decide +kernel
theorem dX11_take_14 : decode cX11_take 14 = .ok (.ireturn, 1) := by decide +kernel
theorem dX11_take_15 : decode cX11_take 15 = .ok (.aload_n 0, 1) := by decide +kernel
theorem dX11_take_16 : decode cX11_take 16 = .ok (.getfield 7, 3) := by decide +kernel
theorem dX11_take_19 : decode cX11_take 19 = .ok (.iload_n 1, 1) := by decide +kernel
theorem dX11_take_20 : decode cX11_take 20 = .ok (.invokestatic 84, 3) := by decide +kernel
theorem dX11_take_23 : decode cX11_take 23 = .ok (.iaload, 1) := by decide +kernel
theorem dX11_take_24 : decode cX11_take 24 = .ok (.iconst (-1), 1) := by decide +kernel
theorem dX11_take_25 : decode cX11_take 25 = .ok (.if_icmp .eq 12, 3) := by decide +kernel
theorem dX11_take_28 : decode cX11_take 28 = .ok (.aload_n 0, 1) := by decide +kernel
theorem dX11_take_29 : decode cX11_take 29 = .ok (.bipush (-3), 2) := by decide +kernel
theorem dX11_take_31 : decode cX11_take 31 = .ok (.invokevirtual 199, 3) := by decide +kernel
theorem dX11_take_34 : decode cX11_take 34 = .ok (.goto 8, 3) := by decide +kernel
theorem dX11_take_37 : decode cX11_take 37 = .ok (.aload_n 0, 1) := by decide +kernel
theorem dX11_take_38 : decode cX11_take 38 = .ok (.iload_n 1, 1) := by decide +kernel
theorem dX11_take_39 : decode cX11_take 39 = .ok (.invokevirtual 215, 3) := by decide +kernel
theorem dX11_take_42 : decode cX11_take 42 = .ok (.ireturn, 1) := by decide +kernel
theorem dX11_heldBy_0 : decode cX11_heldBy 0 = .ok (.aload_n 0, 1) := by decide +kernel
theorem dX11_heldBy_1 : decode cX11_heldBy 1 = .ok (.iload_n 1, 1) := by decide +kernel
theorem dX11_heldBy_2 : decode cX11_heldBy 2 = .ok (.invokevirtual 212, 3) := by decide +kernel
theorem dX11_heldBy_5 : decode cX11_heldBy 5 = .ok (.ifCond .ne 6, 3) := by decide +kernel
theorem dX11_heldBy_8 : decode cX11_heldBy 8 = .ok (.bipush (-2), 2) := by decide +kernel
theorem dX11_heldBy_10 : decode cX11_heldBy 10 = .ok (.ireturn, 1) := by decide +kernel
theorem dX11_heldBy_11 : decode cX11_heldBy 11 = .ok (.aload_n 0, 1) := by decide +kernel
theorem dX11_heldBy_12 : decode cX11_heldBy 12 = .ok (.getfield 7, 3) := by decide +kernel
theorem dX11_heldBy_15 : decode cX11_heldBy 15 = .ok (.iload_n 1, 1) := by decide +kernel
theorem dX11_heldBy_16 : decode cX11_heldBy 16 = .ok (.invokestatic 84, 3) := by decide +kernel
theorem dX11_heldBy_19 : decode cX11_heldBy 19 = .ok (.iaload, 1) := by decide +kernel
theorem dX11_heldBy_20 : decode cX11_heldBy 20 = .ok (.istore_n 3, 1) := by decide +kernel
theorem dX11_heldBy_21 : decode cX11_heldBy 21 = .ok (.iload_n 3, 1) := by decide +kernel
theorem dX11_heldBy_22 : decode cX11_heldBy 22 = .ok (.iconst (-1), 1) := by decide +kernel
theorem dX11_heldBy_23 : decode cX11_heldBy 23 = .ok (.if_icmp .eq 14, 3) := by decide +kernel
theorem dX11_heldBy_26 : decode cX11_heldBy 26 = .ok (.aload_n 0, 1) := by decide +kernel
theorem dX11_heldBy_27 : decode cX11_heldBy 27 = .ok (.iload_n 3, 1) := by decide +kernel
theorem dX11_heldBy_28 : decode cX11_heldBy 28 = .ok (.bipush 10, 2) := by decide +kernel
theorem dX11_heldBy_30 : decode cX11_heldBy 30 = .ok (.invokevirtual 94, 3) := by decide +kernel
theorem dX11_heldBy_33 : decode cX11_heldBy 33 = .ok (.iload_n 2, 1) := by decide +kernel
theorem dX11_heldBy_34 : decode cX11_heldBy 34 = .ok (.if_icmp .eq 8, 3) := by decide +kernel
theorem dX11_heldBy_37 : decode cX11_heldBy 37 = .ok (.bipush (-3), 2) := by decide +kernel
theorem dX11_heldBy_39 : decode cX11_heldBy 39 = .ok (.goto 4, 3) := by decide +kernel
theorem dX11_heldBy_42 : decode cX11_heldBy 42 = .ok (.iload_n 3, 1) := by decide +kernel
theorem dX11_heldBy_43 : decode cX11_heldBy 43 = .ok (.ireturn, 1) := by decide +kernel
theorem dX11_done_0 : decode cX11_done 0 = .ok (.aload_n 0, 1) := by decide +kernel
theorem dX11_done_1 : decode cX11_done 1 = .ok (.iload_n 1, 1) := by decide +kernel
theorem dX11_done_2 : decode cX11_done 2 = .ok (.iload_n 2, 1) := by decide +kernel
theorem dX11_done_3 : decode cX11_done 3 = .ok (.invokevirtual 218, 3) := by decide +kernel
theorem dX11_done_6 : decode cX11_done 6 = .ok (.istore_n 3, 1) := by decide +kernel
theorem dX11_done_7 : decode cX11_done 7 = .ok (.iload_n 3, 1) := by decide +kernel
theorem dX11_done_8 : decode cX11_done 8 = .ok (.ifCond .ge 9, 3) := by decide +kernel
theorem dX11_done_11 : decode cX11_done 11 = .ok (.aload_n 0, 1) := by decide +kernel
theorem dX11_done_12 : decode cX11_done 12 = .ok (.iload_n 3, 1) := by decide +kernel
theorem dX11_done_13 : decode cX11_done 13 = .ok (.invokevirtual 199, 3) := by decide +kernel
theorem dX11_done_16 : decode cX11_done 16 = .ok (.ireturn, 1) := by decide +kernel
theorem dX11_done_17 : decode cX11_done 17 = .ok (.aload_n 0, 1) := by decide +kernel
theorem dX11_done_18 : decode cX11_done 18 = .ok (.iload_n 3, 1) := by decide +kernel
theorem dX11_done_19 : decode cX11_done 19 = .ok (.invokevirtual 221, 3) := by decide +kernel
theorem dX11_done_22 : decode cX11_done 22 = .ok (.iload_n 3, 1) := by decide +kernel
theorem dX11_done_23 : decode cX11_done 23 = .ok (.ireturn, 1) := by decide +kernel
theorem dX11_fail_0 : decode cX11_fail 0 = .ok (.iload_n 3, 1) := by decide +kernel
theorem dX11_fail_1 : decode cX11_fail 1 = .ok (.iconst 1, 1) := by decide +kernel
theorem dX11_fail_2 : decode cX11_fail 2 = .ok (.bipush 99, 2) := by decide +kernel
theorem dX11_fail_4 : decode cX11_fail 4 = .ok (.invokestatic 90, 3) := by decide +kernel
theorem dX11_fail_7 : decode cX11_fail 7 = .ok (.ifCond .eq 12, 3) := by decide +kernel
theorem dX11_fail_10 : decode cX11_fail 10 = .ok (.aload_n 0, 1) := by decide +kernel
theorem dX11_fail_11 : decode cX11_fail 11 = .ok (.iload_n 1, 1) := by decide +kernel
theorem dX11_fail_12 : decode cX11_fail 12 = .ok (.iload_n 2, 1) := by decide +kernel
theorem dX11_fail_13 : decode cX11_fail 13 = .ok (.invokevirtual 218, 3) := by decide +kernel
theorem dX11_fail_16 : decode cX11_fail 16 = .ok (.goto 5, 3) := by decide +kernel
theorem dX11_fail_19 : decode cX11_fail 19 = .ok (.bipush (-2), 2) := by decide +kernel
theorem dX11_fail_21 : decode cX11_fail 21 = .ok (.istore 4, 2) := by decide +kernel
theorem dX11_fail_23 : decode cX11_fail 23 = .ok (.iload 4, 2) := by decide +kernel
theorem dX11_fail_25 : decode cX11_fail 25 = .ok (.ifCond .ge 12, 3) := by decide +kernel
theorem dX11_fail_28 : decode cX11_fail 28 = .ok (.aload_n 0, 1) := by decide +kernel
theorem dX11_fail_29 : decode cX11_fail 29 = .ok (.iload 4, 2) := by decide +kernel
theorem dX11_fail_31 : decode cX11_fail 31 = .ok (.invokevirtual 199, 3) := by decide +kernel
theorem dX11_fail_34 : decode cX11_fail 34 = .ok (.goto 10, 3) := by decide +kernel
theorem dX11_fail_37 : decode cX11_fail 37 = .ok (.aload_n 0, 1) := by decide +kernel
theorem dX11_fail_38 : decode cX11_fail 38 = .ok (.iload 4, 2) := by decide +kernel
theorem dX11_fail_40 : decode cX11_fail 40 = .ok (.iload_n 3, 1) := by decide +kernel
theorem dX11_fail_41 : decode cX11_fail 41 = .ok (.invokevirtual 187, 3) := by decide +kernel
theorem dX11_fail_44 : decode cX11_fail 44 = .ok (.ireturn, 1) := by decide +kernel
theorem dX11_beat_0 : decode cX11_beat 0 = .ok (.aload_n 0, 1) := by decide +kernel
theorem dX11_beat_1 : decode cX11_beat 1 = .ok (.iload_n 1, 1) := by decide +kernel
theorem dX11_beat_2 : decode cX11_beat 2 = .ok (.iload_n 2, 1) := by decide +kernel
theorem dX11_beat_3 : decode cX11_beat 3 = .ok (.invokevirtual 218, 3) := by decide +kernel
theorem dX11_beat_6 : decode cX11_beat 6 = .ok (.istore_n 3, 1) := by decide +kernel
theorem dX11_beat_7 : decode cX11_beat 7 = .ok (.iload_n 3, 1) := by decide +kernel
theorem dX11_beat_8 : decode cX11_beat 8 = .ok (.ifCond .ge 9, 3) := by decide +kernel
theorem dX11_beat_11 : decode cX11_beat 11 = .ok (.aload_n 0, 1) := by decide +kernel
theorem dX11_beat_12 : decode cX11_beat 12 = .ok (.iload_n 3, 1) := by decide +kernel
theorem dX11_beat_13 : decode cX11_beat 13 = .ok (.invokevirtual 199, 3) := by decide +kernel
theorem dX11_beat_16 : decode cX11_beat 16 = .ok (.ireturn, 1) := by decide +kernel
theorem dX11_beat_17 : decode cX11_beat 17 = .ok (.aload_n 0, 1) := by decide +kernel
theorem dX11_beat_18 : decode cX11_beat 18 = .ok (.iload_n 3, 1) := by decide +kernel
theorem dX11_beat_19 : decode cX11_beat 19 = .ok (.bipush 11, 2) := by decide +kernel
theorem dX11_beat_21 : decode cX11_beat 21 = .ok (.aload_n 0, 1) := by decide +kernel
theorem dX11_beat_22 : decode cX11_beat 22 = .ok (.getfield 7, 3) := by decide +kernel
theorem dX11_beat_25 : decode cX11_beat 25 = .ok (.iconst 0, 1) := by decide +kernel
theorem dX11_beat_26 : decode cX11_beat 26 = .ok (.iaload, 1) := by decide +kernel
theorem dX11_beat_27 : decode cX11_beat 27 = .ok (.aload_n 0, 1) := by decide +kernel
theorem dX11_beat_28 : decode cX11_beat 28 = .ok (.getfield 7, 3) := by decide +kernel
theorem dX11_beat_31 : decode cX11_beat 31 = .ok (.iconst 5, 1) := by decide +kernel
theorem dX11_beat_32 : decode cX11_beat 32 = .ok (.iaload, 1) := by decide +kernel
theorem dX11_beat_33 : decode cX11_beat 33 = .ok (.iadd, 1) := by decide +kernel
theorem dX11_beat_34 : decode cX11_beat 34 = .ok (.invokevirtual 121, 3) := by decide +kernel
theorem dX11_beat_37 : decode cX11_beat 37 = .ok (.aload_n 0, 1) := by decide +kernel
theorem dX11_beat_38 : decode cX11_beat 38 = .ok (.iload_n 3, 1) := by decide +kernel
theorem dX11_beat_39 : decode cX11_beat 39 = .ok (.bipush 11, 2) := by decide +kernel
theorem dX11_beat_41 : decode cX11_beat 41 = .ok (.invokevirtual 94, 3) := by decide +kernel
theorem dX11_beat_44 : decode cX11_beat 44 = .ok (.ireturn, 1) := by decide +kernel
theorem dX11_back_0 : decode cX11_back 0 = .ok (.aload_n 0, 1) := by decide +kernel
theorem dX11_back_1 : decode cX11_back 1 = .ok (.iload_n 1, 1) := by decide +kernel
theorem dX11_back_2 : decode cX11_back 2 = .ok (.iload_n 2, 1) := by decide +kernel
theorem dX11_back_3 : decode cX11_back 3 = .ok (.invokevirtual 218, 3) := by decide +kernel
theorem dX11_back_6 : decode cX11_back 6 = .ok (.istore_n 3, 1) := by decide +kernel
theorem dX11_back_7 : decode cX11_back 7 = .ok (.iload_n 3, 1) := by decide +kernel
theorem dX11_back_8 : decode cX11_back 8 = .ok (.ifCond .ge 9, 3) := by decide +kernel
theorem dX11_back_11 : decode cX11_back 11 = .ok (.aload_n 0, 1) := by decide +kernel
theorem dX11_back_12 : decode cX11_back 12 = .ok (.iload_n 3, 1) := by decide +kernel
theorem dX11_back_13 : decode cX11_back 13 = .ok (.invokevirtual 199, 3) := by decide +kernel
theorem dX11_back_16 : decode cX11_back 16 = .ok (.ireturn, 1) := by decide +kernel
theorem dX11_back_17 : decode cX11_back 17 = .ok (.aload_n 0, 1) := by decide +kernel
theorem dX11_back_18 : decode cX11_back 18 = .ok (.iload_n 3, 1) := by decide +kernel
theorem dX11_back_19 : decode cX11_back 19 = .ok (.invokevirtual 136, 3) := by decide +kernel
theorem dX11_back_22 : decode cX11_back 22 = .ok (.aload_n 0, 1) := by decide +kernel
theorem dX11_back_23 : decode cX11_back 23 = .ok (.iload_n 3, 1) := by decide +kernel
theorem dX11_back_24 : decode cX11_back 24 = .ok (.invokevirtual 146, 3) := by decide +kernel
theorem dX11_back_27 : decode cX11_back 27 = .ok (.aload_n 0, 1) := by decide +kernel
theorem dX11_back_28 : decode cX11_back 28 = .ok (.iconst 5, 1) := by decide +kernel
theorem dX11_back_29 : decode cX11_back 29 = .ok (.iload_n 3, 1) := by decide +kernel
theorem dX11_back_30 : decode cX11_back 30 = .ok (.iconst (-1), 1) := by decide +kernel
theorem dX11_back_31 : decode cX11_back 31 = .ok (.iconst 0, 1) := by decide +kernel
theorem dX11_back_32 : decode cX11_back 32 = .ok (.invokevirtual 125, 3) := by decide +kernel
theorem dX11_back_35 : decode cX11_back 35 = .ok (.iload_n 3, 1) := by decide +kernel
theorem dX11_back_36 : decode cX11_back 36 = .ok (.ireturn, 1) := by decide +kernel
theorem dX11_hand_0 : decode cX11_hand 0 = .ok (.aload_n 0, 1) := by decide +kernel
theorem dX11_hand_1 : decode cX11_hand 1 = .ok (.iload_n 3, 1) := by decide +kernel
theorem dX11_hand_2 : decode cX11_hand 2 = .ok (.invokevirtual 212, 3) := by decide +kernel
theorem dX11_hand_5 : decode cX11_hand 5 = .ok (.ifCond .eq 12, 3) := by decide +kernel
theorem dX11_hand_8 : decode cX11_hand 8 = .ok (.aload_n 0, 1) := by decide +kernel
theorem dX11_hand_9 : decode cX11_hand 9 = .ok (.iload_n 1, 1) := by decide +kernel
theorem dX11_hand_10 : decode cX11_hand 10 = .ok (.iload_n 2, 1) := by decide +kernel
theorem dX11_hand_11 : decode cX11_hand 11 = .ok (.invokevirtual 218, 3) := by decide +kernel
theorem dX11_hand_14 : decode cX11_hand 14 = .ok (.goto 5, 3) := by decide +kernel
theorem dX11_hand_17 : decode cX11_hand 17 = .ok (.bipush (-2), 2) := by decide +kernel
theorem dX11_hand_19 : decode cX11_hand 19 = .ok (.istore 4, 2) := by decide +kernel
theorem dX11_hand_21 : decode cX11_hand 21 = .ok (.iload 4, 2) := by decide +kernel
theorem dX11_hand_23 : decode cX11_hand 23 = .ok (.ifCond .ge 10, 3) := by decide +kernel
theorem dX11_hand_26 : decode cX11_hand 26 = .ok (.aload_n 0, 1) := by decide +kernel
theorem dX11_hand_27 : decode cX11_hand 27 = .ok (.iload 4, 2) := by decide +kernel
theorem dX11_hand_29 : decode cX11_hand 29 = .ok (.invokevirtual 199, 3) := by decide +kernel
theorem dX11_hand_32 : decode cX11_hand 32 = .ok (.ireturn, 1) := by decide +kernel
theorem dX11_hand_33 : decode cX11_hand 33 = .ok (.aload_n 0, 1) := by decide +kernel
theorem dX11_hand_34 : decode cX11_hand 34 = .ok (.getfield 7, 3) := by decide +kernel
theorem dX11_hand_37 : decode cX11_hand 37 = .ok (.iload_n 3, 1) := by decide +kernel
theorem dX11_hand_38 : decode cX11_hand 38 = .ok (.invokestatic 84, 3) := by decide +kernel
theorem dX11_hand_41 : decode cX11_hand 41 = .ok (.iaload, 1) := by decide +kernel
theorem dX11_hand_42 : decode cX11_hand 42 = .ok (.iconst (-1), 1) := by decide +kernel
theorem dX11_hand_43 : decode cX11_hand 43 = .ok (.if_icmp .eq 10, 3) := by decide +kernel
theorem dX11_hand_46 : decode cX11_hand 46 = .ok (.aload_n 0, 1) := by decide +kernel
theorem dX11_hand_47 : decode cX11_hand 47 = .ok (.bipush (-3), 2) := by decide +kernel
theorem dX11_hand_49 : decode cX11_hand 49 = .ok (.invokevirtual 199, 3) := by decide +kernel
theorem dX11_hand_52 : decode cX11_hand 52 = .ok (.ireturn, 1) := by decide +kernel
theorem dX11_hand_53 : decode cX11_hand 53 = .ok (.aload_n 0, 1) := by decide +kernel
theorem dX11_hand_54 : decode cX11_hand 54 = .ok (.getfield 7, 3) := by decide +kernel
theorem dX11_hand_57 : decode cX11_hand 57 = .ok (.iload_n 1, 1) := by decide +kernel
theorem dX11_hand_58 : decode cX11_hand 58 = .ok (.invokestatic 84, 3) := by decide +kernel
theorem dX11_hand_61 : decode cX11_hand 61 = .ok (.iconst (-1), 1) := by decide +kernel
theorem dX11_hand_62 : decode cX11_hand 62 = .ok (.iastore, 1) := by decide +kernel
theorem dX11_hand_63 : decode cX11_hand 63 = .ok (.aload_n 0, 1) := by decide +kernel
theorem dX11_hand_64 : decode cX11_hand 64 = .ok (.getfield 7, 3) := by decide +kernel
theorem dX11_hand_67 : decode cX11_hand 67 = .ok (.iload_n 3, 1) := by decide +kernel
theorem dX11_hand_68 : decode cX11_hand 68 = .ok (.invokestatic 84, 3) := by decide +kernel
theorem dX11_hand_71 : decode cX11_hand 71 = .ok (.iload 4, 2) := by decide +kernel
theorem dX11_hand_73 : decode cX11_hand 73 = .ok (.iastore, 1) := by decide +kernel
theorem dX11_hand_74 : decode cX11_hand 74 = .ok (.aload_n 0, 1) := by decide +kernel
theorem dX11_hand_75 : decode cX11_hand 75 = .ok (.iload 4, 2) := by decide +kernel
theorem dX11_hand_77 : decode cX11_hand 77 = .ok (.bipush 9, 2) := by decide +kernel
theorem dX11_hand_79 : decode cX11_hand 79 = .ok (.iload_n 3, 1) := by decide +kernel
theorem dX11_hand_80 : decode cX11_hand 80 = .ok (.invokevirtual 121, 3) := by decide +kernel
theorem dX11_hand_83 : decode cX11_hand 83 = .ok (.aload_n 0, 1) := by decide +kernel
theorem dX11_hand_84 : decode cX11_hand 84 = .ok (.iload 4, 2) := by decide +kernel
theorem dX11_hand_86 : decode cX11_hand 86 = .ok (.bipush 11, 2) := by decide +kernel
theorem dX11_hand_88 : decode cX11_hand 88 = .ok (.aload_n 0, 1) := by decide +kernel
theorem dX11_hand_89 : decode cX11_hand 89 = .ok (.getfield 7, 3) := by decide +kernel
theorem dX11_hand_92 : decode cX11_hand 92 = .ok (.iconst 0, 1) := by decide +kernel
theorem dX11_hand_93 : decode cX11_hand 93 = .ok (.iaload, 1) := by decide +kernel
theorem dX11_hand_94 : decode cX11_hand 94 = .ok (.aload_n 0, 1) := by decide +kernel
theorem dX11_hand_95 : decode cX11_hand 95 = .ok (.getfield 7, 3) := by decide +kernel
theorem dX11_hand_98 : decode cX11_hand 98 = .ok (.iconst 5, 1) := by decide +kernel
theorem dX11_hand_99 : decode cX11_hand 99 = .ok (.iaload, 1) := by decide +kernel
theorem dX11_hand_100 : decode cX11_hand 100 = .ok (.iadd, 1) := by decide +kernel
theorem dX11_hand_101 : decode cX11_hand 101 = .ok (.invokevirtual 121, 3) := by decide +kernel
theorem dX11_hand_104 : decode cX11_hand 104 = .ok (.iload 4, 2) := by decide +kernel
theorem dX11_hand_106 : decode cX11_hand 106 = .ok (.ireturn, 1) := by decide +kernel
theorem dX11_every_0 : decode cX11_every 0 = .ok (.aload_n 0, 1) := by decide +kernel
theorem dX11_every_1 : decode cX11_every 1 = .ok (.iload_n 1, 1) := by decide +kernel
theorem dX11_every_2 : decode cX11_every 2 = .ok (.invokevirtual 152, 3) := by decide +kernel
theorem dX11_every_5 : decode cX11_every 5 = .ok (.ifCond .eq 39, 3) := by decide +kernel
theorem dX11_every_8 : decode cX11_every 8 = .ok (.iload_n 2, 1) := by decide +kernel
theorem dX11_every_9 : decode cX11_every 9 = .ok (.invokestatic 155, 3) := by decide +kernel
theorem dX11_every_12 : decode cX11_every 12 = .ok (.ifCond .eq 32, 3) := by decide +kernel
theorem dX11_every_15 : decode cX11_every 15 = .ok (.iload_n 3, 1) := by decide +kernel
theorem dX11_every_16 : decode cX11_every 16 = .ok (.iconst 1, 1) := by decide +kernel
theorem dX11_every_17 : decode cX11_every 17 = .ok (.bipush 20, 2) := by decide +kernel
theorem dX11_every_19 : decode cX11_every 19 = .ok (.invokestatic 90, 3) := by decide +kernel
theorem dX11_every_22 : decode cX11_every 22 = .ok (.ifCond .eq 22, 3) := by decide +kernel
theorem dX11_every_25 : decode cX11_every 25 = .ok (.iload 4, 2) := by decide +kernel
theorem dX11_every_27 : decode cX11_every 27 = .ok (.invokestatic 158, 3) := by decide +kernel
theorem dX11_every_30 : decode cX11_every 30 = .ok (.ifCond .eq 14, 3) := by decide +kernel
theorem dX11_every_33 : decode cX11_every 33 = .ok (.iload 5, 2) := by decide +kernel
theorem dX11_every_35 : decode cX11_every 35 = .ok (.iconst 1, 1) := by decide +kernel
theorem dX11_every_36 : decode cX11_every 36 = .ok (.bipush 99, 2) := by decide +kernel
theorem dX11_every_38 : decode cX11_every 38 = .ok (.invokestatic 90, 3) := by decide +kernel
theorem dX11_every_41 : decode cX11_every 41 = .ok (.ifCond .ne 10, 3) := by decide +kernel
theorem dX11_every_44 : decode cX11_every 44 = .ok (.aload_n 0, 1) := by decide +kernel
theorem dX11_every_45 : decode cX11_every 45 = .ok (.bipush (-2), 2) := by decide +kernel
theorem dX11_every_47 : decode cX11_every 47 = .ok (.invokevirtual 199, 3) := by decide +kernel
theorem dX11_every_50 : decode cX11_every 50 = .ok (.ireturn, 1) := by decide +kernel
theorem dX11_every_51 : decode cX11_every 51 = .ok (.aload_n 0, 1) := by decide +kernel
theorem dX11_every_52 : decode cX11_every 52 = .ok (.getfield 7, 3) := by decide +kernel
theorem dX11_every_55 : decode cX11_every 55 = .ok (.bipush 84, 2) := by decide +kernel
theorem dX11_every_57 : decode cX11_every 57 = .ok (.iaload, 1) := by decide +kernel
theorem dX11_every_58 : decode cX11_every 58 = .ok (.istore 6, 2) := by decide +kernel
theorem dX11_every_60 : decode cX11_every 60 = .ok (.iload 6, 2) := by decide +kernel
theorem dX11_every_62 : decode cX11_every 62 = .ok (.bipush 12, 2) := by decide +kernel
theorem dX11_every_64 : decode cX11_every 64 = .ok (.if_icmp .ne 10, 3) := by decide +kernel
theorem dX11_every_67 : decode cX11_every 67 = .ok (.aload_n 0, 1) := by decide +kernel
theorem dX11_every_68 : decode cX11_every 68 = .ok (.bipush (-6), 2) := by decide +kernel
theorem dX11_every_70 : decode cX11_every 70 = .ok (.invokevirtual 199, 3) := by decide +kernel
theorem dX11_every_73 : decode cX11_every 73 = .ok (.ireturn, 1) := by decide +kernel
theorem dX11_every_74 : decode cX11_every 74 = .ok (.iload 6, 2) := by decide +kernel
theorem dX11_every_76 : decode cX11_every 76 = .ok (.invokestatic 193, 3) := by decide +kernel
theorem dX11_every_79 : decode cX11_every 79 = .ok (.istore 7, 2) := by decide +kernel
theorem dX11_every_81 : decode cX11_every 81 = .ok (.aload_n 0, 1) := by decide +kernel
theorem dX11_every_82 : decode cX11_every 82 = .ok (.getfield 7, 3) := by decide +kernel
theorem dX11_every_85 : decode cX11_every 85 = .ok (.iload 7, 2) := by decide +kernel
theorem dX11_every_87 : decode cX11_every 87 = .ok (.iconst 0, 1) := by decide +kernel
theorem dX11_every_88 : decode cX11_every 88 = .ok (.iadd, 1) := by decide +kernel
theorem dX11_every_89 : decode cX11_every 89 = .ok (.iload_n 1, 1) := by decide +kernel
theorem dX11_every_90 : decode cX11_every 90 = .ok (.iastore, 1) := by decide +kernel
theorem dX11_every_91 : decode cX11_every 91 = .ok (.aload_n 0, 1) := by decide +kernel
theorem dX11_every_92 : decode cX11_every 92 = .ok (.getfield 7, 3) := by decide +kernel
theorem dX11_every_95 : decode cX11_every 95 = .ok (.iload 7, 2) := by decide +kernel
theorem dX11_every_97 : decode cX11_every 97 = .ok (.iconst 1, 1) := by decide +kernel
theorem dX11_every_98 : decode cX11_every 98 = .ok (.iadd, 1) := by decide +kernel
theorem dX11_every_99 : decode cX11_every 99 = .ok (.iload_n 2, 1) := by decide +kernel
theorem dX11_every_100 : decode cX11_every 100 = .ok (.iastore, 1) := by decide +kernel
theorem dX11_every_101 : decode cX11_every 101 = .ok (.aload_n 0, 1) := by decide +kernel
theorem dX11_every_102 : decode cX11_every 102 = .ok (.getfield 7, 3) := by decide +kernel
theorem dX11_every_105 : decode cX11_every 105 = .ok (.iload 7, 2) := by decide +kernel
theorem dX11_every_107 : decode cX11_every 107 = .ok (.iconst 2, 1) := by decide +kernel
theorem dX11_every_108 : decode cX11_every 108 = .ok (.iadd, 1) := by decide +kernel
theorem dX11_every_109 : decode cX11_every 109 = .ok (.iload_n 3, 1) := by decide +kernel
theorem dX11_every_110 : decode cX11_every 110 = .ok (.iastore, 1) := by decide +kernel
theorem dX11_every_111 : decode cX11_every 111 = .ok (.aload_n 0, 1) := by decide +kernel
theorem dX11_every_112 : decode cX11_every 112 = .ok (.getfield 7, 3) := by decide +kernel
theorem dX11_every_115 : decode cX11_every 115 = .ok (.iload 7, 2) := by decide +kernel
theorem dX11_every_117 : decode cX11_every 117 = .ok (.iconst 3, 1) := by decide +kernel
theorem dX11_every_118 : decode cX11_every 118 = .ok (.iadd, 1) := by decide +kernel
theorem dX11_every_119 : decode cX11_every 119 = .ok (.iload 4, 2) := by decide +kernel
theorem dX11_every_121 : decode cX11_every 121 = .ok (.iastore, 1) := by decide +kernel
theorem dX11_every_122 : decode cX11_every 122 = .ok (.aload_n 0, 1) := by decide +kernel
theorem dX11_every_123 : decode cX11_every 123 = .ok (.getfield 7, 3) := by decide +kernel
theorem dX11_every_126 : decode cX11_every 126 = .ok (.iload 7, 2) := by decide +kernel
theorem dX11_every_128 : decode cX11_every 128 = .ok (.iconst 4, 1) := by decide +kernel
theorem dX11_every_129 : decode cX11_every 129 = .ok (.iadd, 1) := by decide +kernel
theorem dX11_every_130 : decode cX11_every 130 = .ok (.iload 5, 2) := by decide +kernel
theorem dX11_every_132 : decode cX11_every 132 = .ok (.iastore, 1) := by decide +kernel
theorem dX11_every_133 : decode cX11_every 133 = .ok (.aload_n 0, 1) := by decide +kernel
theorem dX11_every_134 : decode cX11_every 134 = .ok (.getfield 7, 3) := by decide +kernel
theorem dX11_every_137 : decode cX11_every 137 = .ok (.iload 7, 2) := by decide +kernel
theorem dX11_every_139 : decode cX11_every 139 = .ok (.iconst 5, 1) := by decide +kernel
theorem dX11_every_140 : decode cX11_every 140 = .ok (.iadd, 1) := by decide +kernel
theorem dX11_every_141 : decode cX11_every 141 = .ok (.iconst 0, 1) := by decide +kernel
theorem dX11_every_142 : decode cX11_every 142 = .ok (.iastore, 1) := by decide +kernel
theorem dX11_every_143 : decode cX11_every 143 = .ok (.aload_n 0, 1) := by decide +kernel
theorem dX11_every_144 : decode cX11_every 144 = .ok (.getfield 7, 3) := by decide +kernel
theorem dX11_every_147 : decode cX11_every 147 = .ok (.iload 7, 2) := by decide +kernel
theorem dX11_every_149 : decode cX11_every 149 = .ok (.bipush 6, 2) := by decide +kernel
theorem dX11_every_151 : decode cX11_every 151 = .ok (.iadd, 1) := by decide +kernel
theorem dX11_every_152 : decode cX11_every 152 = .ok (.iconst 0, 1) := by decide +kernel
theorem dX11_every_153 : decode cX11_every 153 = .ok (.iastore, 1) := by decide +kernel
theorem dX11_every_154 : decode cX11_every 154 = .ok (.aload_n 0, 1) := by decide +kernel
theorem dX11_every_155 : decode cX11_every 155 = .ok (.getfield 7, 3) := by decide +kernel
theorem dX11_every_158 : decode cX11_every 158 = .ok (.iload 7, 2) := by decide +kernel
theorem dX11_every_160 : decode cX11_every 160 = .ok (.bipush 7, 2) := by decide +kernel
theorem dX11_every_162 : decode cX11_every 162 = .ok (.iadd, 1) := by decide +kernel
theorem dX11_every_163 : decode cX11_every 163 = .ok (.aload_n 0, 1) := by decide +kernel
theorem dX11_every_164 : decode cX11_every 164 = .ok (.getfield 7, 3) := by decide +kernel
theorem dX11_every_167 : decode cX11_every 167 = .ok (.iconst 0, 1) := by decide +kernel
theorem dX11_every_168 : decode cX11_every 168 = .ok (.iaload, 1) := by decide +kernel
theorem dX11_every_169 : decode cX11_every 169 = .ok (.iload 5, 2) := by decide +kernel
theorem dX11_every_171 : decode cX11_every 171 = .ok (.iadd, 1) := by decide +kernel
theorem dX11_every_172 : decode cX11_every 172 = .ok (.iastore, 1) := by decide +kernel
theorem dX11_every_173 : decode cX11_every 173 = .ok (.aload_n 0, 1) := by decide +kernel
theorem dX11_every_174 : decode cX11_every 174 = .ok (.getfield 7, 3) := by decide +kernel
theorem dX11_every_177 : decode cX11_every 177 = .ok (.bipush 84, 2) := by decide +kernel
theorem dX11_every_179 : decode cX11_every 179 = .ok (.dup2, 1) := by decide +kernel
theorem dX11_every_180 : decode cX11_every 180 = .ok (.iaload, 1) := by decide +kernel
theorem dX11_every_181 : decode cX11_every 181 = .ok (.iconst 1, 1) := by decide +kernel
theorem dX11_every_182 : decode cX11_every 182 = .ok (.iadd, 1) := by decide +kernel
theorem dX11_every_183 : decode cX11_every 183 = .ok (.iastore, 1) := by decide +kernel
theorem dX11_every_184 : decode cX11_every 184 = .ok (.iload 6, 2) := by decide +kernel
theorem dX11_every_186 : decode cX11_every 186 = .ok (.ireturn, 1) := by decide +kernel
theorem dX11_isTimer_0 : decode cX11_isTimer 0 = .ok (.iload_n 1, 1) := by decide +kernel
theorem dX11_isTimer_1 : decode cX11_isTimer 1 = .ok (.iconst 0, 1) := by decide +kernel
theorem dX11_isTimer_2 : decode cX11_isTimer 2 = .ok (.aload_n 0, 1) := by decide +kernel
theorem dX11_isTimer_3 : decode cX11_isTimer 3 = .ok (.getfield 7, 3) := by decide +kernel
theorem dX11_isTimer_6 : decode cX11_isTimer 6 = .ok (.bipush 84, 2) := by decide +kernel
theorem dX11_isTimer_8 : decode cX11_isTimer 8 = .ok (.iaload, 1) := by decide +kernel
theorem dX11_isTimer_9 : decode cX11_isTimer 9 = .ok (.iconst 1, 1) := by decide +kernel
theorem dX11_isTimer_10 : decode cX11_isTimer 10 = .ok (.isub, 1) := by decide +kernel
theorem dX11_isTimer_11 : decode cX11_isTimer 11 = .ok (.invokestatic 90, 3) := by decide +kernel
theorem dX11_isTimer_14 : decode cX11_isTimer 14 = .ok (.ireturn, 1) := by decide +kernel
theorem dX11_stop_0 : decode cX11_stop 0 = .ok (.aload_n 0, 1) := by decide +kernel
theorem dX11_stop_1 : decode cX11_stop 1 = .ok (.iload_n 1, 1) := by decide +kernel
theorem dX11_stop_2 : decode cX11_stop 2 = .ok (.invokevirtual 224, 3) := by decide +kernel
theorem dX11_stop_5 : decode cX11_stop 5 = .ok (.ifCond .ne 10, 3) := by decide +kernel
theorem dX11_stop_8 : decode cX11_stop 8 = .ok (.aload_n 0, 1) := by decide +kernel
theorem dX11_stop_9 : decode cX11_stop 9 = .ok (.bipush (-2), 2) := by decide +kernel
theorem dX11_stop_11 : decode cX11_stop 11 = .ok (.invokevirtual 199, 3) := by decide +kernel
theorem dX11_stop_14 : decode cX11_stop 14 = .ok (.ireturn, 1) := by decide +kernel
theorem dX11_stop_15 : decode cX11_stop 15 = .ok (.aload_n 0, 1) := by decide +kernel
theorem dX11_stop_16 : decode cX11_stop 16 = .ok (.getfield 7, 3) := by decide +kernel
theorem dX11_stop_19 : decode cX11_stop 19 = .ok (.iload_n 1, 1) := by decide +kernel
theorem dX11_stop_20 : decode cX11_stop 20 = .ok (.invokestatic 193, 3) := by decide +kernel
theorem dX11_stop_23 : decode cX11_stop 23 = .ok (.bipush 7, 2) := by decide +kernel
theorem dX11_stop_25 : decode cX11_stop 25 = .ok (.iadd, 1) := by decide +kernel
theorem dX11_stop_26 : decode cX11_stop 26 = .ok (.iaload, 1) := by decide +kernel
theorem dX11_stop_27 : decode cX11_stop 27 = .ok (.iconst (-1), 1) := by decide +kernel
theorem dX11_stop_28 : decode cX11_stop 28 = .ok (.if_icmp .ne 10, 3) := by decide +kernel
theorem dX11_stop_31 : decode cX11_stop 31 = .ok (.aload_n 0, 1) := by decide +kernel
theorem dX11_stop_32 : decode cX11_stop 32 = .ok (.bipush (-3), 2) := by decide +kernel
theorem dX11_stop_34 : decode cX11_stop 34 = .ok (.invokevirtual 199, 3) := by decide +kernel
theorem dX11_stop_37 : decode cX11_stop 37 = .ok (.ireturn, 1) := by decide +kernel
theorem dX11_stop_38 : decode cX11_stop 38 = .ok (.aload_n 0, 1) := by decide +kernel
theorem dX11_stop_39 : decode cX11_stop 39 = .ok (.getfield 7, 3) := by decide +kernel
theorem dX11_stop_42 : decode cX11_stop 42 = .ok (.iload_n 1, 1) := by decide +kernel
theorem dX11_stop_43 : decode cX11_stop 43 = .ok (.invokestatic 193, 3) := by decide +kernel
theorem dX11_stop_46 : decode cX11_stop 46 = .ok (.bipush 7, 2) := by decide +kernel
theorem dX11_stop_48 : decode cX11_stop 48 = .ok (.iadd, 1) := by decide +kernel
theorem dX11_stop_49 : decode cX11_stop 49 = .ok (.iconst (-1), 1) := by decide +kernel
theorem dX11_stop_50 : decode cX11_stop 50 = .ok (.iastore, 1) := by decide +kernel
theorem dX11_stop_51 : decode cX11_stop 51 = .ok (.aload_n 0, 1) := by decide +kernel
theorem dX11_stop_52 : decode cX11_stop 52 = .ok (.getfield 7, 3) := by decide +kernel
theorem dX11_stop_55 : decode cX11_stop 55 = .ok (.iload_n 1, 1) := by decide +kernel
theorem dX11_stop_56 : decode cX11_stop 56 = .ok (.invokestatic 193, 3) := by decide +kernel
theorem dX11_stop_59 : decode cX11_stop 59 = .ok (.iconst 5, 1) := by decide +kernel
theorem dX11_stop_60 : decode cX11_stop 60 = .ok (.iadd, 1) := by decide +kernel
theorem dX11_stop_61 : decode cX11_stop 61 = .ok (.iaload, 1) := by decide +kernel
theorem dX11_stop_62 : decode cX11_stop 62 = .ok (.ireturn, 1) := by decide +kernel
theorem dX11_tick_0 : decode cX11_tick 0 = .ok (.iload_n 1, 1) := by decide +kernel
theorem dX11_tick_1 : decode cX11_tick 1 = .ok (.iconst 1, 1) := by decide +kernel
theorem dX11_tick_2 : decode cX11_tick 2 = .ok (.bipush 99, 2) := by decide +kernel
theorem dX11_tick_4 : decode cX11_tick 4 = .ok (.invokestatic 90, 3) := by decide +kernel
theorem dX11_tick_7 : decode cX11_tick 7 = .ok (.ifCond .ne 10, 3) := by decide +kernel
theorem dX11_tick_10 : decode cX11_tick 10 = .ok (.aload_n 0, 1) := by decide +kernel
theorem dX11_tick_11 : decode cX11_tick 11 = .ok (.bipush (-2), 2) := by decide +kernel
theorem dX11_tick_13 : decode cX11_tick 13 = .ok (.invokevirtual 199, 3) := by decide +kernel
theorem dX11_tick_16 : decode cX11_tick 16 = .ok (.ireturn, 1) := by decide +kernel
theorem dX11_tick_17 : decode cX11_tick 17 = .ok (.iconst 0, 1) := by decide +kernel
theorem dX11_tick_18 : decode cX11_tick 18 = .ok (.istore_n 2, 1) := by decide +kernel
theorem dX11_tick_19 : decode cX11_tick 19 = .ok (.iload_n 2, 1) := by decide +kernel
theorem dX11_tick_20 : decode cX11_tick 20 = .ok (.iload_n 1, 1) := by decide +kernel
theorem dX11_tick_21 : decode cX11_tick 21 = .ok (.if_icmp .ge 13, 3) := by decide +kernel
theorem dX11_tick_24 : decode cX11_tick 24 = .ok (.aload_n 0, 1) := by decide +kernel
theorem dX11_tick_25 : decode cX11_tick 25 = .ok (.invokevirtual 227, 3) := by decide +kernel
theorem dX11_tick_28 : decode cX11_tick 28 = .ok (.iinc 2 1, 3) := by decide +kernel
theorem dX11_tick_31 : decode cX11_tick 31 = .ok (.goto (-12), 3) := by decide +kernel
theorem dX11_tick_34 : decode cX11_tick 34 = .ok (.aload_n 0, 1) := by decide +kernel
theorem dX11_tick_35 : decode cX11_tick 35 = .ok (.getfield 7, 3) := by decide +kernel
theorem dX11_tick_38 : decode cX11_tick 38 = .ok (.iconst 0, 1) := by decide +kernel
theorem dX11_tick_39 : decode cX11_tick 39 = .ok (.iaload, 1) := by decide +kernel
theorem dX11_tick_40 : decode cX11_tick 40 = .ok (.ireturn, 1) := by decide +kernel
theorem dX11_drain_0 : decode cX11_drain 0 = .ok (.aload_n 0, 1) := by decide +kernel
theorem dX11_drain_1 : decode cX11_drain 1 = .ok (.iload_n 1, 1) := by decide +kernel
theorem dX11_drain_2 : decode cX11_drain 2 = .ok (.invokevirtual 152, 3) := by decide +kernel
theorem dX11_drain_5 : decode cX11_drain 5 = .ok (.ifCond .ne 10, 3) := by decide +kernel
theorem dX11_drain_8 : decode cX11_drain 8 = .ok (.aload_n 0, 1) := by decide +kernel
theorem dX11_drain_9 : decode cX11_drain 9 = .ok (.bipush (-2), 2) := by decide +kernel
theorem dX11_drain_11 : decode cX11_drain 11 = .ok (.invokevirtual 199, 3) := by decide +kernel
theorem dX11_drain_14 : decode cX11_drain 14 = .ok (.ireturn, 1) := by decide +kernel
theorem dX11_drain_15 : decode cX11_drain 15 = .ok (.aload_n 0, 1) := by decide +kernel
theorem dX11_drain_16 : decode cX11_drain 16 = .ok (.getfield 7, 3) := by decide +kernel
theorem dX11_drain_19 : decode cX11_drain 19 = .ok (.iload_n 1, 1) := by decide +kernel
theorem dX11_drain_20 : decode cX11_drain 20 = .ok (.invokestatic 80, 3) := by decide +kernel
theorem dX11_drain_23 : decode cX11_drain 23 = .ok (.iconst 3, 1) := by decide +kernel
theorem dX11_drain_24 : decode cX11_drain 24 = .ok (.iadd, 1) := by decide +kernel
theorem dX11_drain_25 : decode cX11_drain 25 = .ok (.iaload, 1) := by decide +kernel
theorem dX11_drain_26 : decode cX11_drain 26 = .ok (.ifCond .eq 10, 3) := by decide +kernel
theorem dX11_drain_29 : decode cX11_drain 29 = .ok (.aload_n 0, 1) := by decide +kernel
theorem dX11_drain_30 : decode cX11_drain 30 = .ok (.bipush (-3), 2) := by decide +kernel
theorem dX11_drain_32 : decode cX11_drain 32 = .ok (.invokevirtual 199, 3) := by decide +kernel
theorem dX11_drain_35 : decode cX11_drain 35 = .ok (.ireturn, 1) := by decide +kernel
theorem dX11_drain_36 : decode cX11_drain 36 = .ok (.aload_n 0, 1) := by decide +kernel
theorem dX11_drain_37 : decode cX11_drain 37 = .ok (.getfield 7, 3) := by decide +kernel
theorem dX11_drain_40 : decode cX11_drain 40 = .ok (.iload_n 1, 1) := by decide +kernel
theorem dX11_drain_41 : decode cX11_drain 41 = .ok (.invokestatic 80, 3) := by decide +kernel
theorem dX11_drain_44 : decode cX11_drain 44 = .ok (.iconst 3, 1) := by decide +kernel
theorem dX11_drain_45 : decode cX11_drain 45 = .ok (.iadd, 1) := by decide +kernel
theorem dX11_drain_46 : decode cX11_drain 46 = .ok (.iconst 1, 1) := by decide +kernel
theorem dX11_drain_47 : decode cX11_drain 47 = .ok (.iastore, 1) := by decide +kernel
theorem dX11_drain_48 : decode cX11_drain 48 = .ok (.aload_n 0, 1) := by decide +kernel
theorem dX11_drain_49 : decode cX11_drain 49 = .ok (.invokevirtual 143, 3) := by decide +kernel
theorem dX11_drain_52 : decode cX11_drain 52 = .ok (.aload_n 0, 1) := by decide +kernel
theorem dX11_drain_53 : decode cX11_drain 53 = .ok (.iload_n 1, 1) := by decide +kernel
theorem dX11_drain_54 : decode cX11_drain 54 = .ok (.invokevirtual 115, 3) := by decide +kernel
theorem dX11_drain_57 : decode cX11_drain 57 = .ok (.ireturn, 1) := by decide +kernel
theorem dX11_open_0 : decode cX11_open 0 = .ok (.aload_n 0, 1) := by decide +kernel
theorem dX11_open_1 : decode cX11_open 1 = .ok (.iload_n 1, 1) := by decide +kernel
theorem dX11_open_2 : decode cX11_open 2 = .ok (.invokevirtual 152, 3) := by decide +kernel
theorem dX11_open_5 : decode cX11_open 5 = .ok (.ifCond .ne 10, 3) := by decide +kernel
theorem dX11_open_8 : decode cX11_open 8 = .ok (.aload_n 0, 1) := by decide +kernel
theorem dX11_open_9 : decode cX11_open 9 = .ok (.bipush (-2), 2) := by decide +kernel
theorem dX11_open_11 : decode cX11_open 11 = .ok (.invokevirtual 199, 3) := by decide +kernel
theorem dX11_open_14 : decode cX11_open 14 = .ok (.ireturn, 1) := by decide +kernel
theorem dX11_open_15 : decode cX11_open 15 = .ok (.aload_n 0, 1) := by decide +kernel
theorem dX11_open_16 : decode cX11_open 16 = .ok (.getfield 7, 3) := by decide +kernel
theorem dX11_open_19 : decode cX11_open 19 = .ok (.iload_n 1, 1) := by decide +kernel
theorem dX11_open_20 : decode cX11_open 20 = .ok (.invokestatic 80, 3) := by decide +kernel
theorem dX11_open_23 : decode cX11_open 23 = .ok (.iconst 3, 1) := by decide +kernel
theorem dX11_open_24 : decode cX11_open 24 = .ok (.iadd, 1) := by decide +kernel
theorem dX11_open_25 : decode cX11_open 25 = .ok (.iaload, 1) := by decide +kernel
theorem dX11_open_26 : decode cX11_open 26 = .ok (.ifCond .ne 10, 3) := by decide +kernel
theorem dX11_open_29 : decode cX11_open 29 = .ok (.aload_n 0, 1) := by decide +kernel
theorem dX11_open_30 : decode cX11_open 30 = .ok (.bipush (-3), 2) := by decide +kernel
theorem dX11_open_32 : decode cX11_open 32 = .ok (.invokevirtual 199, 3) := by decide +kernel
theorem dX11_open_35 : decode cX11_open 35 = .ok (.ireturn, 1) := by decide +kernel
theorem dX11_open_36 : decode cX11_open 36 = .ok (.aload_n 0, 1) := by decide +kernel
theorem dX11_open_37 : decode cX11_open 37 = .ok (.getfield 7, 3) := by decide +kernel
theorem dX11_open_40 : decode cX11_open 40 = .ok (.iload_n 1, 1) := by decide +kernel
theorem dX11_open_41 : decode cX11_open 41 = .ok (.invokestatic 80, 3) := by decide +kernel
theorem dX11_open_44 : decode cX11_open 44 = .ok (.iconst 3, 1) := by decide +kernel
theorem dX11_open_45 : decode cX11_open 45 = .ok (.iadd, 1) := by decide +kernel
theorem dX11_open_46 : decode cX11_open 46 = .ok (.iconst 0, 1) := by decide +kernel
theorem dX11_open_47 : decode cX11_open 47 = .ok (.iastore, 1) := by decide +kernel
theorem dX11_open_48 : decode cX11_open 48 = .ok (.iconst 0, 1) := by decide +kernel
theorem dX11_open_49 : decode cX11_open 49 = .ok (.ireturn, 1) := by decide +kernel
theorem dX11_isAtRest_0 : decode cX11_isAtRest 0 = .ok (.aload_n 0, 1) := by decide +kernel
theorem dX11_isAtRest_1 : decode cX11_isAtRest 1 = .ok (.iload_n 1, 1) := by decide +kernel
theorem dX11_isAtRest_2 : decode cX11_isAtRest 2 = .ok (.bipush 6, 2) := by decide +kernel
theorem dX11_isAtRest_4 : decode cX11_isAtRest 4 = .ok (.invokevirtual 94, 3) := by decide +kernel
theorem dX11_isAtRest_7 : decode cX11_isAtRest 7 = .ok (.iconst 2, 1) := by decide +kernel
theorem dX11_isAtRest_8 : decode cX11_isAtRest 8 = .ok (.if_icmp .gt 7, 3) := by decide +kernel
theorem dX11_isAtRest_11 : decode cX11_isAtRest 11 = .ok (.iconst 1, 1) := by decide +kernel
theorem dX11_isAtRest_12 : decode cX11_isAtRest 12 = .ok (.goto 4, 3) := by decide +kernel
theorem dX11_isAtRest_15 : decode cX11_isAtRest 15 = .ok (.iconst 0, 1) := by decide +kernel
theorem dX11_isAtRest_16 : decode cX11_isAtRest 16 = .ok (.ireturn, 1) := by decide +kernel
theorem dX11_cancel_0 : decode cX11_cancel 0 = .ok (.aload_n 0, 1) := by decide +kernel
theorem dX11_cancel_1 : decode cX11_cancel 1 = .ok (.iload_n 1, 1) := by decide +kernel
theorem dX11_cancel_2 : decode cX11_cancel 2 = .ok (.invokevirtual 161, 3) := by decide +kernel
theorem dX11_cancel_5 : decode cX11_cancel 5 = .ok (.ifCond .ne 10, 3) := by decide +kernel
theorem dX11_cancel_8 : decode cX11_cancel 8 = .ok (.aload_n 0, 1) := by decide +kernel
theorem dX11_cancel_9 : decode cX11_cancel 9 = .ok (.bipush (-2), 2) := by decide +kernel
theorem dX11_cancel_11 : decode cX11_cancel 11 = .ok (.invokevirtual 199, 3) := by decide +kernel
theorem dX11_cancel_14 : decode cX11_cancel 14 = .ok (.ireturn, 1) := by decide +kernel
theorem dX11_cancel_15 : decode cX11_cancel 15 = .ok (.aload_n 0, 1) := by decide +kernel
theorem dX11_cancel_16 : decode cX11_cancel 16 = .ok (.iload_n 1, 1) := by decide +kernel
theorem dX11_cancel_17 : decode cX11_cancel 17 = .ok (.invokevirtual 230, 3) := by decide +kernel
theorem dX11_cancel_20 : decode cX11_cancel 20 = .ok (.ifCond .ne 10, 3) := by decide +kernel
theorem dX11_cancel_23 : decode cX11_cancel 23 = .ok (.aload_n 0, 1) := by decide +kernel
theorem dX11_cancel_24 : decode cX11_cancel 24 = .ok (.bipush (-3), 2) := by decide +kernel
theorem dX11_cancel_26 : decode cX11_cancel 26 = .ok (.invokevirtual 199, 3) := by decide +kernel
theorem dX11_cancel_29 : decode cX11_cancel 29 = .ok (.ireturn, 1) := by decide +kernel
theorem dX11_cancel_30 : decode cX11_cancel 30 = .ok (.aload_n 0, 1) := by decide +kernel
theorem dX11_cancel_31 : decode cX11_cancel 31 = .ok (.iload_n 1, 1) := by decide +kernel
theorem dX11_cancel_32 : decode cX11_cancel 32 = .ok (.bipush 6, 2) := by decide +kernel
theorem dX11_cancel_34 : decode cX11_cancel 34 = .ok (.bipush 6, 2) := by decide +kernel
theorem dX11_cancel_36 : decode cX11_cancel 36 = .ok (.invokevirtual 121, 3) := by decide +kernel
theorem dX11_cancel_39 : decode cX11_cancel 39 = .ok (.aload_n 0, 1) := by decide +kernel
theorem dX11_cancel_40 : decode cX11_cancel 40 = .ok (.iload_n 1, 1) := by decide +kernel
theorem dX11_cancel_41 : decode cX11_cancel 41 = .ok (.bipush 8, 2) := by decide +kernel
theorem dX11_cancel_43 : decode cX11_cancel 43 = .ok (.iconst (-1), 1) := by decide +kernel
theorem dX11_cancel_44 : decode cX11_cancel 44 = .ok (.invokevirtual 121, 3) := by decide +kernel
theorem dX11_cancel_47 : decode cX11_cancel 47 = .ok (.aload_n 0, 1) := by decide +kernel
theorem dX11_cancel_48 : decode cX11_cancel 48 = .ok (.bipush 6, 2) := by decide +kernel
theorem dX11_cancel_50 : decode cX11_cancel 50 = .ok (.iload_n 1, 1) := by decide +kernel
theorem dX11_cancel_51 : decode cX11_cancel 51 = .ok (.iconst (-1), 1) := by decide +kernel
theorem dX11_cancel_52 : decode cX11_cancel 52 = .ok (.iconst 0, 1) := by decide +kernel
theorem dX11_cancel_53 : decode cX11_cancel 53 = .ok (.invokevirtual 125, 3) := by decide +kernel
theorem dX11_cancel_56 : decode cX11_cancel 56 = .ok (.aload_n 0, 1) := by decide +kernel
theorem dX11_cancel_57 : decode cX11_cancel 57 = .ok (.iload_n 1, 1) := by decide +kernel
theorem dX11_cancel_58 : decode cX11_cancel 58 = .ok (.bipush 101, 2) := by decide +kernel
theorem dX11_cancel_60 : decode cX11_cancel 60 = .ok (.invokevirtual 149, 3) := by decide +kernel
theorem dX11_cancel_63 : decode cX11_cancel 63 = .ok (.istore_n 2, 1) := by decide +kernel
theorem dX11_cancel_64 : decode cX11_cancel 64 = .ok (.aload_n 0, 1) := by decide +kernel
theorem dX11_cancel_65 : decode cX11_cancel 65 = .ok (.invokevirtual 143, 3) := by decide +kernel
theorem dX11_cancel_68 : decode cX11_cancel 68 = .ok (.iload_n 2, 1) := by decide +kernel
theorem dX11_cancel_69 : decode cX11_cancel 69 = .ok (.ireturn, 1) := by decide +kernel
theorem dX11_movesTo_0 : decode cX11_movesTo 0 = .ok (.aload_n 0, 1) := by decide +kernel
theorem dX11_movesTo_1 : decode cX11_movesTo 1 = .ok (.iload_n 1, 1) := by decide +kernel
theorem dX11_movesTo_2 : decode cX11_movesTo 2 = .ok (.bipush 6, 2) := by decide +kernel
theorem dX11_movesTo_4 : decode cX11_movesTo 4 = .ok (.invokevirtual 94, 3) := by decide +kernel
theorem dX11_movesTo_7 : decode cX11_movesTo 7 = .ok (.ifCond .ne 7, 3) := by decide +kernel
theorem dX11_movesTo_10 : decode cX11_movesTo 10 = .ok (.iconst 1, 1) := by decide +kernel
theorem dX11_movesTo_11 : decode cX11_movesTo 11 = .ok (.goto 4, 3) := by decide +kernel
theorem dX11_movesTo_14 : decode cX11_movesTo 14 = .ok (.iconst 0, 1) := by decide +kernel
theorem dX11_movesTo_15 : decode cX11_movesTo 15 = .ok (.istore_n 3, 1) := by decide +kernel
theorem dX11_movesTo_16 : decode cX11_movesTo 16 = .ok (.iload_n 3, 1) := by decide +kernel
theorem dX11_movesTo_17 : decode cX11_movesTo 17 = .ok (.ifCond .eq 11, 3) := by decide +kernel
theorem dX11_movesTo_20 : decode cX11_movesTo 20 = .ok (.aload_n 0, 1) := by decide +kernel
theorem dX11_movesTo_21 : decode cX11_movesTo 21 = .ok (.iload_n 1, 1) := by decide +kernel
theorem dX11_movesTo_22 : decode cX11_movesTo 22 = .ok (.bipush 6, 2) := by decide +kernel
theorem dX11_movesTo_24 : decode cX11_movesTo 24 = .ok (.iconst 1, 1) := by decide +kernel
theorem dX11_movesTo_25 : decode cX11_movesTo 25 = .ok (.invokevirtual 121, 3) := by decide +kernel
theorem dX11_movesTo_28 : decode cX11_movesTo 28 = .ok (.aload_n 0, 1) := by decide +kernel
theorem dX11_movesTo_29 : decode cX11_movesTo 29 = .ok (.iload_n 1, 1) := by decide +kernel
theorem dX11_movesTo_30 : decode cX11_movesTo 30 = .ok (.iconst 0, 1) := by decide +kernel
theorem dX11_movesTo_31 : decode cX11_movesTo 31 = .ok (.iload_n 2, 1) := by decide +kernel
theorem dX11_movesTo_32 : decode cX11_movesTo 32 = .ok (.invokevirtual 121, 3) := by decide +kernel
theorem dX11_movesTo_35 : decode cX11_movesTo 35 = .ok (.iload_n 3, 1) := by decide +kernel
theorem dX11_movesTo_36 : decode cX11_movesTo 36 = .ok (.ifCond .eq 8, 3) := by decide +kernel
theorem dX11_movesTo_39 : decode cX11_movesTo 39 = .ok (.aload_n 0, 1) := by decide +kernel
theorem dX11_movesTo_40 : decode cX11_movesTo 40 = .ok (.iload_n 1, 1) := by decide +kernel
theorem dX11_movesTo_41 : decode cX11_movesTo 41 = .ok (.invokevirtual 146, 3) := by decide +kernel
theorem dX11_movesTo_44 : decode cX11_movesTo 44 = .ok (.return_, 1) := by decide +kernel
theorem dX11_move_0 : decode cX11_move 0 = .ok (.aload_n 0, 1) := by decide +kernel
theorem dX11_move_1 : decode cX11_move 1 = .ok (.iload_n 1, 1) := by decide +kernel
theorem dX11_move_2 : decode cX11_move 2 = .ok (.invokevirtual 161, 3) := by decide +kernel
theorem dX11_move_5 : decode cX11_move 5 = .ok (.ifCond .eq 11, 3) := by decide +kernel
theorem dX11_move_8 : decode cX11_move 8 = .ok (.aload_n 0, 1) := by decide +kernel
theorem dX11_move_9 : decode cX11_move 9 = .ok (.iload_n 2, 1) := by decide +kernel
theorem dX11_move_10 : decode cX11_move 10 = .ok (.invokevirtual 152, 3) := by decide +kernel
theorem dX11_move_13 : decode cX11_move 13 = .ok (.ifCond .ne 10, 3) := by decide +kernel
theorem dX11_move_16 : decode cX11_move 16 = .ok (.aload_n 0, 1) := by decide +kernel
theorem dX11_move_17 : decode cX11_move 17 = .ok (.bipush (-2), 2) := by decide +kernel
theorem dX11_move_19 : decode cX11_move 19 = .ok (.invokevirtual 199, 3) := by decide +kernel
theorem dX11_move_22 : decode cX11_move 22 = .ok (.ireturn, 1) := by decide +kernel
theorem dX11_move_23 : decode cX11_move 23 = .ok (.aload_n 0, 1) := by decide +kernel
theorem dX11_move_24 : decode cX11_move 24 = .ok (.iload_n 1, 1) := by decide +kernel
theorem dX11_move_25 : decode cX11_move 25 = .ok (.invokevirtual 230, 3) := by decide +kernel
theorem dX11_move_28 : decode cX11_move 28 = .ok (.ifCond .eq 27, 3) := by decide +kernel
theorem dX11_move_31 : decode cX11_move 31 = .ok (.aload_n 0, 1) := by decide +kernel
theorem dX11_move_32 : decode cX11_move 32 = .ok (.iload_n 1, 1) := by decide +kernel
theorem dX11_move_33 : decode cX11_move 33 = .ok (.iconst 0, 1) := by decide +kernel
theorem dX11_move_34 : decode cX11_move 34 = .ok (.invokevirtual 94, 3) := by decide +kernel
theorem dX11_move_37 : decode cX11_move 37 = .ok (.iload_n 2, 1) := by decide +kernel
theorem dX11_move_38 : decode cX11_move 38 = .ok (.if_icmp .eq 17, 3) := by decide +kernel
theorem dX11_move_41 : decode cX11_move 41 = .ok (.aload_n 0, 1) := by decide +kernel
theorem dX11_move_42 : decode cX11_move 42 = .ok (.getfield 7, 3) := by decide +kernel
theorem dX11_move_45 : decode cX11_move 45 = .ok (.iload_n 2, 1) := by decide +kernel
theorem dX11_move_46 : decode cX11_move 46 = .ok (.invokestatic 80, 3) := by decide +kernel
theorem dX11_move_49 : decode cX11_move 49 = .ok (.iconst 3, 1) := by decide +kernel
theorem dX11_move_50 : decode cX11_move 50 = .ok (.iadd, 1) := by decide +kernel
theorem dX11_move_51 : decode cX11_move 51 = .ok (.iaload, 1) := by decide +kernel
theorem dX11_move_52 : decode cX11_move 52 = .ok (.ifCond .eq 10, 3) := by decide +kernel
theorem dX11_move_55 : decode cX11_move 55 = .ok (.aload_n 0, 1) := by decide +kernel
theorem dX11_move_56 : decode cX11_move 56 = .ok (.bipush (-3), 2) := by decide +kernel
theorem dX11_move_58 : decode cX11_move 58 = .ok (.invokevirtual 199, 3) := by decide +kernel
theorem dX11_move_61 : decode cX11_move 61 = .ok (.ireturn, 1) := by decide +kernel
theorem dX11_move_62 : decode cX11_move 62 = .ok (.aload_n 0, 1) := by decide +kernel
theorem dX11_move_63 : decode cX11_move 63 = .ok (.iload_n 2, 1) := by decide +kernel
theorem dX11_move_64 : decode cX11_move 64 = .ok (.invokevirtual 164, 3) := by decide +kernel
theorem dX11_move_67 : decode cX11_move 67 = .ok (.ifCond .ne 10, 3) := by decide +kernel
theorem dX11_move_70 : decode cX11_move 70 = .ok (.aload_n 0, 1) := by decide +kernel
theorem dX11_move_71 : decode cX11_move 71 = .ok (.bipush (-4), 2) := by decide +kernel
theorem dX11_move_73 : decode cX11_move 73 = .ok (.invokevirtual 199, 3) := by decide +kernel
theorem dX11_move_76 : decode cX11_move 76 = .ok (.ireturn, 1) := by decide +kernel
theorem dX11_move_77 : decode cX11_move 77 = .ok (.aload_n 0, 1) := by decide +kernel
theorem dX11_move_78 : decode cX11_move 78 = .ok (.iload_n 1, 1) := by decide +kernel
theorem dX11_move_79 : decode cX11_move 79 = .ok (.iload_n 2, 1) := by decide +kernel
theorem dX11_move_80 : decode cX11_move 80 = .ok (.invokevirtual 233, 3) := by decide +kernel
theorem dX11_move_83 : decode cX11_move 83 = .ok (.aload_n 0, 1) := by decide +kernel
theorem dX11_move_84 : decode cX11_move 84 = .ok (.bipush 7, 2) := by decide +kernel
theorem dX11_move_86 : decode cX11_move 86 = .ok (.iload_n 1, 1) := by decide +kernel
theorem dX11_move_87 : decode cX11_move 87 = .ok (.iconst (-1), 1) := by decide +kernel
theorem dX11_move_88 : decode cX11_move 88 = .ok (.iconst 0, 1) := by decide +kernel
theorem dX11_move_89 : decode cX11_move 89 = .ok (.invokevirtual 125, 3) := by decide +kernel
theorem dX11_move_92 : decode cX11_move 92 = .ok (.aload_n 0, 1) := by decide +kernel
theorem dX11_move_93 : decode cX11_move 93 = .ok (.invokevirtual 143, 3) := by decide +kernel
theorem dX11_move_96 : decode cX11_move 96 = .ok (.iconst 0, 1) := by decide +kernel
theorem dX11_move_97 : decode cX11_move 97 = .ok (.ireturn, 1) := by decide +kernel
theorem dX11_raise_0 : decode cX11_raise 0 = .ok (.aload_n 0, 1) := by decide +kernel
theorem dX11_raise_1 : decode cX11_raise 1 = .ok (.iload_n 1, 1) := by decide +kernel
theorem dX11_raise_2 : decode cX11_raise 2 = .ok (.invokevirtual 161, 3) := by decide +kernel
theorem dX11_raise_5 : decode cX11_raise 5 = .ok (.ifCond .eq 10, 3) := by decide +kernel
theorem dX11_raise_8 : decode cX11_raise 8 = .ok (.iload_n 2, 1) := by decide +kernel
theorem dX11_raise_9 : decode cX11_raise 9 = .ok (.invokestatic 155, 3) := by decide +kernel
theorem dX11_raise_12 : decode cX11_raise 12 = .ok (.ifCond .ne 11, 3) := by decide +kernel
theorem dX11_raise_15 : decode cX11_raise 15 = .ok (.aload_n 0, 1) := by decide +kernel
theorem dX11_raise_16 : decode cX11_raise 16 = .ok (.bipush (-2), 2) := by decide +kernel
theorem dX11_raise_18 : decode cX11_raise 18 = .ok (.invokevirtual 199, 3) := by decide +kernel
theorem dX11_raise_21 : decode cX11_raise 21 = .ok (.i2l, 1) := by decide +kernel
theorem dX11_raise_22 : decode cX11_raise 22 = .ok (.lreturn, 1) := by decide +kernel
theorem dX11_raise_23 : decode cX11_raise 23 = .ok (.aload_n 0, 1) := by decide +kernel
theorem dX11_raise_24 : decode cX11_raise 24 = .ok (.iload_n 1, 1) := by decide +kernel
theorem dX11_raise_25 : decode cX11_raise 25 = .ok (.invokevirtual 230, 3) := by decide +kernel
theorem dX11_raise_28 : decode cX11_raise 28 = .ok (.ifCond .eq 13, 3) := by decide +kernel
theorem dX11_raise_31 : decode cX11_raise 31 = .ok (.aload_n 0, 1) := by decide +kernel
theorem dX11_raise_32 : decode cX11_raise 32 = .ok (.iload_n 1, 1) := by decide +kernel
theorem dX11_raise_33 : decode cX11_raise 33 = .ok (.iconst 1, 1) := by decide +kernel
theorem dX11_raise_34 : decode cX11_raise 34 = .ok (.invokevirtual 94, 3) := by decide +kernel
theorem dX11_raise_37 : decode cX11_raise 37 = .ok (.iload_n 2, 1) := by decide +kernel
theorem dX11_raise_38 : decode cX11_raise 38 = .ok (.if_icmp .ne 11, 3) := by decide +kernel
theorem dX11_raise_41 : decode cX11_raise 41 = .ok (.aload_n 0, 1) := by decide +kernel
theorem dX11_raise_42 : decode cX11_raise 42 = .ok (.bipush (-3), 2) := by decide +kernel
theorem dX11_raise_44 : decode cX11_raise 44 = .ok (.invokevirtual 199, 3) := by decide +kernel
theorem dX11_raise_47 : decode cX11_raise 47 = .ok (.i2l, 1) := by decide +kernel
theorem dX11_raise_48 : decode cX11_raise 48 = .ok (.lreturn, 1) := by decide +kernel
theorem dX11_raise_49 : decode cX11_raise 49 = .ok (.aload_n 0, 1) := by decide +kernel
theorem dX11_raise_50 : decode cX11_raise 50 = .ok (.iload_n 1, 1) := by decide +kernel
theorem dX11_raise_51 : decode cX11_raise 51 = .ok (.iconst 1, 1) := by decide +kernel
theorem dX11_raise_52 : decode cX11_raise 52 = .ok (.iload_n 2, 1) := by decide +kernel
theorem dX11_raise_53 : decode cX11_raise 53 = .ok (.invokevirtual 121, 3) := by decide +kernel
theorem dX11_raise_56 : decode cX11_raise 56 = .ok (.aload_n 0, 1) := by decide +kernel
theorem dX11_raise_57 : decode cX11_raise 57 = .ok (.iload_n 1, 1) := by decide +kernel
theorem dX11_raise_58 : decode cX11_raise 58 = .ok (.invokevirtual 102, 3) := by decide +kernel
theorem dX11_raise_61 : decode cX11_raise 61 = .ok (.i2l, 1) := by decide +kernel
theorem dX11_raise_62 : decode cX11_raise 62 = .ok (.lreturn, 1) := by decide +kernel
theorem dX11_leavesAside_0 : decode cX11_leavesAside 0 = .ok (.iconst 0, 1) := by decide +kernel
theorem dX11_leavesAside_1 : decode cX11_leavesAside 1 = .ok (.istore_n 2, 1) := by decide +kernel
theorem dX11_leavesAside_2 : decode cX11_leavesAside 2 = .ok (.iconst 0, 1) := by decide +kernel
theorem dX11_leavesAside_3 : decode cX11_leavesAside 3 = .ok (.istore_n 3, 1) := by decide +kernel
theorem dX11_leavesAside_4 : decode cX11_leavesAside 4 = .ok (.iload_n 3, 1) := by decide +kernel
theorem dX11_leavesAside_5 : decode cX11_leavesAside 5 = .ok (.aload_n 0, 1) := by decide +kernel
theorem dX11_leavesAside_6 : decode cX11_leavesAside 6 = .ok (.getfield 7, 3) := by decide +kernel
theorem dX11_leavesAside_9 : decode cX11_leavesAside 9 = .ok (.iconst 3, 1) := by decide +kernel
theorem dX11_leavesAside_10 : decode cX11_leavesAside 10 = .ok (.iaload, 1) := by decide +kernel
theorem dX11_leavesAside_11 : decode cX11_leavesAside 11 = .ok (.if_icmp .ge 45, 3) := by decide +kernel
theorem dX11_leavesAside_14 : decode cX11_leavesAside 14 = .ok (.aload_n 0, 1) := by decide +kernel
theorem dX11_leavesAside_15 : decode cX11_leavesAside 15 = .ok (.getfield 7, 3) := by decide +kernel
theorem dX11_leavesAside_18 : decode cX11_leavesAside 18 = .ok (.sipush 5800, 3) := by decide +kernel
theorem dX11_leavesAside_21 : decode cX11_leavesAside 21 = .ok (.iload_n 3, 1) := by decide +kernel
theorem dX11_leavesAside_22 : decode cX11_leavesAside 22 = .ok (.iadd, 1) := by decide +kernel
theorem dX11_leavesAside_23 : decode cX11_leavesAside 23 = .ok (.iaload, 1) := by decide +kernel
theorem dX11_leavesAside_24 : decode cX11_leavesAside 24 = .ok (.istore 4, 2) := by decide +kernel
theorem dX11_leavesAside_26 : decode cX11_leavesAside 26 = .ok (.iload 4, 2) := by decide +kernel
theorem dX11_leavesAside_28 : decode cX11_leavesAside 28 = .ok (.iload_n 1, 1) := by decide +kernel
theorem dX11_leavesAside_29 : decode cX11_leavesAside 29 = .ok (.if_icmp .ne 6, 3) := by decide +kernel
theorem dX11_leavesAside_32 : decode cX11_leavesAside 32 = .ok (.goto 18, 3) := by decide +kernel
theorem dX11_leavesAside_35 : decode cX11_leavesAside 35 = .ok (.aload_n 0, 1) := by decide +kernel
theorem dX11_leavesAside_36 : decode cX11_leavesAside 36 = .ok (.getfield 7, 3) := by decide +kernel
theorem dX11_leavesAside_39 : decode cX11_leavesAside 39 = .ok (.sipush 5800, 3) := by decide +kernel
theorem dX11_leavesAside_42 : decode cX11_leavesAside 42 = .ok (.iload_n 2, 1) := by decide +kernel
theorem dX11_leavesAside_43 : decode cX11_leavesAside 43 = .ok (.iadd, 1) := by decide +kernel
theorem dX11_leavesAside_44 : decode cX11_leavesAside 44 = .ok (.iload 4, 2) := by decide +kernel
theorem dX11_leavesAside_46 : decode cX11_leavesAside 46 = .ok (.iastore, 1) := by decide +kernel
theorem dX11_leavesAside_47 : decode cX11_leavesAside 47 = .ok (.iinc 2 1, 3) := by decide +kernel
theorem dX11_leavesAside_50 : decode cX11_leavesAside 50 = .ok (.iinc 3 1, 3) := by decide +kernel
theorem dX11_leavesAside_53 : decode cX11_leavesAside 53 = .ok (.goto (-49), 3) := by decide +kernel
theorem dX11_leavesAside_56 : decode cX11_leavesAside 56 = .ok (.aload_n 0, 1) := by decide +kernel
theorem dX11_leavesAside_57 : decode cX11_leavesAside 57 = .ok (.getfield 7, 3) := by decide +kernel
theorem dX11_leavesAside_60 : decode cX11_leavesAside 60 = .ok (.iconst 3, 1) := by decide +kernel
theorem dX11_leavesAside_61 : decode cX11_leavesAside 61 = .ok (.iload_n 2, 1) := by decide +kernel
theorem dX11_leavesAside_62 : decode cX11_leavesAside 62 = .ok (.iastore, 1) := by decide +kernel
theorem dX11_leavesAside_63 : decode cX11_leavesAside 63 = .ok (.return_, 1) := by decide +kernel
theorem dX11_whyNotAgain_0 : decode cX11_whyNotAgain 0 = .ok (.aload_n 0, 1) := by decide +kernel
theorem dX11_whyNotAgain_1 : decode cX11_whyNotAgain 1 = .ok (.iload_n 1, 1) := by decide +kernel
theorem dX11_whyNotAgain_2 : decode cX11_whyNotAgain 2 = .ok (.invokevirtual 161, 3) := by decide +kernel
theorem dX11_whyNotAgain_5 : decode cX11_whyNotAgain 5 = .ok (.ifCond .ne 6, 3) := by decide +kernel
theorem dX11_whyNotAgain_8 : decode cX11_whyNotAgain 8 = .ok (.bipush (-2), 2) := by decide +kernel
theorem dX11_whyNotAgain_10 : decode cX11_whyNotAgain 10 = .ok (.ireturn, 1) := by decide +kernel
theorem dX11_whyNotAgain_11 : decode cX11_whyNotAgain 11 = .ok (.aload_n 0, 1) := by decide +kernel
theorem dX11_whyNotAgain_12 : decode cX11_whyNotAgain 12 = .ok (.iload_n 1, 1) := by decide +kernel
theorem dX11_whyNotAgain_13 : decode cX11_whyNotAgain 13 = .ok (.iconst 0, 1) := by decide +kernel
theorem dX11_whyNotAgain_14 : decode cX11_whyNotAgain 14 = .ok (.invokevirtual 94, 3) := by decide +kernel
theorem dX11_whyNotAgain_17 : decode cX11_whyNotAgain 17 = .ok (.istore_n 2, 1) := by decide +kernel
theorem dX11_whyNotAgain_18 : decode cX11_whyNotAgain 18 = .ok (.aload_n 0, 1) := by decide +kernel
theorem dX11_whyNotAgain_19 : decode cX11_whyNotAgain 19 = .ok (.iload_n 1, 1) := by decide +kernel
theorem dX11_whyNotAgain_20 : decode cX11_whyNotAgain 20 = .ok (.iconst 4, 1) := by decide +kernel
theorem dX11_whyNotAgain_21 : decode cX11_whyNotAgain 21 = .ok (.invokevirtual 94, 3) := by decide +kernel
theorem dX11_whyNotAgain_24 : decode cX11_whyNotAgain 24 = .ok (.istore_n 3, 1) := by decide +kernel
theorem dX11_whyNotAgain_25 : decode cX11_whyNotAgain 25 = .ok (.iload_n 3, 1) := by decide +kernel
theorem dX11_whyNotAgain_26 : decode cX11_whyNotAgain 26 = .ok (.iconst (-1), 1) := by decide +kernel
theorem dX11_whyNotAgain_27 : decode cX11_whyNotAgain 27 = .ok (.if_icmp .eq 18, 3) := by decide +kernel
theorem dX11_whyNotAgain_30 : decode cX11_whyNotAgain 30 = .ok (.aload_n 0, 1) := by decide +kernel
theorem dX11_whyNotAgain_31 : decode cX11_whyNotAgain 31 = .ok (.iload_n 3, 1) := by decide +kernel
theorem dX11_whyNotAgain_32 : decode cX11_whyNotAgain 32 = .ok (.bipush 6, 2) := by decide +kernel
theorem dX11_whyNotAgain_34 : decode cX11_whyNotAgain 34 = .ok (.invokevirtual 94, 3) := by decide +kernel
theorem dX11_whyNotAgain_37 : decode cX11_whyNotAgain 37 = .ok (.iconst 5, 1) := by decide +kernel
theorem dX11_whyNotAgain_38 : decode cX11_whyNotAgain 38 = .ok (.if_icmp .lt 7, 3) := by decide +kernel
theorem dX11_whyNotAgain_41 : decode cX11_whyNotAgain 41 = .ok (.iconst 1, 1) := by decide +kernel
theorem dX11_whyNotAgain_42 : decode cX11_whyNotAgain 42 = .ok (.goto 4, 3) := by decide +kernel
theorem dX11_whyNotAgain_45 : decode cX11_whyNotAgain 45 = .ok (.iconst 0, 1) := by decide +kernel
theorem dX11_whyNotAgain_46 : decode cX11_whyNotAgain 46 = .ok (.istore 4, 2) := by decide +kernel
theorem dX11_whyNotAgain_48 : decode cX11_whyNotAgain 48 = .ok (.aload_n 0, 1) := by decide +kernel
theorem dX11_whyNotAgain_49 : decode cX11_whyNotAgain 49 = .ok (.iload_n 1, 1) := by decide +kernel
theorem dX11_whyNotAgain_50 : decode cX11_whyNotAgain 50 = .ok (.bipush 6, 2) := by decide +kernel
theorem dX11_whyNotAgain_52 : decode cX11_whyNotAgain 52 = .ok (.invokevirtual 94, 3) := by decide +kernel
theorem dX11_whyNotAgain_55 : decode cX11_whyNotAgain 55 = .ok (.iconst 5, 1) := by decide +kernel
theorem dX11_whyNotAgain_56 : decode cX11_whyNotAgain 56 = .ok (.if_icmp .ne 22, 3) := by decide +kernel
theorem dX11_whyNotAgain_59 : decode cX11_whyNotAgain 59 = .ok (.aload_n 0, 1) := by decide +kernel
theorem dX11_whyNotAgain_60 : decode cX11_whyNotAgain 60 = .ok (.getfield 7, 3) := by decide +kernel
theorem dX11_whyNotAgain_63 : decode cX11_whyNotAgain 63 = .ok (.iload_n 2, 1) := by decide +kernel
theorem dX11_whyNotAgain_64 : decode cX11_whyNotAgain 64 = .ok (.invokestatic 80, 3) := by decide +kernel
theorem dX11_whyNotAgain_67 : decode cX11_whyNotAgain 67 = .ok (.iconst 3, 1) := by decide +kernel
theorem dX11_whyNotAgain_68 : decode cX11_whyNotAgain 68 = .ok (.iadd, 1) := by decide +kernel
theorem dX11_whyNotAgain_69 : decode cX11_whyNotAgain 69 = .ok (.iaload, 1) := by decide +kernel
theorem dX11_whyNotAgain_70 : decode cX11_whyNotAgain 70 = .ok (.ifCond .ne 8, 3) := by decide +kernel
theorem dX11_whyNotAgain_73 : decode cX11_whyNotAgain 73 = .ok (.iload 4, 2) := by decide +kernel
theorem dX11_whyNotAgain_75 : decode cX11_whyNotAgain 75 = .ok (.ifCond .eq 6, 3) := by decide +kernel
theorem dX11_whyNotAgain_78 : decode cX11_whyNotAgain 78 = .ok (.bipush (-3), 2) := by decide +kernel
theorem dX11_whyNotAgain_80 : decode cX11_whyNotAgain 80 = .ok (.ireturn, 1) := by decide +kernel
theorem dX11_whyNotAgain_81 : decode cX11_whyNotAgain 81 = .ok (.aload_n 0, 1) := by decide +kernel
theorem dX11_whyNotAgain_82 : decode cX11_whyNotAgain 82 = .ok (.iload_n 2, 1) := by decide +kernel
theorem dX11_whyNotAgain_83 : decode cX11_whyNotAgain 83 = .ok (.invokevirtual 164, 3) := by decide +kernel
theorem dX11_whyNotAgain_86 : decode cX11_whyNotAgain 86 = .ok (.ifCond .eq 18, 3) := by decide +kernel
theorem dX11_whyNotAgain_89 : decode cX11_whyNotAgain 89 = .ok (.aload_n 0, 1) := by decide +kernel
theorem dX11_whyNotAgain_90 : decode cX11_whyNotAgain 90 = .ok (.iconst (-1), 1) := by decide +kernel
theorem dX11_whyNotAgain_91 : decode cX11_whyNotAgain 91 = .ok (.invokevirtual 115, 3) := by decide +kernel
theorem dX11_whyNotAgain_94 : decode cX11_whyNotAgain 94 = .ok (.aload_n 0, 1) := by decide +kernel
theorem dX11_whyNotAgain_95 : decode cX11_whyNotAgain 95 = .ok (.getfield 7, 3) := by decide +kernel
theorem dX11_whyNotAgain_98 : decode cX11_whyNotAgain 98 = .ok (.bipush 8, 2) := by decide +kernel
theorem dX11_whyNotAgain_100 : decode cX11_whyNotAgain 100 = .ok (.iaload, 1) := by decide +kernel
theorem dX11_whyNotAgain_101 : decode cX11_whyNotAgain 101 = .ok (.if_icmp .lt 6, 3) := by decide +kernel
theorem dX11_whyNotAgain_104 : decode cX11_whyNotAgain 104 = .ok (.bipush (-4), 2) := by decide +kernel
theorem dX11_whyNotAgain_106 : decode cX11_whyNotAgain 106 = .ok (.ireturn, 1) := by decide +kernel
theorem dX11_whyNotAgain_107 : decode cX11_whyNotAgain 107 = .ok (.aload_n 0, 1) := by decide +kernel
theorem dX11_whyNotAgain_108 : decode cX11_whyNotAgain 108 = .ok (.aload_n 0, 1) := by decide +kernel
theorem dX11_whyNotAgain_109 : decode cX11_whyNotAgain 109 = .ok (.iload_n 1, 1) := by decide +kernel
theorem dX11_whyNotAgain_110 : decode cX11_whyNotAgain 110 = .ok (.iconst 3, 1) := by decide +kernel
theorem dX11_whyNotAgain_111 : decode cX11_whyNotAgain 111 = .ok (.invokevirtual 94, 3) := by decide +kernel
theorem dX11_whyNotAgain_114 : decode cX11_whyNotAgain 114 = .ok (.invokevirtual 167, 3) := by decide +kernel
theorem dX11_whyNotAgain_117 : decode cX11_whyNotAgain 117 = .ok (.iconst (-1), 1) := by decide +kernel
theorem dX11_whyNotAgain_118 : decode cX11_whyNotAgain 118 = .ok (.if_icmp .eq 6, 3) := by decide +kernel
theorem dX11_whyNotAgain_121 : decode cX11_whyNotAgain 121 = .ok (.bipush (-5), 2) := by decide +kernel
theorem dX11_whyNotAgain_123 : decode cX11_whyNotAgain 123 = .ok (.ireturn, 1) := by decide +kernel
theorem dX11_whyNotAgain_124 : decode cX11_whyNotAgain 124 = .ok (.aload_n 0, 1) := by decide +kernel
theorem dX11_whyNotAgain_125 : decode cX11_whyNotAgain 125 = .ok (.aload_n 0, 1) := by decide +kernel
theorem dX11_whyNotAgain_126 : decode cX11_whyNotAgain 126 = .ok (.iload_n 1, 1) := by decide +kernel
theorem dX11_whyNotAgain_127 : decode cX11_whyNotAgain 127 = .ok (.iconst 3, 1) := by decide +kernel
theorem dX11_whyNotAgain_128 : decode cX11_whyNotAgain 128 = .ok (.invokevirtual 94, 3) := by decide +kernel
theorem dX11_whyNotAgain_131 : decode cX11_whyNotAgain 131 = .ok (.invokevirtual 170, 3) := by decide +kernel
theorem dX11_whyNotAgain_134 : decode cX11_whyNotAgain 134 = .ok (.ifCond .eq 8, 3) := by decide +kernel
theorem dX11_whyNotAgain_137 : decode cX11_whyNotAgain 137 = .ok (.bipush (-7), 2) := by decide +kernel
theorem dX11_whyNotAgain_139 : decode cX11_whyNotAgain 139 = .ok (.goto 4, 3) := by decide +kernel
theorem dX11_whyNotAgain_142 : decode cX11_whyNotAgain 142 = .ok (.iconst 0, 1) := by decide +kernel
theorem dX11_whyNotAgain_143 : decode cX11_whyNotAgain 143 = .ok (.ireturn, 1) := by decide +kernel
theorem dX11_again_0 : decode cX11_again 0 = .ok (.aload_n 0, 1) := by decide +kernel
theorem dX11_again_1 : decode cX11_again 1 = .ok (.iload_n 1, 1) := by decide +kernel
theorem dX11_again_2 : decode cX11_again 2 = .ok (.invokevirtual 236, 3) := by decide +kernel
theorem dX11_again_5 : decode cX11_again 5 = .ok (.istore_n 2, 1) := by decide +kernel
theorem dX11_again_6 : decode cX11_again 6 = .ok (.iload_n 2, 1) := by decide +kernel
theorem dX11_again_7 : decode cX11_again 7 = .ok (.ifCond .eq 9, 3) := by decide +kernel
theorem dX11_again_10 : decode cX11_again 10 = .ok (.aload_n 0, 1) := by decide +kernel
theorem dX11_again_11 : decode cX11_again 11 = .ok (.iload_n 2, 1) := by decide +kernel
theorem dX11_again_12 : decode cX11_again 12 = .ok (.invokevirtual 199, 3) := by decide +kernel
theorem dX11_again_15 : decode cX11_again 15 = .ok (.ireturn, 1) := by decide +kernel
theorem dX11_again_16 : decode cX11_again 16 = .ok (.aload_n 0, 1) := by decide +kernel
theorem dX11_again_17 : decode cX11_again 17 = .ok (.iload_n 1, 1) := by decide +kernel
theorem dX11_again_18 : decode cX11_again 18 = .ok (.invokevirtual 239, 3) := by decide +kernel
theorem dX11_again_21 : decode cX11_again 21 = .ok (.aload_n 0, 1) := by decide +kernel
theorem dX11_again_22 : decode cX11_again 22 = .ok (.iload_n 1, 1) := by decide +kernel
theorem dX11_again_23 : decode cX11_again 23 = .ok (.bipush 7, 2) := by decide +kernel
theorem dX11_again_25 : decode cX11_again 25 = .ok (.iconst 0, 1) := by decide +kernel
theorem dX11_again_26 : decode cX11_again 26 = .ok (.invokevirtual 121, 3) := by decide +kernel
theorem dX11_again_29 : decode cX11_again 29 = .ok (.aload_n 0, 1) := by decide +kernel
theorem dX11_again_30 : decode cX11_again 30 = .ok (.iload_n 1, 1) := by decide +kernel
theorem dX11_again_31 : decode cX11_again 31 = .ok (.bipush 6, 2) := by decide +kernel
theorem dX11_again_33 : decode cX11_again 33 = .ok (.iconst 1, 1) := by decide +kernel
theorem dX11_again_34 : decode cX11_again 34 = .ok (.invokevirtual 121, 3) := by decide +kernel
theorem dX11_again_37 : decode cX11_again 37 = .ok (.aload_n 0, 1) := by decide +kernel
theorem dX11_again_38 : decode cX11_again 38 = .ok (.iload_n 1, 1) := by decide +kernel
theorem dX11_again_39 : decode cX11_again 39 = .ok (.invokevirtual 177, 3) := by decide +kernel
theorem dX11_again_42 : decode cX11_again 42 = .ok (.istore_n 3, 1) := by decide +kernel
theorem dX11_again_43 : decode cX11_again 43 = .ok (.iload_n 3, 1) := by decide +kernel
theorem dX11_again_44 : decode cX11_again 44 = .ok (.ifCond .ne 8, 3) := by decide +kernel
theorem dX11_again_47 : decode cX11_again 47 = .ok (.aload_n 0, 1) := by decide +kernel
theorem dX11_again_48 : decode cX11_again 48 = .ok (.iload_n 1, 1) := by decide +kernel
theorem dX11_again_49 : decode cX11_again 49 = .ok (.invokevirtual 146, 3) := by decide +kernel
theorem dX11_again_52 : decode cX11_again 52 = .ok (.aload_n 0, 1) := by decide +kernel
theorem dX11_again_53 : decode cX11_again 53 = .ok (.bipush 8, 2) := by decide +kernel
theorem dX11_again_55 : decode cX11_again 55 = .ok (.iload_n 1, 1) := by decide +kernel
theorem dX11_again_56 : decode cX11_again 56 = .ok (.iconst (-1), 1) := by decide +kernel
theorem dX11_again_57 : decode cX11_again 57 = .ok (.iconst 0, 1) := by decide +kernel
theorem dX11_again_58 : decode cX11_again 58 = .ok (.invokevirtual 125, 3) := by decide +kernel
theorem dX11_again_61 : decode cX11_again 61 = .ok (.iload_n 3, 1) := by decide +kernel
theorem dX11_again_62 : decode cX11_again 62 = .ok (.ifCond .eq 7, 3) := by decide +kernel
theorem dX11_again_65 : decode cX11_again 65 = .ok (.iconst 1, 1) := by decide +kernel
theorem dX11_again_66 : decode cX11_again 66 = .ok (.goto 4, 3) := by decide +kernel
theorem dX11_again_69 : decode cX11_again 69 = .ok (.iconst 0, 1) := by decide +kernel
theorem dX11_again_70 : decode cX11_again 70 = .ok (.ireturn, 1) := by decide +kernel
theorem dX11_discard_0 : decode cX11_discard 0 = .ok (.aload_n 0, 1) := by decide +kernel
theorem dX11_discard_1 : decode cX11_discard 1 = .ok (.iload_n 1, 1) := by decide +kernel
theorem dX11_discard_2 : decode cX11_discard 2 = .ok (.invokevirtual 161, 3) := by decide +kernel
theorem dX11_discard_5 : decode cX11_discard 5 = .ok (.ifCond .ne 10, 3) := by decide +kernel
theorem dX11_discard_8 : decode cX11_discard 8 = .ok (.aload_n 0, 1) := by decide +kernel
theorem dX11_discard_9 : decode cX11_discard 9 = .ok (.bipush (-2), 2) := by decide +kernel
theorem dX11_discard_11 : decode cX11_discard 11 = .ok (.invokevirtual 199, 3) := by decide +kernel
theorem dX11_discard_14 : decode cX11_discard 14 = .ok (.ireturn, 1) := by decide +kernel
theorem dX11_discard_15 : decode cX11_discard 15 = .ok (.aload_n 0, 1) := by decide +kernel
theorem dX11_discard_16 : decode cX11_discard 16 = .ok (.iload_n 1, 1) := by decide +kernel
theorem dX11_discard_17 : decode cX11_discard 17 = .ok (.bipush 6, 2) := by decide +kernel
theorem dX11_discard_19 : decode cX11_discard 19 = .ok (.invokevirtual 94, 3) := by decide +kernel
theorem dX11_discard_22 : decode cX11_discard 22 = .ok (.iconst 5, 1) := by decide +kernel
theorem dX11_discard_23 : decode cX11_discard 23 = .ok (.if_icmp .eq 10, 3) := by decide +kernel
theorem dX11_discard_26 : decode cX11_discard 26 = .ok (.aload_n 0, 1) := by decide +kernel
theorem dX11_discard_27 : decode cX11_discard 27 = .ok (.bipush (-3), 2) := by decide +kernel
theorem dX11_discard_29 : decode cX11_discard 29 = .ok (.invokevirtual 199, 3) := by decide +kernel
theorem dX11_discard_32 : decode cX11_discard 32 = .ok (.ireturn, 1) := by decide +kernel
theorem dX11_discard_33 : decode cX11_discard 33 = .ok (.aload_n 0, 1) := by decide +kernel
theorem dX11_discard_34 : decode cX11_discard 34 = .ok (.iload_n 1, 1) := by decide +kernel
theorem dX11_discard_35 : decode cX11_discard 35 = .ok (.invokevirtual 239, 3) := by decide +kernel
theorem dX11_discard_38 : decode cX11_discard 38 = .ok (.aload_n 0, 1) := by decide +kernel
theorem dX11_discard_39 : decode cX11_discard 39 = .ok (.iload_n 1, 1) := by decide +kernel
theorem dX11_discard_40 : decode cX11_discard 40 = .ok (.bipush 6, 2) := by decide +kernel
theorem dX11_discard_42 : decode cX11_discard 42 = .ok (.bipush 6, 2) := by decide +kernel
theorem dX11_discard_44 : decode cX11_discard 44 = .ok (.invokevirtual 121, 3) := by decide +kernel
theorem dX11_discard_47 : decode cX11_discard 47 = .ok (.aload_n 0, 1) := by decide +kernel
theorem dX11_discard_48 : decode cX11_discard 48 = .ok (.bipush 6, 2) := by decide +kernel
theorem dX11_discard_50 : decode cX11_discard 50 = .ok (.iload_n 1, 1) := by decide +kernel
theorem dX11_discard_51 : decode cX11_discard 51 = .ok (.iconst (-1), 1) := by decide +kernel
theorem dX11_discard_52 : decode cX11_discard 52 = .ok (.iconst 0, 1) := by decide +kernel
theorem dX11_discard_53 : decode cX11_discard 53 = .ok (.invokevirtual 125, 3) := by decide +kernel
theorem dX11_discard_56 : decode cX11_discard 56 = .ok (.aload_n 0, 1) := by decide +kernel
theorem dX11_discard_57 : decode cX11_discard 57 = .ok (.getfield 7, 3) := by decide +kernel
theorem dX11_discard_60 : decode cX11_discard 60 = .ok (.iconst 3, 1) := by decide +kernel
theorem dX11_discard_61 : decode cX11_discard 61 = .ok (.iaload, 1) := by decide +kernel
theorem dX11_discard_62 : decode cX11_discard 62 = .ok (.ireturn, 1) := by decide +kernel
theorem dX11_arrange_0 : decode cX11_arrange 0 = .ok (.aload_n 0, 1) := by decide +kernel
theorem dX11_arrange_1 : decode cX11_arrange 1 = .ok (.iload_n 1, 1) := by decide +kernel
theorem dX11_arrange_2 : decode cX11_arrange 2 = .ok (.invokevirtual 152, 3) := by decide +kernel
theorem dX11_arrange_5 : decode cX11_arrange 5 = .ok (.ifCond .eq 41, 3) := by decide +kernel
theorem dX11_arrange_8 : decode cX11_arrange 8 = .ok (.iload_n 2, 1) := by decide +kernel
theorem dX11_arrange_9 : decode cX11_arrange 9 = .ok (.iconst 0, 1) := by decide +kernel
theorem dX11_arrange_10 : decode cX11_arrange 10 = .ok (.iconst 2, 1) := by decide +kernel
theorem dX11_arrange_11 : decode cX11_arrange 11 = .ok (.invokestatic 90, 3) := by decide +kernel
theorem dX11_arrange_14 : decode cX11_arrange 14 = .ok (.ifCond .eq 32, 3) := by decide +kernel
theorem dX11_arrange_17 : decode cX11_arrange 17 = .ok (.iload_n 3, 1) := by decide +kernel
theorem dX11_arrange_18 : decode cX11_arrange 18 = .ok (.iconst 1, 1) := by decide +kernel
theorem dX11_arrange_19 : decode cX11_arrange 19 = .ok (.iload_n 2, 1) := by decide +kernel
theorem dX11_arrange_20 : decode cX11_arrange 20 = .ok (.ifCond .ne 8, 3) := by decide +kernel
theorem dX11_arrange_23 : decode cX11_arrange 23 = .ok (.bipush 9, 2) := by decide +kernel
theorem dX11_arrange_25 : decode cX11_arrange 25 = .ok (.goto 15, 3) := by decide +kernel
theorem dX11_arrange_28 : decode cX11_arrange 28 = .ok (.iload_n 2, 1) := by decide +kernel
theorem dX11_arrange_29 : decode cX11_arrange 29 = .ok (.iconst 1, 1) := by decide +kernel
theorem dX11_arrange_30 : decode cX11_arrange 30 = .ok (.if_icmp .ne 8, 3) := by decide +kernel
theorem dX11_arrange_33 : decode cX11_arrange 33 = .ok (.bipush 32, 2) := by decide +kernel
theorem dX11_arrange_35 : decode cX11_arrange 35 = .ok (.goto 5, 3) := by decide +kernel
theorem dX11_arrange_38 : decode cX11_arrange 38 = .ok (.bipush 6, 2) := by decide +kernel
theorem dX11_arrange_40 : decode cX11_arrange 40 = .ok (.invokestatic 90, 3) := by decide +kernel
theorem dX11_arrange_43 : decode cX11_arrange 43 = .ok (.ifCond .ne 10, 3) := by decide +kernel
theorem dX11_arrange_46 : decode cX11_arrange 46 = .ok (.aload_n 0, 1) := by decide +kernel
theorem dX11_arrange_47 : decode cX11_arrange 47 = .ok (.bipush (-2), 2) := by decide +kernel
theorem dX11_arrange_49 : decode cX11_arrange 49 = .ok (.invokevirtual 199, 3) := by decide +kernel
theorem dX11_arrange_52 : decode cX11_arrange 52 = .ok (.ireturn, 1) := by decide +kernel
theorem dX11_arrange_53 : decode cX11_arrange 53 = .ok (.aload_n 0, 1) := by decide +kernel
theorem dX11_arrange_54 : decode cX11_arrange 54 = .ok (.getfield 7, 3) := by decide +kernel
theorem dX11_arrange_57 : decode cX11_arrange 57 = .ok (.iload_n 1, 1) := by decide +kernel
theorem dX11_arrange_58 : decode cX11_arrange 58 = .ok (.invokestatic 80, 3) := by decide +kernel
theorem dX11_arrange_61 : decode cX11_arrange 61 = .ok (.iload_n 2, 1) := by decide +kernel
theorem dX11_arrange_62 : decode cX11_arrange 62 = .ok (.iadd, 1) := by decide +kernel
theorem dX11_arrange_63 : decode cX11_arrange 63 = .ok (.iaload, 1) := by decide +kernel
theorem dX11_arrange_64 : decode cX11_arrange 64 = .ok (.istore 4, 2) := by decide +kernel
theorem dX11_arrange_66 : decode cX11_arrange 66 = .ok (.aload_n 0, 1) := by decide +kernel
theorem dX11_arrange_67 : decode cX11_arrange 67 = .ok (.getfield 7, 3) := by decide +kernel
theorem dX11_arrange_70 : decode cX11_arrange 70 = .ok (.iload_n 1, 1) := by decide +kernel
theorem dX11_arrange_71 : decode cX11_arrange 71 = .ok (.invokestatic 80, 3) := by decide +kernel
theorem dX11_arrange_74 : decode cX11_arrange 74 = .ok (.iload_n 2, 1) := by decide +kernel
theorem dX11_arrange_75 : decode cX11_arrange 75 = .ok (.iadd, 1) := by decide +kernel
theorem dX11_arrange_76 : decode cX11_arrange 76 = .ok (.iload_n 3, 1) := by decide +kernel
theorem dX11_arrange_77 : decode cX11_arrange 77 = .ok (.iastore, 1) := by decide +kernel
theorem dX11_arrange_78 : decode cX11_arrange 78 = .ok (.iload 4, 2) := by decide +kernel
theorem dX11_arrange_80 : decode cX11_arrange 80 = .ok (.ireturn, 1) := by decide +kernel
theorem dX11_mostOf_0 : decode cX11_mostOf 0 = .ok (.iload_n 0, 1) := by decide +kernel
theorem dX11_mostOf_1 : decode cX11_mostOf 1 = .ok (.iconst 2, 1) := by decide +kernel
theorem dX11_mostOf_2 : decode cX11_mostOf 2 = .ok (.if_icmp .ge 8, 3) := by decide +kernel
theorem dX11_mostOf_5 : decode cX11_mostOf 5 = .ok (.bipush 99, 2) := by decide +kernel
theorem dX11_mostOf_7 : decode cX11_mostOf 7 = .ok (.goto 25, 3) := by decide +kernel
theorem dX11_mostOf_10 : decode cX11_mostOf 10 = .ok (.iload_n 0, 1) := by decide +kernel
theorem dX11_mostOf_11 : decode cX11_mostOf 11 = .ok (.iconst 2, 1) := by decide +kernel
theorem dX11_mostOf_12 : decode cX11_mostOf 12 = .ok (.if_icmp .ne 8, 3) := by decide +kernel
theorem dX11_mostOf_15 : decode cX11_mostOf 15 = .ok (.bipush 20, 2) := by decide +kernel
theorem dX11_mostOf_17 : decode cX11_mostOf 17 = .ok (.goto 15, 3) := by decide +kernel
theorem dX11_mostOf_20 : decode cX11_mostOf 20 = .ok (.iload_n 0, 1) := by decide +kernel
theorem dX11_mostOf_21 : decode cX11_mostOf 21 = .ok (.iconst 4, 1) := by decide +kernel
theorem dX11_mostOf_22 : decode cX11_mostOf 22 = .ok (.if_icmp .ne 8, 3) := by decide +kernel
theorem dX11_mostOf_25 : decode cX11_mostOf 25 = .ok (.bipush 48, 2) := by decide +kernel
theorem dX11_mostOf_27 : decode cX11_mostOf 27 = .ok (.goto 5, 3) := by decide +kernel
theorem dX11_mostOf_30 : decode cX11_mostOf 30 = .ok (.bipush 9, 2) := by decide +kernel
theorem dX11_mostOf_32 : decode cX11_mostOf 32 = .ok (.ireturn, 1) := by decide +kernel
theorem dX11_rule_0 : decode cX11_rule 0 = .ok (.iload_n 1, 1) := by decide +kernel
theorem dX11_rule_1 : decode cX11_rule 1 = .ok (.iconst 0, 1) := by decide +kernel
theorem dX11_rule_2 : decode cX11_rule 2 = .ok (.iconst 5, 1) := by decide +kernel
theorem dX11_rule_3 : decode cX11_rule 3 = .ok (.invokestatic 90, 3) := by decide +kernel
theorem dX11_rule_6 : decode cX11_rule 6 = .ok (.ifCond .eq 15, 3) := by decide +kernel
theorem dX11_rule_9 : decode cX11_rule 9 = .ok (.iload_n 2, 1) := by decide +kernel
theorem dX11_rule_10 : decode cX11_rule 10 = .ok (.iconst 1, 1) := by decide +kernel
theorem dX11_rule_11 : decode cX11_rule 11 = .ok (.iload_n 1, 1) := by decide +kernel
theorem dX11_rule_12 : decode cX11_rule 12 = .ok (.invokestatic 242, 3) := by decide +kernel
theorem dX11_rule_15 : decode cX11_rule 15 = .ok (.invokestatic 90, 3) := by decide +kernel
theorem dX11_rule_18 : decode cX11_rule 18 = .ok (.ifCond .ne 10, 3) := by decide +kernel
theorem dX11_rule_21 : decode cX11_rule 21 = .ok (.aload_n 0, 1) := by decide +kernel
theorem dX11_rule_22 : decode cX11_rule 22 = .ok (.bipush (-2), 2) := by decide +kernel
theorem dX11_rule_24 : decode cX11_rule 24 = .ok (.invokevirtual 199, 3) := by decide +kernel
theorem dX11_rule_27 : decode cX11_rule 27 = .ok (.ireturn, 1) := by decide +kernel
theorem dX11_rule_28 : decode cX11_rule 28 = .ok (.aload_n 0, 1) := by decide +kernel
theorem dX11_rule_29 : decode cX11_rule 29 = .ok (.getfield 7, 3) := by decide +kernel
theorem dX11_rule_32 : decode cX11_rule 32 = .ok (.iconst 4, 1) := by decide +kernel
theorem dX11_rule_33 : decode cX11_rule 33 = .ok (.iload_n 1, 1) := by decide +kernel
theorem dX11_rule_34 : decode cX11_rule 34 = .ok (.iadd, 1) := by decide +kernel
theorem dX11_rule_35 : decode cX11_rule 35 = .ok (.iaload, 1) := by decide +kernel
theorem dX11_rule_36 : decode cX11_rule 36 = .ok (.istore_n 3, 1) := by decide +kernel
theorem dX11_rule_37 : decode cX11_rule 37 = .ok (.aload_n 0, 1) := by decide +kernel
theorem dX11_rule_38 : decode cX11_rule 38 = .ok (.getfield 7, 3) := by decide +kernel
theorem dX11_rule_41 : decode cX11_rule 41 = .ok (.iconst 4, 1) := by decide +kernel
theorem dX11_rule_42 : decode cX11_rule 42 = .ok (.iload_n 1, 1) := by decide +kernel
theorem dX11_rule_43 : decode cX11_rule 43 = .ok (.iadd, 1) := by decide +kernel
theorem dX11_rule_44 : decode cX11_rule 44 = .ok (.iload_n 2, 1) := by decide +kernel
theorem dX11_rule_45 : decode cX11_rule 45 = .ok (.iastore, 1) := by decide +kernel
theorem dX11_rule_46 : decode cX11_rule 46 = .ok (.iload_n 3, 1) := by decide +kernel
theorem dX11_rule_47 : decode cX11_rule 47 = .ok (.ireturn, 1) := by decide +kernel
theorem dX11_pardon_0 : decode cX11_pardon 0 = .ok (.iload_n 1, 1) := by decide +kernel
theorem dX11_pardon_1 : decode cX11_pardon 1 = .ok (.invokestatic 158, 3) := by decide +kernel
theorem dX11_pardon_4 : decode cX11_pardon 4 = .ok (.ifCond .ne 10, 3) := by decide +kernel
theorem dX11_pardon_7 : decode cX11_pardon 7 = .ok (.aload_n 0, 1) := by decide +kernel
theorem dX11_pardon_8 : decode cX11_pardon 8 = .ok (.bipush (-2), 2) := by decide +kernel
theorem dX11_pardon_10 : decode cX11_pardon 10 = .ok (.invokevirtual 199, 3) := by decide +kernel
theorem dX11_pardon_13 : decode cX11_pardon 13 = .ok (.ireturn, 1) := by decide +kernel
theorem dX11_pardon_14 : decode cX11_pardon 14 = .ok (.aload_n 0, 1) := by decide +kernel
theorem dX11_pardon_15 : decode cX11_pardon 15 = .ok (.getfield 16, 3) := by decide +kernel
theorem dX11_pardon_18 : decode cX11_pardon 18 = .ok (.iload_n 1, 1) := by decide +kernel
theorem dX11_pardon_19 : decode cX11_pardon 19 = .ok (.iaload, 1) := by decide +kernel
theorem dX11_pardon_20 : decode cX11_pardon 20 = .ok (.ifCond .ne 10, 3) := by decide +kernel
theorem dX11_pardon_23 : decode cX11_pardon 23 = .ok (.aload_n 0, 1) := by decide +kernel
theorem dX11_pardon_24 : decode cX11_pardon 24 = .ok (.bipush (-3), 2) := by decide +kernel
theorem dX11_pardon_26 : decode cX11_pardon 26 = .ok (.invokevirtual 199, 3) := by decide +kernel
theorem dX11_pardon_29 : decode cX11_pardon 29 = .ok (.ireturn, 1) := by decide +kernel
theorem dX11_pardon_30 : decode cX11_pardon 30 = .ok (.aload_n 0, 1) := by decide +kernel
theorem dX11_pardon_31 : decode cX11_pardon 31 = .ok (.getfield 16, 3) := by decide +kernel
theorem dX11_pardon_34 : decode cX11_pardon 34 = .ok (.iload_n 1, 1) := by decide +kernel
theorem dX11_pardon_35 : decode cX11_pardon 35 = .ok (.iaload, 1) := by decide +kernel
theorem dX11_pardon_36 : decode cX11_pardon 36 = .ok (.istore_n 2, 1) := by decide +kernel
theorem dX11_pardon_37 : decode cX11_pardon 37 = .ok (.aload_n 0, 1) := by decide +kernel
theorem dX11_pardon_38 : decode cX11_pardon 38 = .ok (.getfield 16, 3) := by decide +kernel
theorem dX11_pardon_41 : decode cX11_pardon 41 = .ok (.iload_n 1, 1) := by decide +kernel
theorem dX11_pardon_42 : decode cX11_pardon 42 = .ok (.iconst 0, 1) := by decide +kernel
theorem dX11_pardon_43 : decode cX11_pardon 43 = .ok (.iastore, 1) := by decide +kernel
theorem dX11_pardon_44 : decode cX11_pardon 44 = .ok (.iload_n 2, 1) := by decide +kernel
theorem dX11_pardon_45 : decode cX11_pardon 45 = .ok (.ireturn, 1) := by decide +kernel
theorem dX11_draw_0 : decode cX11_draw 0 = .ok (.aload_n 0, 1) := by decide +kernel
theorem dX11_draw_1 : decode cX11_draw 1 = .ok (.ldc2_w 245, 3) := by decide +kernel
theorem dX11_draw_4 : decode cX11_draw 4 = .ok (.aload_n 0, 1) := by decide +kernel
theorem dX11_draw_5 : decode cX11_draw 5 = .ok (.getfield 55, 3) := by decide +kernel
theorem dX11_draw_8 : decode cX11_draw 8 = .ok (.lmul, 1) := by decide +kernel
theorem dX11_draw_9 : decode cX11_draw 9 = .ok (.ldc2_w 247, 3) := by decide +kernel
theorem dX11_draw_12 : decode cX11_draw 12 = .ok (.ladd, 1) := by decide +kernel
theorem dX11_draw_13 : decode cX11_draw 13 = .ok (.ldc2_w 249, 3) := by decide +kernel
theorem dX11_draw_16 : decode cX11_draw 16 = .ok (.lrem, 1) := by decide +kernel
theorem dX11_draw_17 : decode cX11_draw 17 = .ok (.putfield 55, 3) := by decide +kernel
theorem dX11_draw_20 : decode cX11_draw 20 = .ok (.aload_n 0, 1) := by decide +kernel
theorem dX11_draw_21 : decode cX11_draw 21 = .ok (.getfield 55, 3) := by decide +kernel
theorem dX11_draw_24 : decode cX11_draw 24 = .ok (.ldc2_w 251, 3) := by decide +kernel
theorem dX11_draw_27 : decode cX11_draw 27 = .ok (.ldiv, 1) := by decide +kernel
theorem dX11_draw_28 : decode cX11_draw 28 = .ok (.iload_n 1, 1) := by decide +kernel
theorem dX11_draw_29 : decode cX11_draw 29 = .ok (.i2l, 1) := by decide +kernel
theorem dX11_draw_30 : decode cX11_draw 30 = .ok (.lrem, 1) := by decide +kernel
theorem dX11_draw_31 : decode cX11_draw 31 = .ok (.l2i, 1) := by decide +kernel
theorem dX11_draw_32 : decode cX11_draw 32 = .ok (.ireturn, 1) := by decide +kernel
theorem dX11_stepsOne_0 : decode cX11_stepsOne 0 = .ok (.aload_n 0, 1) := by decide +kernel
theorem dX11_stepsOne_1 : decode cX11_stepsOne 1 = .ok (.bipush 10, 2) := by decide +kernel
theorem dX11_stepsOne_3 : decode cX11_stepsOne 3 = .ok (.invokevirtual 253, 3) := by decide +kernel
theorem dX11_stepsOne_6 : decode cX11_stepsOne 6 = .ok (.istore_n 1, 1) := by decide +kernel
theorem dX11_stepsOne_7 : decode cX11_stepsOne 7 = .ok (.iload_n 1, 1) := by decide +kernel
theorem dX11_stepsOne_8 : decode cX11_stepsOne 8 = .ok (.iconst 3, 1) := by decide +kernel
theorem dX11_stepsOne_9 : decode cX11_stepsOne 9 = .ok (.if_icmp .ge 51, 3) := by decide +kernel
theorem dX11_stepsOne_12 : decode cX11_stepsOne 12 = .ok (.aload_n 0, 1) := by decide +kernel
theorem dX11_stepsOne_13 : decode cX11_stepsOne 13 = .ok (.iconst 5, 1) := by decide +kernel
theorem dX11_stepsOne_14 : decode cX11_stepsOne 14 = .ok (.invokevirtual 253, 3) := by decide +kernel
theorem dX11_stepsOne_17 : decode cX11_stepsOne 17 = .ok (.istore_n 2, 1) := by decide +kernel
theorem dX11_stepsOne_18 : decode cX11_stepsOne 18 = .ok (.aload_n 0, 1) := by decide +kernel
theorem dX11_stepsOne_19 : decode cX11_stepsOne 19 = .ok (.bipush 10, 2) := by decide +kernel
theorem dX11_stepsOne_21 : decode cX11_stepsOne 21 = .ok (.invokevirtual 253, 3) := by decide +kernel
theorem dX11_stepsOne_24 : decode cX11_stepsOne 24 = .ok (.istore_n 3, 1) := by decide +kernel
theorem dX11_stepsOne_25 : decode cX11_stepsOne 25 = .ok (.aload_n 0, 1) := by decide +kernel
theorem dX11_stepsOne_26 : decode cX11_stepsOne 26 = .ok (.bipush 20, 2) := by decide +kernel
theorem dX11_stepsOne_28 : decode cX11_stepsOne 28 = .ok (.invokevirtual 253, 3) := by decide +kernel
theorem dX11_stepsOne_31 : decode cX11_stepsOne 31 = .ok (.iconst 1, 1) := by decide +kernel
theorem dX11_stepsOne_32 : decode cX11_stepsOne 32 = .ok (.iadd, 1) := by decide +kernel
theorem dX11_stepsOne_33 : decode cX11_stepsOne 33 = .ok (.istore 4, 2) := by decide +kernel
theorem dX11_stepsOne_35 : decode cX11_stepsOne 35 = .ok (.aload_n 0, 1) := by decide +kernel
theorem dX11_stepsOne_36 : decode cX11_stepsOne 36 = .ok (.iload_n 2, 1) := by decide +kernel
theorem dX11_stepsOne_37 : decode cX11_stepsOne 37 = .ok (.iload_n 3, 1) := by decide +kernel
theorem dX11_stepsOne_38 : decode cX11_stepsOne 38 = .ok (.iload 4, 2) := by decide +kernel
theorem dX11_stepsOne_40 : decode cX11_stepsOne 40 = .ok (.aload_n 0, 1) := by decide +kernel
theorem dX11_stepsOne_41 : decode cX11_stepsOne 41 = .ok (.sipush 10000, 3) := by decide +kernel
theorem dX11_stepsOne_44 : decode cX11_stepsOne 44 = .ok (.invokevirtual 253, 3) := by decide +kernel
theorem dX11_stepsOne_47 : decode cX11_stepsOne 47 = .ok (.iconst (-1), 1) := by decide +kernel
theorem dX11_stepsOne_48 : decode cX11_stepsOne 48 = .ok (.invokevirtual 196, 3) := by decide +kernel
theorem dX11_stepsOne_51 : decode cX11_stepsOne 51 = .ok (.ifCond .lt 7, 3) := by decide +kernel
theorem dX11_stepsOne_54 : decode cX11_stepsOne 54 = .ok (.iconst 1, 1) := by decide +kernel
theorem dX11_stepsOne_55 : decode cX11_stepsOne 55 = .ok (.goto 4, 3) := by decide +kernel
theorem dX11_stepsOne_58 : decode cX11_stepsOne 58 = .ok (.iconst 0, 1) := by decide +kernel
theorem dX11_stepsOne_59 : decode cX11_stepsOne 59 = .ok (.ireturn, 1) := by decide +kernel
theorem dX11_stepsOne_60 : decode cX11_stepsOne 60 = .ok (.iload_n 1, 1) := by decide +kernel
theorem dX11_stepsOne_61 : decode cX11_stepsOne 61 = .ok (.bipush 8, 2) := by decide +kernel
theorem dX11_stepsOne_63 : decode cX11_stepsOne 63 = .ok (.if_icmp .ne 9, 3) := by decide +kernel
theorem dX11_stepsOne_66 : decode cX11_stepsOne 66 = .ok (.aload_n 0, 1) := by decide +kernel
theorem dX11_stepsOne_67 : decode cX11_stepsOne 67 = .ok (.invokevirtual 227, 3) := by decide +kernel
theorem dX11_stepsOne_70 : decode cX11_stepsOne 70 = .ok (.iconst 1, 1) := by decide +kernel
theorem dX11_stepsOne_71 : decode cX11_stepsOne 71 = .ok (.ireturn, 1) := by decide +kernel
theorem dX11_stepsOne_72 : decode cX11_stepsOne 72 = .ok (.iload_n 1, 1) := by decide +kernel
theorem dX11_stepsOne_73 : decode cX11_stepsOne 73 = .ok (.bipush 9, 2) := by decide +kernel
theorem dX11_stepsOne_75 : decode cX11_stepsOne 75 = .ok (.if_icmp .ne 55, 3) := by decide +kernel
theorem dX11_stepsOne_78 : decode cX11_stepsOne 78 = .ok (.aload_n 0, 1) := by decide +kernel
theorem dX11_stepsOne_79 : decode cX11_stepsOne 79 = .ok (.sipush 400, 3) := by decide +kernel
theorem dX11_stepsOne_82 : decode cX11_stepsOne 82 = .ok (.invokevirtual 253, 3) := by decide +kernel
theorem dX11_stepsOne_85 : decode cX11_stepsOne 85 = .ok (.istore_n 2, 1) := by decide +kernel
theorem dX11_stepsOne_86 : decode cX11_stepsOne 86 = .ok (.aload_n 0, 1) := by decide +kernel
theorem dX11_stepsOne_87 : decode cX11_stepsOne 87 = .ok (.bipush 10, 2) := by decide +kernel
theorem dX11_stepsOne_89 : decode cX11_stepsOne 89 = .ok (.invokevirtual 253, 3) := by decide +kernel
theorem dX11_stepsOne_92 : decode cX11_stepsOne 92 = .ok (.istore_n 3, 1) := by decide +kernel
theorem dX11_stepsOne_93 : decode cX11_stepsOne 93 = .ok (.aload_n 0, 1) := by decide +kernel
theorem dX11_stepsOne_94 : decode cX11_stepsOne 94 = .ok (.iload_n 2, 1) := by decide +kernel
theorem dX11_stepsOne_95 : decode cX11_stepsOne 95 = .ok (.invokevirtual 161, 3) := by decide +kernel
theorem dX11_stepsOne_98 : decode cX11_stepsOne 98 = .ok (.ifCond .eq 21, 3) := by decide +kernel
theorem dX11_stepsOne_101 : decode cX11_stepsOne 101 = .ok (.aload_n 0, 1) := by decide +kernel
theorem dX11_stepsOne_102 : decode cX11_stepsOne 102 = .ok (.iload_n 2, 1) := by decide +kernel
theorem dX11_stepsOne_103 : decode cX11_stepsOne 103 = .ok (.invokevirtual 230, 3) := by decide +kernel
theorem dX11_stepsOne_106 : decode cX11_stepsOne 106 = .ok (.ifCond .eq 13, 3) := by decide +kernel
theorem dX11_stepsOne_109 : decode cX11_stepsOne 109 = .ok (.aload_n 0, 1) := by decide +kernel
theorem dX11_stepsOne_110 : decode cX11_stepsOne 110 = .ok (.iload_n 2, 1) := by decide +kernel
theorem dX11_stepsOne_111 : decode cX11_stepsOne 111 = .ok (.iconst 1, 1) := by decide +kernel
theorem dX11_stepsOne_112 : decode cX11_stepsOne 112 = .ok (.invokevirtual 94, 3) := by decide +kernel
theorem dX11_stepsOne_115 : decode cX11_stepsOne 115 = .ok (.iload_n 3, 1) := by decide +kernel
theorem dX11_stepsOne_116 : decode cX11_stepsOne 116 = .ok (.if_icmp .ne 5, 3) := by decide +kernel
theorem dX11_stepsOne_119 : decode cX11_stepsOne 119 = .ok (.iconst 0, 1) := by decide +kernel
theorem dX11_stepsOne_120 : decode cX11_stepsOne 120 = .ok (.ireturn, 1) := by decide +kernel
theorem dX11_stepsOne_121 : decode cX11_stepsOne 121 = .ok (.aload_n 0, 1) := by decide +kernel
theorem dX11_stepsOne_122 : decode cX11_stepsOne 122 = .ok (.iload_n 2, 1) := by decide +kernel
theorem dX11_stepsOne_123 : decode cX11_stepsOne 123 = .ok (.iconst 1, 1) := by decide +kernel
theorem dX11_stepsOne_124 : decode cX11_stepsOne 124 = .ok (.iload_n 3, 1) := by decide +kernel
theorem dX11_stepsOne_125 : decode cX11_stepsOne 125 = .ok (.invokevirtual 121, 3) := by decide +kernel
theorem dX11_stepsOne_128 : decode cX11_stepsOne 128 = .ok (.iconst 1, 1) := by decide +kernel
theorem dX11_stepsOne_129 : decode cX11_stepsOne 129 = .ok (.ireturn, 1) := by decide +kernel
theorem dX11_stepsOne_130 : decode cX11_stepsOne 130 = .ok (.aload_n 0, 1) := by decide +kernel
theorem dX11_stepsOne_131 : decode cX11_stepsOne 131 = .ok (.bipush 6, 2) := by decide +kernel
theorem dX11_stepsOne_133 : decode cX11_stepsOne 133 = .ok (.invokevirtual 253, 3) := by decide +kernel
theorem dX11_stepsOne_136 : decode cX11_stepsOne 136 = .ok (.istore_n 2, 1) := by decide +kernel
theorem dX11_stepsOne_137 : decode cX11_stepsOne 137 = .ok (.iload_n 1, 1) := by decide +kernel
theorem dX11_stepsOne_138 : decode cX11_stepsOne 138 = .ok (.bipush 7, 2) := by decide +kernel
theorem dX11_stepsOne_140 : decode cX11_stepsOne 140 = .ok (.if_icmp .ne 14, 3) := by decide +kernel
theorem dX11_stepsOne_143 : decode cX11_stepsOne 143 = .ok (.aload_n 0, 1) := by decide +kernel
theorem dX11_stepsOne_144 : decode cX11_stepsOne 144 = .ok (.bipush 99, 2) := by decide +kernel
theorem dX11_stepsOne_146 : decode cX11_stepsOne 146 = .ok (.invokevirtual 253, 3) := by decide +kernel
theorem dX11_stepsOne_149 : decode cX11_stepsOne 149 = .ok (.iconst 1, 1) := by decide +kernel
theorem dX11_stepsOne_150 : decode cX11_stepsOne 150 = .ok (.iadd, 1) := by decide +kernel
theorem dX11_stepsOne_151 : decode cX11_stepsOne 151 = .ok (.goto 4, 3) := by decide +kernel
theorem dX11_stepsOne_154 : decode cX11_stepsOne 154 = .ok (.iconst 0, 1) := by decide +kernel
theorem dX11_stepsOne_155 : decode cX11_stepsOne 155 = .ok (.istore_n 3, 1) := by decide +kernel
theorem dX11_stepsOne_156 : decode cX11_stepsOne 156 = .ok (.aload_n 0, 1) := by decide +kernel
theorem dX11_stepsOne_157 : decode cX11_stepsOne 157 = .ok (.getfield 7, 3) := by decide +kernel
theorem dX11_stepsOne_160 : decode cX11_stepsOne 160 = .ok (.iload_n 2, 1) := by decide +kernel
theorem dX11_stepsOne_161 : decode cX11_stepsOne 161 = .ok (.invokestatic 84, 3) := by decide +kernel
theorem dX11_stepsOne_164 : decode cX11_stepsOne 164 = .ok (.iaload, 1) := by decide +kernel
theorem dX11_stepsOne_165 : decode cX11_stepsOne 165 = .ok (.istore 4, 2) := by decide +kernel
theorem dX11_stepsOne_167 : decode cX11_stepsOne 167 = .ok (.iload_n 1, 1) := by decide +kernel
theorem dX11_stepsOne_168 : decode cX11_stepsOne 168 = .ok (.iconst 5, 1) := by decide +kernel
theorem dX11_stepsOne_169 : decode cX11_stepsOne 169 = .ok (.if_icmp .ge 24, 3) := by decide +kernel
theorem dX11_stepsOne_172 : decode cX11_stepsOne 172 = .ok (.iload 4, 2) := by decide +kernel
theorem dX11_stepsOne_174 : decode cX11_stepsOne 174 = .ok (.iconst (-1), 1) := by decide +kernel
theorem dX11_stepsOne_175 : decode cX11_stepsOne 175 = .ok (.if_icmp .ne 16, 3) := by decide +kernel
theorem dX11_stepsOne_178 : decode cX11_stepsOne 178 = .ok (.aload_n 0, 1) := by decide +kernel
theorem dX11_stepsOne_179 : decode cX11_stepsOne 179 = .ok (.iload_n 2, 1) := by decide +kernel
theorem dX11_stepsOne_180 : decode cX11_stepsOne 180 = .ok (.invokevirtual 215, 3) := by decide +kernel
theorem dX11_stepsOne_183 : decode cX11_stepsOne 183 = .ok (.iconst (-1), 1) := by decide +kernel
theorem dX11_stepsOne_184 : decode cX11_stepsOne 184 = .ok (.if_icmp .eq 7, 3) := by decide +kernel
theorem dX11_stepsOne_187 : decode cX11_stepsOne 187 = .ok (.iconst 1, 1) := by decide +kernel
theorem dX11_stepsOne_188 : decode cX11_stepsOne 188 = .ok (.goto 4, 3) := by decide +kernel
theorem dX11_stepsOne_191 : decode cX11_stepsOne 191 = .ok (.iconst 0, 1) := by decide +kernel
theorem dX11_stepsOne_192 : decode cX11_stepsOne 192 = .ok (.ireturn, 1) := by decide +kernel
theorem dX11_stepsOne_193 : decode cX11_stepsOne 193 = .ok (.iload 4, 2) := by decide +kernel
theorem dX11_stepsOne_195 : decode cX11_stepsOne 195 = .ok (.iconst (-1), 1) := by decide +kernel
theorem dX11_stepsOne_196 : decode cX11_stepsOne 196 = .ok (.if_icmp .ne 5, 3) := by decide +kernel
theorem dX11_stepsOne_199 : decode cX11_stepsOne 199 = .ok (.iconst 0, 1) := by decide +kernel
theorem dX11_stepsOne_200 : decode cX11_stepsOne 200 = .ok (.ireturn, 1) := by decide +kernel
theorem dX11_stepsOne_201 : decode cX11_stepsOne 201 = .ok (.iload_n 1, 1) := by decide +kernel
theorem dX11_stepsOne_202 : decode cX11_stepsOne 202 = .ok (.bipush 7, 2) := by decide +kernel
theorem dX11_stepsOne_204 : decode cX11_stepsOne 204 = .ok (.if_icmp .ne 14, 3) := by decide +kernel
theorem dX11_stepsOne_207 : decode cX11_stepsOne 207 = .ok (.aload_n 0, 1) := by decide +kernel
theorem dX11_stepsOne_208 : decode cX11_stepsOne 208 = .ok (.iload 4, 2) := by decide +kernel
theorem dX11_stepsOne_210 : decode cX11_stepsOne 210 = .ok (.iload_n 3, 1) := by decide +kernel
theorem dX11_stepsOne_211 : decode cX11_stepsOne 211 = .ok (.invokevirtual 187, 3) := by decide +kernel
theorem dX11_stepsOne_214 : decode cX11_stepsOne 214 = .ok (.pop, 1) := by decide +kernel
theorem dX11_stepsOne_215 : decode cX11_stepsOne 215 = .ok (.goto 9, 3) := by decide +kernel
theorem dX11_stepsOne_218 : decode cX11_stepsOne 218 = .ok (.aload_n 0, 1) := by decide +kernel
theorem dX11_stepsOne_219 : decode cX11_stepsOne 219 = .ok (.iload 4, 2) := by decide +kernel
theorem dX11_stepsOne_221 : decode cX11_stepsOne 221 = .ok (.invokevirtual 221, 3) := by decide +kernel
theorem dX11_stepsOne_224 : decode cX11_stepsOne 224 = .ok (.iconst 1, 1) := by decide +kernel
theorem dX11_stepsOne_225 : decode cX11_stepsOne 225 = .ok (.ireturn, 1) := by decide +kernel
theorem dX11_steps_0 : decode cX11_steps 0 = .ok (.iload_n 1, 1) := by decide +kernel
theorem dX11_steps_1 : decode cX11_steps 1 = .ok (.ifCond .lt 13, 3) := by decide +kernel
theorem dX11_steps_4 : decode cX11_steps 4 = .ok (.iload_n 2, 1) := by decide +kernel
theorem dX11_steps_5 : decode cX11_steps 5 = .ok (.iconst 1, 1) := by decide +kernel
theorem dX11_steps_6 : decode cX11_steps 6 = .ok (.bipush 60, 2) := by decide +kernel
theorem dX11_steps_8 : decode cX11_steps 8 = .ok (.invokestatic 90, 3) := by decide +kernel
theorem dX11_steps_11 : decode cX11_steps 11 = .ok (.ifCond .ne 10, 3) := by decide +kernel
theorem dX11_steps_14 : decode cX11_steps 14 = .ok (.aload_n 0, 1) := by decide +kernel
theorem dX11_steps_15 : decode cX11_steps 15 = .ok (.bipush (-2), 2) := by decide +kernel
theorem dX11_steps_17 : decode cX11_steps 17 = .ok (.invokevirtual 199, 3) := by decide +kernel
theorem dX11_steps_20 : decode cX11_steps 20 = .ok (.ireturn, 1) := by decide +kernel
theorem dX11_steps_21 : decode cX11_steps 21 = .ok (.aload_n 0, 1) := by decide +kernel
theorem dX11_steps_22 : decode cX11_steps 22 = .ok (.iload_n 1, 1) := by decide +kernel
theorem dX11_steps_23 : decode cX11_steps 23 = .ok (.i2l, 1) := by decide +kernel
theorem dX11_steps_24 : decode cX11_steps 24 = .ok (.putfield 55, 3) := by decide +kernel
theorem dX11_steps_27 : decode cX11_steps 27 = .ok (.iconst 0, 1) := by decide +kernel
theorem dX11_steps_28 : decode cX11_steps 28 = .ok (.istore_n 3, 1) := by decide +kernel
theorem dX11_steps_29 : decode cX11_steps 29 = .ok (.iconst 0, 1) := by decide +kernel
theorem dX11_steps_30 : decode cX11_steps 30 = .ok (.istore 4, 2) := by decide +kernel
theorem dX11_steps_32 : decode cX11_steps 32 = .ok (.iload 4, 2) := by decide +kernel
theorem dX11_steps_34 : decode cX11_steps 34 = .ok (.iload_n 2, 1) := by decide +kernel
theorem dX11_steps_35 : decode cX11_steps 35 = .ok (.if_icmp .ge 24, 3) := by decide +kernel
theorem dX11_steps_38 : decode cX11_steps 38 = .ok (.iload_n 3, 1) := by decide +kernel
theorem dX11_steps_39 : decode cX11_steps 39 = .ok (.aload_n 0, 1) := by decide +kernel
theorem dX11_steps_40 : decode cX11_steps 40 = .ok (.invokevirtual 256, 3) := by decide +kernel
theorem dX11_steps_43 : decode cX11_steps 43 = .ok (.ifCond .eq 7, 3) := by decide +kernel
theorem dX11_steps_46 : decode cX11_steps 46 = .ok (.iconst 1, 1) := by decide +kernel
theorem dX11_steps_47 : decode cX11_steps 47 = .ok (.goto 4, 3) := by decide +kernel
theorem dX11_steps_50 : decode cX11_steps 50 = .ok (.iconst 0, 1) := by decide +kernel
theorem dX11_steps_51 : decode cX11_steps 51 = .ok (.iadd, 1) := by decide +kernel
theorem dX11_steps_52 : decode cX11_steps 52 = .ok (.istore_n 3, 1) := by decide +kernel
theorem dX11_steps_53 : decode cX11_steps 53 = .ok (.iinc 4 1, 3) := by decide +kernel
theorem dX11_steps_56 : decode cX11_steps 56 = .ok (.goto (-24), 3) := by decide +kernel
theorem dX11_steps_59 : decode cX11_steps 59 = .ok (.iload_n 3, 1) := by decide +kernel
theorem dX11_steps_60 : decode cX11_steps 60 = .ok (.ireturn, 1) := by decide +kernel
theorem dX11_liveMany_0 : decode cX11_liveMany 0 = .ok (.iconst 0, 1) := by decide +kernel
theorem dX11_liveMany_1 : decode cX11_liveMany 1 = .ok (.istore_n 1, 1) := by decide +kernel
theorem dX11_liveMany_2 : decode cX11_liveMany 2 = .ok (.iconst 0, 1) := by decide +kernel
theorem dX11_liveMany_3 : decode cX11_liveMany 3 = .ok (.istore_n 2, 1) := by decide +kernel
theorem dX11_liveMany_4 : decode cX11_liveMany 4 = .ok (.iload_n 2, 1) := by decide +kernel
theorem dX11_liveMany_5 : decode cX11_liveMany 5 = .ok (.iconst 5, 1) := by decide +kernel
theorem dX11_liveMany_6 : decode cX11_liveMany 6 = .ok (.if_icmp .ge 25, 3) := by decide +kernel
theorem dX11_liveMany_9 : decode cX11_liveMany 9 = .ok (.iload_n 1, 1) := by decide +kernel
theorem dX11_liveMany_10 : decode cX11_liveMany 10 = .ok (.aload_n 0, 1) := by decide +kernel
theorem dX11_liveMany_11 : decode cX11_liveMany 11 = .ok (.iload_n 2, 1) := by decide +kernel
theorem dX11_liveMany_12 : decode cX11_liveMany 12 = .ok (.invokevirtual 109, 3) := by decide +kernel
theorem dX11_liveMany_15 : decode cX11_liveMany 15 = .ok (.ifCond .eq 7, 3) := by decide +kernel
theorem dX11_liveMany_18 : decode cX11_liveMany 18 = .ok (.iconst 1, 1) := by decide +kernel
theorem dX11_liveMany_19 : decode cX11_liveMany 19 = .ok (.goto 4, 3) := by decide +kernel
theorem dX11_liveMany_22 : decode cX11_liveMany 22 = .ok (.iconst 0, 1) := by decide +kernel
theorem dX11_liveMany_23 : decode cX11_liveMany 23 = .ok (.iadd, 1) := by decide +kernel
theorem dX11_liveMany_24 : decode cX11_liveMany 24 = .ok (.istore_n 1, 1) := by decide +kernel
theorem dX11_liveMany_25 : decode cX11_liveMany 25 = .ok (.iinc 2 1, 3) := by decide +kernel
theorem dX11_liveMany_28 : decode cX11_liveMany 28 = .ok (.goto (-24), 3) := by decide +kernel
theorem dX11_liveMany_31 : decode cX11_liveMany 31 = .ok (.iload_n 1, 1) := by decide +kernel
theorem dX11_liveMany_32 : decode cX11_liveMany 32 = .ok (.ireturn, 1) := by decide +kernel
theorem dX11_store_0 : decode cX11_store 0 = .ok (.iload_n 1, 1) := by decide +kernel
theorem dX11_store_1 : decode cX11_store 1 = .ok (.iconst 1, 1) := by decide +kernel
theorem dX11_store_2 : decode cX11_store 2 = .ok (.bipush 7, 2) := by decide +kernel
theorem dX11_store_4 : decode cX11_store 4 = .ok (.invokestatic 90, 3) := by decide +kernel
theorem dX11_store_7 : decode cX11_store 7 = .ok (.ifCond .eq 12, 3) := by decide +kernel
theorem dX11_store_10 : decode cX11_store 10 = .ok (.aload_n 0, 1) := by decide +kernel
theorem dX11_store_11 : decode cX11_store 11 = .ok (.iconst (-1), 1) := by decide +kernel
theorem dX11_store_12 : decode cX11_store 12 = .ok (.iload_n 1, 1) := by decide +kernel
theorem dX11_store_13 : decode cX11_store 13 = .ok (.iconst 1, 1) := by decide +kernel
theorem dX11_store_14 : decode cX11_store 14 = .ok (.isub, 1) := by decide +kernel
theorem dX11_store_15 : decode cX11_store 15 = .ok (.invokevirtual 112, 3) := by decide +kernel
theorem dX11_store_18 : decode cX11_store 18 = .ok (.ireturn, 1) := by decide +kernel
theorem dX11_store_19 : decode cX11_store 19 = .ok (.iload_n 1, 1) := by decide +kernel
theorem dX11_store_20 : decode cX11_store 20 = .ok (.bipush 13, 2) := by decide +kernel
theorem dX11_store_22 : decode cX11_store 22 = .ok (.bipush 18, 2) := by decide +kernel
theorem dX11_store_24 : decode cX11_store 24 = .ok (.invokestatic 90, 3) := by decide +kernel
theorem dX11_store_27 : decode cX11_store 27 = .ok (.ifCond .eq 15, 3) := by decide +kernel
theorem dX11_store_30 : decode cX11_store 30 = .ok (.aload_n 0, 1) := by decide +kernel
theorem dX11_store_31 : decode cX11_store 31 = .ok (.getfield 7, 3) := by decide +kernel
theorem dX11_store_34 : decode cX11_store 34 = .ok (.iconst 4, 1) := by decide +kernel
theorem dX11_store_35 : decode cX11_store 35 = .ok (.iload_n 1, 1) := by decide +kernel
theorem dX11_store_36 : decode cX11_store 36 = .ok (.iadd, 1) := by decide +kernel
theorem dX11_store_37 : decode cX11_store 37 = .ok (.bipush 13, 2) := by decide +kernel
theorem dX11_store_39 : decode cX11_store 39 = .ok (.isub, 1) := by decide +kernel
theorem dX11_store_40 : decode cX11_store 40 = .ok (.iaload, 1) := by decide +kernel
theorem dX11_store_41 : decode cX11_store 41 = .ok (.ireturn, 1) := by decide +kernel
theorem dX11_store_42 : decode cX11_store 42 = .ok (.iload_n 1, 1) := by decide +kernel
theorem dX11_store_43 : decode cX11_store 43 = .ok (.tableswitch 102 0 12 #[65, 102, 102, 102, 102, 102, 102, 102, 72, 79, 85, 90, 97], 65) := by decide +kernel
theorem dX11_store_108 : decode cX11_store 108 = .ok (.aload_n 0, 1) := by decide +kernel
theorem dX11_store_109 : decode cX11_store 109 = .ok (.getfield 7, 3) := by decide +kernel
theorem dX11_store_112 : decode cX11_store 112 = .ok (.iconst 0, 1) := by decide +kernel
theorem dX11_store_113 : decode cX11_store 113 = .ok (.iaload, 1) := by decide +kernel
theorem dX11_store_114 : decode cX11_store 114 = .ok (.ireturn, 1) := by decide +kernel
theorem dX11_store_115 : decode cX11_store 115 = .ok (.aload_n 0, 1) := by decide +kernel
theorem dX11_store_116 : decode cX11_store 116 = .ok (.getfield 7, 3) := by decide +kernel
theorem dX11_store_119 : decode cX11_store 119 = .ok (.iconst 1, 1) := by decide +kernel
theorem dX11_store_120 : decode cX11_store 120 = .ok (.iaload, 1) := by decide +kernel
theorem dX11_store_121 : decode cX11_store 121 = .ok (.ireturn, 1) := by decide +kernel
theorem dX11_store_122 : decode cX11_store 122 = .ok (.aload_n 0, 1) := by decide +kernel
theorem dX11_store_123 : decode cX11_store 123 = .ok (.iconst (-1), 1) := by decide +kernel
theorem dX11_store_124 : decode cX11_store 124 = .ok (.invokevirtual 115, 3) := by decide +kernel
theorem dX11_store_127 : decode cX11_store 127 = .ok (.ireturn, 1) := by decide +kernel
theorem dX11_store_128 : decode cX11_store 128 = .ok (.aload_n 0, 1) := by decide +kernel
theorem dX11_store_129 : decode cX11_store 129 = .ok (.getfield 32, 3) := by decide +kernel
theorem dX11_store_132 : decode cX11_store 132 = .ok (.ireturn, 1) := by decide +kernel
theorem dX11_store_133 : decode cX11_store 133 = .ok (.aload_n 0, 1) := by decide +kernel
theorem dX11_store_134 : decode cX11_store 134 = .ok (.getfield 7, 3) := by decide +kernel
theorem dX11_store_137 : decode cX11_store 137 = .ok (.iconst 2, 1) := by decide +kernel
theorem dX11_store_138 : decode cX11_store 138 = .ok (.iaload, 1) := by decide +kernel
theorem dX11_store_139 : decode cX11_store 139 = .ok (.ireturn, 1) := by decide +kernel
theorem dX11_store_140 : decode cX11_store 140 = .ok (.aload_n 0, 1) := by decide +kernel
theorem dX11_store_141 : decode cX11_store 141 = .ok (.invokevirtual 260, 3) := by decide +kernel
theorem dX11_store_144 : decode cX11_store 144 = .ok (.ireturn, 1) := by decide +kernel
theorem dX11_store_145 : decode cX11_store 145 = .ok (.iconst (-1), 1) := by decide +kernel
theorem dX11_store_146 : decode cX11_store 146 = .ok (.ireturn, 1) := by decide +kernel
theorem dX11_lane_0 : decode cX11_lane 0 = .ok (.aload_n 0, 1) := by decide +kernel
theorem dX11_lane_1 : decode cX11_lane 1 = .ok (.iload_n 1, 1) := by decide +kernel
theorem dX11_lane_2 : decode cX11_lane 2 = .ok (.invokevirtual 152, 3) := by decide +kernel
theorem dX11_lane_5 : decode cX11_lane 5 = .ok (.ifCond .ne 5, 3) := by decide +kernel
theorem dX11_lane_8 : decode cX11_lane 8 = .ok (.iconst (-1), 1) := by decide +kernel
theorem dX11_lane_9 : decode cX11_lane 9 = .ok (.ireturn, 1) := by decide +kernel
theorem dX11_lane_10 : decode cX11_lane 10 = .ok (.iload_n 2, 1) := by decide +kernel
theorem dX11_lane_11 : decode cX11_lane 11 = .ok (.tableswitch 158 0 9 #[53, 65, 77, 89, 101, 108, 114, 126, 139, 151], 53) := by decide +kernel
theorem dX11_lane_64 : decode cX11_lane 64 = .ok (.aload_n 0, 1) := by decide +kernel
theorem dX11_lane_65 : decode cX11_lane 65 = .ok (.getfield 7, 3) := by decide +kernel
theorem dX11_lane_68 : decode cX11_lane 68 = .ok (.iload_n 1, 1) := by decide +kernel
theorem dX11_lane_69 : decode cX11_lane 69 = .ok (.invokestatic 80, 3) := by decide +kernel
theorem dX11_lane_72 : decode cX11_lane 72 = .ok (.iconst 0, 1) := by decide +kernel
theorem dX11_lane_73 : decode cX11_lane 73 = .ok (.iadd, 1) := by decide +kernel
theorem dX11_lane_74 : decode cX11_lane 74 = .ok (.iaload, 1) := by decide +kernel
theorem dX11_lane_75 : decode cX11_lane 75 = .ok (.ireturn, 1) := by decide +kernel
theorem dX11_lane_76 : decode cX11_lane 76 = .ok (.aload_n 0, 1) := by decide +kernel
theorem dX11_lane_77 : decode cX11_lane 77 = .ok (.getfield 7, 3) := by decide +kernel
theorem dX11_lane_80 : decode cX11_lane 80 = .ok (.iload_n 1, 1) := by decide +kernel
theorem dX11_lane_81 : decode cX11_lane 81 = .ok (.invokestatic 80, 3) := by decide +kernel
theorem dX11_lane_84 : decode cX11_lane 84 = .ok (.iconst 1, 1) := by decide +kernel
theorem dX11_lane_85 : decode cX11_lane 85 = .ok (.iadd, 1) := by decide +kernel
theorem dX11_lane_86 : decode cX11_lane 86 = .ok (.iaload, 1) := by decide +kernel
theorem dX11_lane_87 : decode cX11_lane 87 = .ok (.ireturn, 1) := by decide +kernel
theorem dX11_lane_88 : decode cX11_lane 88 = .ok (.aload_n 0, 1) := by decide +kernel
theorem dX11_lane_89 : decode cX11_lane 89 = .ok (.getfield 7, 3) := by decide +kernel
theorem dX11_lane_92 : decode cX11_lane 92 = .ok (.iload_n 1, 1) := by decide +kernel
theorem dX11_lane_93 : decode cX11_lane 93 = .ok (.invokestatic 80, 3) := by decide +kernel
theorem dX11_lane_96 : decode cX11_lane 96 = .ok (.iconst 3, 1) := by decide +kernel
theorem dX11_lane_97 : decode cX11_lane 97 = .ok (.iadd, 1) := by decide +kernel
theorem dX11_lane_98 : decode cX11_lane 98 = .ok (.iaload, 1) := by decide +kernel
theorem dX11_lane_99 : decode cX11_lane 99 = .ok (.ireturn, 1) := by decide +kernel
theorem dX11_lane_100 : decode cX11_lane 100 = .ok (.aload_n 0, 1) := by decide +kernel
theorem dX11_lane_101 : decode cX11_lane 101 = .ok (.getfield 7, 3) := by decide +kernel
theorem dX11_lane_104 : decode cX11_lane 104 = .ok (.iload_n 1, 1) := by decide +kernel
theorem dX11_lane_105 : decode cX11_lane 105 = .ok (.invokestatic 80, 3) := by decide +kernel
theorem dX11_lane_108 : decode cX11_lane 108 = .ok (.iconst 4, 1) := by decide +kernel
theorem dX11_lane_109 : decode cX11_lane 109 = .ok (.iadd, 1) := by decide +kernel
theorem dX11_lane_110 : decode cX11_lane 110 = .ok (.iaload, 1) := by decide +kernel
theorem dX11_lane_111 : decode cX11_lane 111 = .ok (.ireturn, 1) := by decide +kernel
theorem dX11_lane_112 : decode cX11_lane 112 = .ok (.aload_n 0, 1) := by decide +kernel
theorem dX11_lane_113 : decode cX11_lane 113 = .ok (.iload_n 1, 1) := by decide +kernel
theorem dX11_lane_114 : decode cX11_lane 114 = .ok (.iconst 0, 1) := by decide +kernel
theorem dX11_lane_115 : decode cX11_lane 115 = .ok (.invokevirtual 112, 3) := by decide +kernel
theorem dX11_lane_118 : decode cX11_lane 118 = .ok (.ireturn, 1) := by decide +kernel
theorem dX11_lane_119 : decode cX11_lane 119 = .ok (.aload_n 0, 1) := by decide +kernel
theorem dX11_lane_120 : decode cX11_lane 120 = .ok (.iload_n 1, 1) := by decide +kernel
theorem dX11_lane_121 : decode cX11_lane 121 = .ok (.invokevirtual 115, 3) := by decide +kernel
theorem dX11_lane_124 : decode cX11_lane 124 = .ok (.ireturn, 1) := by decide +kernel
theorem dX11_lane_125 : decode cX11_lane 125 = .ok (.aload_n 0, 1) := by decide +kernel
theorem dX11_lane_126 : decode cX11_lane 126 = .ok (.getfield 7, 3) := by decide +kernel
theorem dX11_lane_129 : decode cX11_lane 129 = .ok (.iload_n 1, 1) := by decide +kernel
theorem dX11_lane_130 : decode cX11_lane 130 = .ok (.invokestatic 80, 3) := by decide +kernel
theorem dX11_lane_133 : decode cX11_lane 133 = .ok (.iconst 5, 1) := by decide +kernel
theorem dX11_lane_134 : decode cX11_lane 134 = .ok (.iadd, 1) := by decide +kernel
theorem dX11_lane_135 : decode cX11_lane 135 = .ok (.iaload, 1) := by decide +kernel
theorem dX11_lane_136 : decode cX11_lane 136 = .ok (.ireturn, 1) := by decide +kernel
theorem dX11_lane_137 : decode cX11_lane 137 = .ok (.aload_n 0, 1) := by decide +kernel
theorem dX11_lane_138 : decode cX11_lane 138 = .ok (.getfield 7, 3) := by decide +kernel
theorem dX11_lane_141 : decode cX11_lane 141 = .ok (.iload_n 1, 1) := by decide +kernel
theorem dX11_lane_142 : decode cX11_lane 142 = .ok (.invokestatic 80, 3) := by decide +kernel
theorem dX11_lane_145 : decode cX11_lane 145 = .ok (.bipush 6, 2) := by decide +kernel
theorem dX11_lane_147 : decode cX11_lane 147 = .ok (.iadd, 1) := by decide +kernel
theorem dX11_lane_148 : decode cX11_lane 148 = .ok (.iaload, 1) := by decide +kernel
theorem dX11_lane_149 : decode cX11_lane 149 = .ok (.ireturn, 1) := by decide +kernel
theorem dX11_lane_150 : decode cX11_lane 150 = .ok (.aload_n 0, 1) := by decide +kernel
theorem dX11_lane_151 : decode cX11_lane 151 = .ok (.getfield 7, 3) := by decide +kernel
theorem dX11_lane_154 : decode cX11_lane 154 = .ok (.iload_n 1, 1) := by decide +kernel
theorem dX11_lane_155 : decode cX11_lane 155 = .ok (.invokestatic 80, 3) := by decide +kernel
theorem dX11_lane_158 : decode cX11_lane 158 = .ok (.iconst 2, 1) := by decide +kernel
theorem dX11_lane_159 : decode cX11_lane 159 = .ok (.iadd, 1) := by decide +kernel
theorem dX11_lane_160 : decode cX11_lane 160 = .ok (.iaload, 1) := by decide +kernel
theorem dX11_lane_161 : decode cX11_lane 161 = .ok (.ireturn, 1) := by decide +kernel
theorem dX11_lane_162 : decode cX11_lane 162 = .ok (.aload_n 0, 1) := by decide +kernel
theorem dX11_lane_163 : decode cX11_lane 163 = .ok (.iload_n 1, 1) := by decide +kernel
theorem dX11_lane_164 : decode cX11_lane 164 = .ok (.iconst 3, 1) := by decide +kernel
theorem dX11_lane_165 : decode cX11_lane 165 = .ok (.invokevirtual 112, 3) := by decide +kernel
theorem dX11_lane_168 : decode cX11_lane 168 = .ok (.ireturn, 1) := by decide +kernel
theorem dX11_lane_169 : decode cX11_lane 169 = .ok (.iconst (-1), 1) := by decide +kernel
theorem dX11_lane_170 : decode cX11_lane 170 = .ok (.ireturn, 1) := by decide +kernel
theorem dX11_task_0 : decode cX11_task 0 = .ok (.aload_n 0, 1) := by decide +kernel
theorem dX11_task_1 : decode cX11_task 1 = .ok (.iload_n 1, 1) := by decide +kernel
theorem dX11_task_2 : decode cX11_task 2 = .ok (.invokevirtual 161, 3) := by decide +kernel
theorem dX11_task_5 : decode cX11_task 5 = .ok (.ifCond .eq 22, 3) := by decide +kernel
theorem dX11_task_8 : decode cX11_task 8 = .ok (.iload_n 2, 1) := by decide +kernel
theorem dX11_task_9 : decode cX11_task 9 = .ok (.iconst 0, 1) := by decide +kernel
theorem dX11_task_10 : decode cX11_task 10 = .ok (.bipush 12, 2) := by decide +kernel
theorem dX11_task_12 : decode cX11_task 12 = .ok (.invokestatic 90, 3) := by decide +kernel
theorem dX11_task_15 : decode cX11_task 15 = .ok (.ifCond .eq 12, 3) := by decide +kernel
theorem dX11_task_18 : decode cX11_task 18 = .ok (.aload_n 0, 1) := by decide +kernel
theorem dX11_task_19 : decode cX11_task 19 = .ok (.iload_n 1, 1) := by decide +kernel
theorem dX11_task_20 : decode cX11_task 20 = .ok (.iload_n 2, 1) := by decide +kernel
theorem dX11_task_21 : decode cX11_task 21 = .ok (.invokevirtual 94, 3) := by decide +kernel
theorem dX11_task_24 : decode cX11_task 24 = .ok (.goto 4, 3) := by decide +kernel
theorem dX11_task_27 : decode cX11_task 27 = .ok (.iconst (-1), 1) := by decide +kernel
theorem dX11_task_28 : decode cX11_task 28 = .ok (.ireturn, 1) := by decide +kernel
theorem dX11_rank_0 : decode cX11_rank 0 = .ok (.aload_n 0, 1) := by decide +kernel
theorem dX11_rank_1 : decode cX11_rank 1 = .ok (.iload_n 1, 1) := by decide +kernel
theorem dX11_rank_2 : decode cX11_rank 2 = .ok (.invokevirtual 161, 3) := by decide +kernel
theorem dX11_rank_5 : decode cX11_rank 5 = .ok (.ifCond .eq 11, 3) := by decide +kernel
theorem dX11_rank_8 : decode cX11_rank 8 = .ok (.aload_n 0, 1) := by decide +kernel
theorem dX11_rank_9 : decode cX11_rank 9 = .ok (.iload_n 1, 1) := by decide +kernel
theorem dX11_rank_10 : decode cX11_rank 10 = .ok (.invokevirtual 102, 3) := by decide +kernel
theorem dX11_rank_13 : decode cX11_rank 13 = .ok (.goto 6, 3) := by decide +kernel
theorem dX11_rank_16 : decode cX11_rank 16 = .ok (.ldc_w 263, 3) := by decide +kernel
theorem dX11_rank_19 : decode cX11_rank 19 = .ok (.ireturn, 1) := by decide +kernel
theorem dX11_cause_0 : decode cX11_cause 0 = .ok (.aload_n 0, 1) := by decide +kernel
theorem dX11_cause_1 : decode cX11_cause 1 = .ok (.iload_n 1, 1) := by decide +kernel
theorem dX11_cause_2 : decode cX11_cause 2 = .ok (.invokevirtual 161, 3) := by decide +kernel
theorem dX11_cause_5 : decode cX11_cause 5 = .ok (.ifCond .ne 5, 3) := by decide +kernel
theorem dX11_cause_8 : decode cX11_cause 8 = .ok (.iconst (-1), 1) := by decide +kernel
theorem dX11_cause_9 : decode cX11_cause 9 = .ok (.ireturn, 1) := by decide +kernel
theorem dX11_cause_10 : decode cX11_cause 10 = .ok (.iload_n 2, 1) := by decide +kernel
theorem dX11_cause_11 : decode cX11_cause 11 = .ok (.iconst (-1), 1) := by decide +kernel
theorem dX11_cause_12 : decode cX11_cause 12 = .ok (.if_icmp .ne 12, 3) := by decide +kernel
theorem dX11_cause_15 : decode cX11_cause 15 = .ok (.aload_n 0, 1) := by decide +kernel
theorem dX11_cause_16 : decode cX11_cause 16 = .ok (.getfield 19, 3) := by decide +kernel
theorem dX11_cause_19 : decode cX11_cause 19 = .ok (.iload_n 1, 1) := by decide +kernel
theorem dX11_cause_20 : decode cX11_cause 20 = .ok (.iaload, 1) := by decide +kernel
theorem dX11_cause_21 : decode cX11_cause 21 = .ok (.goto 34, 3) := by decide +kernel
theorem dX11_cause_24 : decode cX11_cause 24 = .ok (.iload_n 2, 1) := by decide +kernel
theorem dX11_cause_25 : decode cX11_cause 25 = .ok (.iconst 0, 1) := by decide +kernel
theorem dX11_cause_26 : decode cX11_cause 26 = .ok (.aload_n 0, 1) := by decide +kernel
theorem dX11_cause_27 : decode cX11_cause 27 = .ok (.getfield 19, 3) := by decide +kernel
theorem dX11_cause_30 : decode cX11_cause 30 = .ok (.iload_n 1, 1) := by decide +kernel
theorem dX11_cause_31 : decode cX11_cause 31 = .ok (.iaload, 1) := by decide +kernel
theorem dX11_cause_32 : decode cX11_cause 32 = .ok (.iconst 1, 1) := by decide +kernel
theorem dX11_cause_33 : decode cX11_cause 33 = .ok (.isub, 1) := by decide +kernel
theorem dX11_cause_34 : decode cX11_cause 34 = .ok (.invokestatic 90, 3) := by decide +kernel
theorem dX11_cause_37 : decode cX11_cause 37 = .ok (.ifCond .eq 17, 3) := by decide +kernel
theorem dX11_cause_40 : decode cX11_cause 40 = .ok (.aload_n 0, 1) := by decide +kernel
theorem dX11_cause_41 : decode cX11_cause 41 = .ok (.getfield 22, 3) := by decide +kernel
theorem dX11_cause_44 : decode cX11_cause 44 = .ok (.bipush 20, 2) := by decide +kernel
theorem dX11_cause_46 : decode cX11_cause 46 = .ok (.iload_n 1, 1) := by decide +kernel
theorem dX11_cause_47 : decode cX11_cause 47 = .ok (.imul, 1) := by decide +kernel
theorem dX11_cause_48 : decode cX11_cause 48 = .ok (.iload_n 2, 1) := by decide +kernel
theorem dX11_cause_49 : decode cX11_cause 49 = .ok (.iadd, 1) := by decide +kernel
theorem dX11_cause_50 : decode cX11_cause 50 = .ok (.iaload, 1) := by decide +kernel
theorem dX11_cause_51 : decode cX11_cause 51 = .ok (.goto 4, 3) := by decide +kernel
theorem dX11_cause_54 : decode cX11_cause 54 = .ok (.iconst (-1), 1) := by decide +kernel
theorem dX11_cause_55 : decode cX11_cause 55 = .ok (.ireturn, 1) := by decide +kernel
theorem dX11_worker_0 : decode cX11_worker 0 = .ok (.aload_n 0, 1) := by decide +kernel
theorem dX11_worker_1 : decode cX11_worker 1 = .ok (.iload_n 1, 1) := by decide +kernel
theorem dX11_worker_2 : decode cX11_worker 2 = .ok (.invokevirtual 212, 3) := by decide +kernel
theorem dX11_worker_5 : decode cX11_worker 5 = .ok (.ifCond .eq 12, 3) := by decide +kernel
theorem dX11_worker_8 : decode cX11_worker 8 = .ok (.iload_n 2, 1) := by decide +kernel
theorem dX11_worker_9 : decode cX11_worker 9 = .ok (.iconst 0, 1) := by decide +kernel
theorem dX11_worker_10 : decode cX11_worker 10 = .ok (.iconst 5, 1) := by decide +kernel
theorem dX11_worker_11 : decode cX11_worker 11 = .ok (.invokestatic 90, 3) := by decide +kernel
theorem dX11_worker_14 : decode cX11_worker 14 = .ok (.ifCond .ne 5, 3) := by decide +kernel
theorem dX11_worker_17 : decode cX11_worker 17 = .ok (.iconst (-1), 1) := by decide +kernel
theorem dX11_worker_18 : decode cX11_worker 18 = .ok (.ireturn, 1) := by decide +kernel
theorem dX11_worker_19 : decode cX11_worker 19 = .ok (.iload_n 2, 1) := by decide +kernel
theorem dX11_worker_20 : decode cX11_worker 20 = .ok (.iconst 2, 1) := by decide +kernel
theorem dX11_worker_21 : decode cX11_worker 21 = .ok (.if_icmp .le 17, 3) := by decide +kernel
theorem dX11_worker_24 : decode cX11_worker 24 = .ok (.aload_n 0, 1) := by decide +kernel
theorem dX11_worker_25 : decode cX11_worker 25 = .ok (.getfield 7, 3) := by decide +kernel
theorem dX11_worker_28 : decode cX11_worker 28 = .ok (.iload_n 1, 1) := by decide +kernel
theorem dX11_worker_29 : decode cX11_worker 29 = .ok (.invokestatic 84, 3) := by decide +kernel
theorem dX11_worker_32 : decode cX11_worker 32 = .ok (.iload_n 2, 1) := by decide +kernel
theorem dX11_worker_33 : decode cX11_worker 33 = .ok (.iadd, 1) := by decide +kernel
theorem dX11_worker_34 : decode cX11_worker 34 = .ok (.iconst 2, 1) := by decide +kernel
theorem dX11_worker_35 : decode cX11_worker 35 = .ok (.isub, 1) := by decide +kernel
theorem dX11_worker_36 : decode cX11_worker 36 = .ok (.iaload, 1) := by decide +kernel
theorem dX11_worker_37 : decode cX11_worker 37 = .ok (.ireturn, 1) := by decide +kernel
theorem dX11_worker_38 : decode cX11_worker 38 = .ok (.aload_n 0, 1) := by decide +kernel
theorem dX11_worker_39 : decode cX11_worker 39 = .ok (.getfield 7, 3) := by decide +kernel
theorem dX11_worker_42 : decode cX11_worker 42 = .ok (.iload_n 1, 1) := by decide +kernel
theorem dX11_worker_43 : decode cX11_worker 43 = .ok (.invokestatic 84, 3) := by decide +kernel
theorem dX11_worker_46 : decode cX11_worker 46 = .ok (.iaload, 1) := by decide +kernel
theorem dX11_worker_47 : decode cX11_worker 47 = .ok (.istore_n 3, 1) := by decide +kernel
theorem dX11_worker_48 : decode cX11_worker 48 = .ok (.iload_n 3, 1) := by decide +kernel
theorem dX11_worker_49 : decode cX11_worker 49 = .ok (.iconst (-1), 1) := by decide +kernel
theorem dX11_worker_50 : decode cX11_worker 50 = .ok (.if_icmp .eq 7, 3) := by decide +kernel
theorem dX11_worker_53 : decode cX11_worker 53 = .ok (.iload_n 2, 1) := by decide +kernel
theorem dX11_worker_54 : decode cX11_worker 54 = .ok (.ifCond .ne 7, 3) := by decide +kernel
theorem dX11_worker_57 : decode cX11_worker 57 = .ok (.iload_n 3, 1) := by decide +kernel
theorem dX11_worker_58 : decode cX11_worker 58 = .ok (.goto 20, 3) := by decide +kernel
theorem dX11_worker_61 : decode cX11_worker 61 = .ok (.aload_n 0, 1) := by decide +kernel
theorem dX11_worker_62 : decode cX11_worker 62 = .ok (.iload_n 3, 1) := by decide +kernel
theorem dX11_worker_63 : decode cX11_worker 63 = .ok (.iload_n 2, 1) := by decide +kernel
theorem dX11_worker_64 : decode cX11_worker 64 = .ok (.iconst 1, 1) := by decide +kernel
theorem dX11_worker_65 : decode cX11_worker 65 = .ok (.if_icmp .ne 8, 3) := by decide +kernel
theorem dX11_worker_68 : decode cX11_worker 68 = .ok (.bipush 10, 2) := by decide +kernel
theorem dX11_worker_70 : decode cX11_worker 70 = .ok (.goto 5, 3) := by decide +kernel
theorem dX11_worker_73 : decode cX11_worker 73 = .ok (.bipush 11, 2) := by decide +kernel
theorem dX11_worker_75 : decode cX11_worker 75 = .ok (.invokevirtual 94, 3) := by decide +kernel
theorem dX11_worker_78 : decode cX11_worker 78 = .ok (.ireturn, 1) := by decide +kernel
theorem dX11_timer_0 : decode cX11_timer 0 = .ok (.aload_n 0, 1) := by decide +kernel
theorem dX11_timer_1 : decode cX11_timer 1 = .ok (.iload_n 1, 1) := by decide +kernel
theorem dX11_timer_2 : decode cX11_timer 2 = .ok (.invokevirtual 224, 3) := by decide +kernel
theorem dX11_timer_5 : decode cX11_timer 5 = .ok (.ifCond .eq 27, 3) := by decide +kernel
theorem dX11_timer_8 : decode cX11_timer 8 = .ok (.iload_n 2, 1) := by decide +kernel
theorem dX11_timer_9 : decode cX11_timer 9 = .ok (.iconst 0, 1) := by decide +kernel
theorem dX11_timer_10 : decode cX11_timer 10 = .ok (.bipush 7, 2) := by decide +kernel
theorem dX11_timer_12 : decode cX11_timer 12 = .ok (.invokestatic 90, 3) := by decide +kernel
theorem dX11_timer_15 : decode cX11_timer 15 = .ok (.ifCond .eq 17, 3) := by decide +kernel
theorem dX11_timer_18 : decode cX11_timer 18 = .ok (.aload_n 0, 1) := by decide +kernel
theorem dX11_timer_19 : decode cX11_timer 19 = .ok (.getfield 7, 3) := by decide +kernel
theorem dX11_timer_22 : decode cX11_timer 22 = .ok (.iload_n 1, 1) := by decide +kernel
theorem dX11_timer_23 : decode cX11_timer 23 = .ok (.invokestatic 193, 3) := by decide +kernel
theorem dX11_timer_26 : decode cX11_timer 26 = .ok (.iload_n 2, 1) := by decide +kernel
theorem dX11_timer_27 : decode cX11_timer 27 = .ok (.iadd, 1) := by decide +kernel
theorem dX11_timer_28 : decode cX11_timer 28 = .ok (.iaload, 1) := by decide +kernel
theorem dX11_timer_29 : decode cX11_timer 29 = .ok (.goto 4, 3) := by decide +kernel
theorem dX11_timer_32 : decode cX11_timer 32 = .ok (.iconst (-1), 1) := by decide +kernel
theorem dX11_timer_33 : decode cX11_timer 33 = .ok (.ireturn, 1) := by decide +kernel
theorem dX11_waiting_0 : decode cX11_waiting 0 = .ok (.aload_n 0, 1) := by decide +kernel
theorem dX11_waiting_1 : decode cX11_waiting 1 = .ok (.iload_n 1, 1) := by decide +kernel
theorem dX11_waiting_2 : decode cX11_waiting 2 = .ok (.invokevirtual 152, 3) := by decide +kernel
theorem dX11_waiting_5 : decode cX11_waiting 5 = .ok (.ifCond .ne 5, 3) := by decide +kernel
theorem dX11_waiting_8 : decode cX11_waiting 8 = .ok (.iconst (-1), 1) := by decide +kernel
theorem dX11_waiting_9 : decode cX11_waiting 9 = .ok (.ireturn, 1) := by decide +kernel
theorem dX11_waiting_10 : decode cX11_waiting 10 = .ok (.iconst 0, 1) := by decide +kernel
theorem dX11_waiting_11 : decode cX11_waiting 11 = .ok (.istore_n 3, 1) := by decide +kernel
theorem dX11_waiting_12 : decode cX11_waiting 12 = .ok (.iload_n 3, 1) := by decide +kernel
theorem dX11_waiting_13 : decode cX11_waiting 13 = .ok (.aload_n 0, 1) := by decide +kernel
theorem dX11_waiting_14 : decode cX11_waiting 14 = .ok (.getfield 7, 3) := by decide +kernel
theorem dX11_waiting_17 : decode cX11_waiting 17 = .ok (.iconst 1, 1) := by decide +kernel
theorem dX11_waiting_18 : decode cX11_waiting 18 = .ok (.iaload, 1) := by decide +kernel
theorem dX11_waiting_19 : decode cX11_waiting 19 = .ok (.if_icmp .ge 105, 3) := by decide +kernel
theorem dX11_waiting_22 : decode cX11_waiting 22 = .ok (.aload_n 0, 1) := by decide +kernel
theorem dX11_waiting_23 : decode cX11_waiting 23 = .ok (.iload_n 3, 1) := by decide +kernel
theorem dX11_waiting_24 : decode cX11_waiting 24 = .ok (.iconst 0, 1) := by decide +kernel
theorem dX11_waiting_25 : decode cX11_waiting 25 = .ok (.invokevirtual 94, 3) := by decide +kernel
theorem dX11_waiting_28 : decode cX11_waiting 28 = .ok (.iload_n 1, 1) := by decide +kernel
theorem dX11_waiting_29 : decode cX11_waiting 29 = .ok (.if_icmp .ne 89, 3) := by decide +kernel
theorem dX11_waiting_32 : decode cX11_waiting 32 = .ok (.aload_n 0, 1) := by decide +kernel
theorem dX11_waiting_33 : decode cX11_waiting 33 = .ok (.iload_n 3, 1) := by decide +kernel
theorem dX11_waiting_34 : decode cX11_waiting 34 = .ok (.bipush 6, 2) := by decide +kernel
theorem dX11_waiting_36 : decode cX11_waiting 36 = .ok (.invokevirtual 94, 3) := by decide +kernel
theorem dX11_waiting_39 : decode cX11_waiting 39 = .ok (.ifCond .eq 6, 3) := by decide +kernel
theorem dX11_waiting_42 : decode cX11_waiting 42 = .ok (.goto 76, 3) := by decide +kernel
theorem dX11_waiting_45 : decode cX11_waiting 45 = .ok (.iconst 0, 1) := by decide +kernel
theorem dX11_waiting_46 : decode cX11_waiting 46 = .ok (.istore 4, 2) := by decide +kernel
theorem dX11_waiting_48 : decode cX11_waiting 48 = .ok (.iconst 0, 1) := by decide +kernel
theorem dX11_waiting_49 : decode cX11_waiting 49 = .ok (.istore 5, 2) := by decide +kernel
theorem dX11_waiting_51 : decode cX11_waiting 51 = .ok (.iload 5, 2) := by decide +kernel
theorem dX11_waiting_53 : decode cX11_waiting 53 = .ok (.aload_n 0, 1) := by decide +kernel
theorem dX11_waiting_54 : decode cX11_waiting 54 = .ok (.getfield 7, 3) := by decide +kernel
theorem dX11_waiting_57 : decode cX11_waiting 57 = .ok (.iconst 1, 1) := by decide +kernel
theorem dX11_waiting_58 : decode cX11_waiting 58 = .ok (.iaload, 1) := by decide +kernel
theorem dX11_waiting_59 : decode cX11_waiting 59 = .ok (.if_icmp .ge 51, 3) := by decide +kernel
theorem dX11_waiting_62 : decode cX11_waiting 62 = .ok (.iload 4, 2) := by decide +kernel
theorem dX11_waiting_64 : decode cX11_waiting 64 = .ok (.aload_n 0, 1) := by decide +kernel
theorem dX11_waiting_65 : decode cX11_waiting 65 = .ok (.iload 5, 2) := by decide +kernel
theorem dX11_waiting_67 : decode cX11_waiting 67 = .ok (.iconst 0, 1) := by decide +kernel
theorem dX11_waiting_68 : decode cX11_waiting 68 = .ok (.invokevirtual 94, 3) := by decide +kernel
theorem dX11_waiting_71 : decode cX11_waiting 71 = .ok (.iload_n 1, 1) := by decide +kernel
theorem dX11_waiting_72 : decode cX11_waiting 72 = .ok (.if_icmp .ne 28, 3) := by decide +kernel
theorem dX11_waiting_75 : decode cX11_waiting 75 = .ok (.aload_n 0, 1) := by decide +kernel
theorem dX11_waiting_76 : decode cX11_waiting 76 = .ok (.iload 5, 2) := by decide +kernel
theorem dX11_waiting_78 : decode cX11_waiting 78 = .ok (.bipush 6, 2) := by decide +kernel
theorem dX11_waiting_80 : decode cX11_waiting 80 = .ok (.invokevirtual 94, 3) := by decide +kernel
theorem dX11_waiting_83 : decode cX11_waiting 83 = .ok (.ifCond .ne 17, 3) := by decide +kernel
theorem dX11_waiting_86 : decode cX11_waiting 86 = .ok (.aload_n 0, 1) := by decide +kernel
theorem dX11_waiting_87 : decode cX11_waiting 87 = .ok (.iload 5, 2) := by decide +kernel
theorem dX11_waiting_89 : decode cX11_waiting 89 = .ok (.iload_n 3, 1) := by decide +kernel
theorem dX11_waiting_90 : decode cX11_waiting 90 = .ok (.invokevirtual 105, 3) := by decide +kernel
theorem dX11_waiting_93 : decode cX11_waiting 93 = .ok (.ifCond .eq 7, 3) := by decide +kernel
theorem dX11_waiting_96 : decode cX11_waiting 96 = .ok (.iconst 1, 1) := by decide +kernel
theorem dX11_waiting_97 : decode cX11_waiting 97 = .ok (.goto 4, 3) := by decide +kernel
theorem dX11_waiting_100 : decode cX11_waiting 100 = .ok (.iconst 0, 1) := by decide +kernel
theorem dX11_waiting_101 : decode cX11_waiting 101 = .ok (.iadd, 1) := by decide +kernel
theorem dX11_waiting_102 : decode cX11_waiting 102 = .ok (.istore 4, 2) := by decide +kernel
theorem dX11_waiting_104 : decode cX11_waiting 104 = .ok (.iinc 5 1, 3) := by decide +kernel
theorem dX11_waiting_107 : decode cX11_waiting 107 = .ok (.goto (-56), 3) := by decide +kernel
theorem dX11_waiting_110 : decode cX11_waiting 110 = .ok (.iload 4, 2) := by decide +kernel
theorem dX11_waiting_112 : decode cX11_waiting 112 = .ok (.iload_n 2, 1) := by decide +kernel
theorem dX11_waiting_113 : decode cX11_waiting 113 = .ok (.if_icmp .ne 5, 3) := by decide +kernel
theorem dX11_waiting_116 : decode cX11_waiting 116 = .ok (.iload_n 3, 1) := by decide +kernel
theorem dX11_waiting_117 : decode cX11_waiting 117 = .ok (.ireturn, 1) := by decide +kernel
theorem dX11_waiting_118 : decode cX11_waiting 118 = .ok (.iinc 3 1, 3) := by decide +kernel
theorem dX11_waiting_121 : decode cX11_waiting 121 = .ok (.goto (-109), 3) := by decide +kernel
theorem dX11_waiting_124 : decode cX11_waiting 124 = .ok (.iconst (-1), 1) := by decide +kernel
theorem dX11_waiting_125 : decode cX11_waiting 125 = .ok (.ireturn, 1) := by decide +kernel
theorem dX11_keyed_0 : decode cX11_keyed 0 = .ok (.iload_n 1, 1) := by decide +kernel
theorem dX11_keyed_1 : decode cX11_keyed 1 = .ok (.invokestatic 158, 3) := by decide +kernel
theorem dX11_keyed_4 : decode cX11_keyed 4 = .ok (.ifCond .eq 11, 3) := by decide +kernel
theorem dX11_keyed_7 : decode cX11_keyed 7 = .ok (.aload_n 0, 1) := by decide +kernel
theorem dX11_keyed_8 : decode cX11_keyed 8 = .ok (.iload_n 1, 1) := by decide +kernel
theorem dX11_keyed_9 : decode cX11_keyed 9 = .ok (.invokevirtual 167, 3) := by decide +kernel
theorem dX11_keyed_12 : decode cX11_keyed 12 = .ok (.goto 4, 3) := by decide +kernel
theorem dX11_keyed_15 : decode cX11_keyed 15 = .ok (.iconst (-1), 1) := by decide +kernel
theorem dX11_keyed_16 : decode cX11_keyed 16 = .ok (.ireturn, 1) := by decide +kernel
theorem dX11_resting_0 : decode cX11_resting 0 = .ok (.iload_n 1, 1) := by decide +kernel
theorem dX11_resting_1 : decode cX11_resting 1 = .ok (.ifCond .ge 7, 3) := by decide +kernel
theorem dX11_resting_4 : decode cX11_resting 4 = .ok (.iconst (-1), 1) := by decide +kernel
theorem dX11_resting_5 : decode cX11_resting 5 = .ok (.goto 8, 3) := by decide +kernel
theorem dX11_resting_8 : decode cX11_resting 8 = .ok (.aload_n 0, 1) := by decide +kernel
theorem dX11_resting_9 : decode cX11_resting 9 = .ok (.iload_n 1, 1) := by decide +kernel
theorem dX11_resting_10 : decode cX11_resting 10 = .ok (.invokevirtual 264, 3) := by decide +kernel
theorem dX11_resting_13 : decode cX11_resting 13 = .ok (.ireturn, 1) := by decide +kernel
theorem dX11_aside_0 : decode cX11_aside 0 = .ok (.iload_n 1, 1) := by decide +kernel
theorem dX11_aside_1 : decode cX11_aside 1 = .ok (.iconst 0, 1) := by decide +kernel
theorem dX11_aside_2 : decode cX11_aside 2 = .ok (.aload_n 0, 1) := by decide +kernel
theorem dX11_aside_3 : decode cX11_aside 3 = .ok (.getfield 7, 3) := by decide +kernel
theorem dX11_aside_6 : decode cX11_aside 6 = .ok (.iconst 3, 1) := by decide +kernel
theorem dX11_aside_7 : decode cX11_aside 7 = .ok (.iaload, 1) := by decide +kernel
theorem dX11_aside_8 : decode cX11_aside 8 = .ok (.iconst 1, 1) := by decide +kernel
theorem dX11_aside_9 : decode cX11_aside 9 = .ok (.isub, 1) := by decide +kernel
theorem dX11_aside_10 : decode cX11_aside 10 = .ok (.invokestatic 90, 3) := by decide +kernel
theorem dX11_aside_13 : decode cX11_aside 13 = .ok (.ifCond .eq 16, 3) := by decide +kernel
theorem dX11_aside_16 : decode cX11_aside 16 = .ok (.aload_n 0, 1) := by decide +kernel
theorem dX11_aside_17 : decode cX11_aside 17 = .ok (.getfield 7, 3) := by decide +kernel
theorem dX11_aside_20 : decode cX11_aside 20 = .ok (.sipush 5800, 3) := by decide +kernel
theorem dX11_aside_23 : decode cX11_aside 23 = .ok (.iload_n 1, 1) := by decide +kernel
theorem dX11_aside_24 : decode cX11_aside 24 = .ok (.iadd, 1) := by decide +kernel
theorem dX11_aside_25 : decode cX11_aside 25 = .ok (.iaload, 1) := by decide +kernel
theorem dX11_aside_26 : decode cX11_aside 26 = .ok (.goto 4, 3) := by decide +kernel
theorem dX11_aside_29 : decode cX11_aside 29 = .ok (.iconst (-1), 1) := by decide +kernel
theorem dX11_aside_30 : decode cX11_aside 30 = .ok (.ireturn, 1) := by decide +kernel
theorem dX11_ending_0 : decode cX11_ending 0 = .ok (.iconst 0, 1) := by decide +kernel
theorem dX11_ending_1 : decode cX11_ending 1 = .ok (.istore_n 2, 1) := by decide +kernel
theorem dX11_ending_2 : decode cX11_ending 2 = .ok (.iload_n 2, 1) := by decide +kernel
theorem dX11_ending_3 : decode cX11_ending 3 = .ok (.aload_n 0, 1) := by decide +kernel
theorem dX11_ending_4 : decode cX11_ending 4 = .ok (.getfield 7, 3) := by decide +kernel
theorem dX11_ending_7 : decode cX11_ending 7 = .ok (.iconst 1, 1) := by decide +kernel
theorem dX11_ending_8 : decode cX11_ending 8 = .ok (.iaload, 1) := by decide +kernel
theorem dX11_ending_9 : decode cX11_ending 9 = .ok (.if_icmp .ge 114, 3) := by decide +kernel
theorem dX11_ending_12 : decode cX11_ending 12 = .ok (.aload_n 0, 1) := by decide +kernel
theorem dX11_ending_13 : decode cX11_ending 13 = .ok (.iload_n 2, 1) := by decide +kernel
theorem dX11_ending_14 : decode cX11_ending 14 = .ok (.bipush 6, 2) := by decide +kernel
theorem dX11_ending_16 : decode cX11_ending 16 = .ok (.invokevirtual 94, 3) := by decide +kernel
theorem dX11_ending_19 : decode cX11_ending 19 = .ok (.iconst 3, 1) := by decide +kernel
theorem dX11_ending_20 : decode cX11_ending 20 = .ok (.if_icmp .eq 6, 3) := by decide +kernel
theorem dX11_ending_23 : decode cX11_ending 23 = .ok (.goto 94, 3) := by decide +kernel
theorem dX11_ending_26 : decode cX11_ending 26 = .ok (.iconst 0, 1) := by decide +kernel
theorem dX11_ending_27 : decode cX11_ending 27 = .ok (.istore_n 3, 1) := by decide +kernel
theorem dX11_ending_28 : decode cX11_ending 28 = .ok (.iconst 0, 1) := by decide +kernel
theorem dX11_ending_29 : decode cX11_ending 29 = .ok (.istore 4, 2) := by decide +kernel
theorem dX11_ending_31 : decode cX11_ending 31 = .ok (.iload 4, 2) := by decide +kernel
theorem dX11_ending_33 : decode cX11_ending 33 = .ok (.aload_n 0, 1) := by decide +kernel
theorem dX11_ending_34 : decode cX11_ending 34 = .ok (.getfield 7, 3) := by decide +kernel
theorem dX11_ending_37 : decode cX11_ending 37 = .ok (.iconst 1, 1) := by decide +kernel
theorem dX11_ending_38 : decode cX11_ending 38 = .ok (.iaload, 1) := by decide +kernel
theorem dX11_ending_39 : decode cX11_ending 39 = .ok (.if_icmp .ge 71, 3) := by decide +kernel
theorem dX11_ending_42 : decode cX11_ending 42 = .ok (.iload_n 3, 1) := by decide +kernel
theorem dX11_ending_43 : decode cX11_ending 43 = .ok (.aload_n 0, 1) := by decide +kernel
theorem dX11_ending_44 : decode cX11_ending 44 = .ok (.iload 4, 2) := by decide +kernel
theorem dX11_ending_46 : decode cX11_ending 46 = .ok (.bipush 6, 2) := by decide +kernel
theorem dX11_ending_48 : decode cX11_ending 48 = .ok (.invokevirtual 94, 3) := by decide +kernel
theorem dX11_ending_51 : decode cX11_ending 51 = .ok (.iconst 3, 1) := by decide +kernel
theorem dX11_ending_52 : decode cX11_ending 52 = .ok (.if_icmp .ne 49, 3) := by decide +kernel
theorem dX11_ending_55 : decode cX11_ending 55 = .ok (.aload_n 0, 1) := by decide +kernel
theorem dX11_ending_56 : decode cX11_ending 56 = .ok (.iload 4, 2) := by decide +kernel
theorem dX11_ending_58 : decode cX11_ending 58 = .ok (.bipush 11, 2) := by decide +kernel
theorem dX11_ending_60 : decode cX11_ending 60 = .ok (.invokevirtual 94, 3) := by decide +kernel
theorem dX11_ending_63 : decode cX11_ending 63 = .ok (.aload_n 0, 1) := by decide +kernel
theorem dX11_ending_64 : decode cX11_ending 64 = .ok (.iload_n 2, 1) := by decide +kernel
theorem dX11_ending_65 : decode cX11_ending 65 = .ok (.bipush 11, 2) := by decide +kernel
theorem dX11_ending_67 : decode cX11_ending 67 = .ok (.invokevirtual 94, 3) := by decide +kernel
theorem dX11_ending_70 : decode cX11_ending 70 = .ok (.if_icmp .lt 27, 3) := by decide +kernel
theorem dX11_ending_73 : decode cX11_ending 73 = .ok (.aload_n 0, 1) := by decide +kernel
theorem dX11_ending_74 : decode cX11_ending 74 = .ok (.iload 4, 2) := by decide +kernel
theorem dX11_ending_76 : decode cX11_ending 76 = .ok (.bipush 11, 2) := by decide +kernel
theorem dX11_ending_78 : decode cX11_ending 78 = .ok (.invokevirtual 94, 3) := by decide +kernel
theorem dX11_ending_81 : decode cX11_ending 81 = .ok (.aload_n 0, 1) := by decide +kernel
theorem dX11_ending_82 : decode cX11_ending 82 = .ok (.iload_n 2, 1) := by decide +kernel
theorem dX11_ending_83 : decode cX11_ending 83 = .ok (.bipush 11, 2) := by decide +kernel
theorem dX11_ending_85 : decode cX11_ending 85 = .ok (.invokevirtual 94, 3) := by decide +kernel
theorem dX11_ending_88 : decode cX11_ending 88 = .ok (.if_icmp .ne 13, 3) := by decide +kernel
theorem dX11_ending_91 : decode cX11_ending 91 = .ok (.iload 4, 2) := by decide +kernel
theorem dX11_ending_93 : decode cX11_ending 93 = .ok (.iload_n 2, 1) := by decide +kernel
theorem dX11_ending_94 : decode cX11_ending 94 = .ok (.if_icmp .ge 7, 3) := by decide +kernel
theorem dX11_ending_97 : decode cX11_ending 97 = .ok (.iconst 1, 1) := by decide +kernel
theorem dX11_ending_98 : decode cX11_ending 98 = .ok (.goto 4, 3) := by decide +kernel
