theorem dX11_isIn_0 : decode cX11_isIn 0 = .ok (.iload_n 0, 1) := by decide +kernel
theorem dX11_isIn_1 : decode cX11_isIn 1 = .ok (.iload_n 1, 1) := by decide +kernel
theorem dX11_isIn_2 : decode cX11_isIn 2 = .ok (.if_icmp .lt 12, 3) := by decide +kernel
theorem dX11_isIn_5 : decode cX11_isIn 5 = .ok (.iload_n 0, 1) := by decide +kernel
theorem dX11_isIn_6 : decode cX11_isIn 6 = .ok (.iload_n 2, 1) := by decide +kernel
theorem dX11_isIn_7 : decode cX11_isIn 7 = .ok (.if_icmp .gt 7, 3) := by decide +kernel
theorem dX11_isIn_10 : decode cX11_isIn 10 = .ok (.iconst 1, 1) := by decide +kernel
theorem dX11_isIn_11 : decode cX11_isIn 11 = .ok (.goto 4, 3) := by decide +kernel
theorem dX11_isIn_14 : decode cX11_isIn 14 = .ok (.iconst 0, 1) := by decide +kernel
theorem dX11_isIn_15 : decode cX11_isIn 15 = .ok (.ireturn, 1) := by decide +kernel
theorem dX11_lesser_0 : decode cX11_lesser 0 = .ok (.iload_n 0, 1) := by decide +kernel
theorem dX11_lesser_1 : decode cX11_lesser 1 = .ok (.iload_n 1, 1) := by decide +kernel
theorem dX11_lesser_2 : decode cX11_lesser 2 = .ok (.if_icmp .ge 7, 3) := by decide +kernel
theorem dX11_lesser_5 : decode cX11_lesser 5 = .ok (.iload_n 0, 1) := by decide +kernel
theorem dX11_lesser_6 : decode cX11_lesser 6 = .ok (.goto 4, 3) := by decide +kernel
theorem dX11_lesser_9 : decode cX11_lesser 9 = .ok (.iload_n 1, 1) := by decide +kernel
theorem dX11_lesser_10 : decode cX11_lesser 10 = .ok (.ireturn, 1) := by decide +kernel
theorem dX11_greater_0 : decode cX11_greater 0 = .ok (.iload_n 0, 1) := by decide +kernel
theorem dX11_greater_1 : decode cX11_greater 1 = .ok (.iload_n 1, 1) := by decide +kernel
theorem dX11_greater_2 : decode cX11_greater 2 = .ok (.if_icmp .le 7, 3) := by decide +kernel
theorem dX11_greater_5 : decode cX11_greater 5 = .ok (.iload_n 0, 1) := by decide +kernel
theorem dX11_greater_6 : decode cX11_greater 6 = .ok (.goto 4, 3) := by decide +kernel
theorem dX11_greater_9 : decode cX11_greater 9 = .ok (.iload_n 1, 1) := by decide +kernel
theorem dX11_greater_10 : decode cX11_greater 10 = .ok (.ireturn, 1) := by decide +kernel
theorem dX11_init_0 : decode cX11_init 0 = .ok (.aload_n 0, 1) := by decide +kernel
theorem dX11_init_1 : decode cX11_init 1 = .ok (.invokespecial 1, 3) := by decide +kernel
theorem dX11_init_4 : decode cX11_init 4 = .ok (.aload_n 0, 1) := by decide +kernel
theorem dX11_init_5 : decode cX11_init 5 = .ok (.sipush 6200, 3) := by decide +kernel
theorem dX11_init_8 : decode cX11_init 8 = .ok (.newarray .int, 2) := by decide +kernel
theorem dX11_init_10 : decode cX11_init 10 = .ok (.putfield 7, 3) := by decide +kernel
theorem dX11_init_13 : decode cX11_init 13 = .ok (.aload_n 0, 1) := by decide +kernel
theorem dX11_init_14 : decode cX11_init 14 = .ok (.sipush 6200, 3) := by decide +kernel
theorem dX11_init_17 : decode cX11_init 17 = .ok (.newarray .int, 2) := by decide +kernel
theorem dX11_init_19 : decode cX11_init 19 = .ok (.putfield 13, 3) := by decide +kernel
theorem dX11_init_22 : decode cX11_init 22 = .ok (.aload_n 0, 1) := by decide +kernel
theorem dX11_init_23 : decode cX11_init 23 = .ok (.sipush 10000, 3) := by decide +kernel
theorem dX11_init_26 : decode cX11_init 26 = .ok (.newarray .int, 2) := by decide +kernel
theorem dX11_init_28 : decode cX11_init 28 = .ok (.putfield 16, 3) := by decide +kernel
theorem dX11_init_31 : decode cX11_init 31 = .ok (.aload_n 0, 1) := by decide +kernel
theorem dX11_init_32 : decode cX11_init 32 = .ok (.sipush 400, 3) := by decide +kernel
theorem dX11_init_35 : decode cX11_init 35 = .ok (.newarray .int, 2) := by decide +kernel
theorem dX11_init_37 : decode cX11_init 37 = .ok (.putfield 19, 3) := by decide +kernel
theorem dX11_init_40 : decode cX11_init 40 = .ok (.aload_n 0, 1) := by decide +kernel
theorem dX11_init_41 : decode cX11_init 41 = .ok (.sipush 8000, 3) := by decide +kernel
theorem dX11_init_44 : decode cX11_init 44 = .ok (.newarray .int, 2) := by decide +kernel
theorem dX11_init_46 : decode cX11_init 46 = .ok (.putfield 22, 3) := by decide +kernel
theorem dX11_init_49 : decode cX11_init 49 = .ok (.aload_n 0, 1) := by decide +kernel
theorem dX11_init_50 : decode cX11_init 50 = .ok (.sipush 384, 3) := by decide +kernel
theorem dX11_init_53 : decode cX11_init 53 = .ok (.newarray .int, 2) := by decide +kernel
theorem dX11_init_55 : decode cX11_init 55 = .ok (.putfield 25, 3) := by decide +kernel
theorem dX11_init_58 : decode cX11_init 58 = .ok (.aload_n 0, 1) := by decide +kernel
theorem dX11_init_59 : decode cX11_init 59 = .ok (.iconst 0, 1) := by decide +kernel
theorem dX11_init_60 : decode cX11_init 60 = .ok (.putfield 28, 3) := by decide +kernel
theorem dX11_init_63 : decode cX11_init 63 = .ok (.aload_n 0, 1) := by decide +kernel
theorem dX11_init_64 : decode cX11_init 64 = .ok (.iconst 0, 1) := by decide +kernel
theorem dX11_init_65 : decode cX11_init 65 = .ok (.putfield 32, 3) := by decide +kernel
theorem dX11_init_68 : decode cX11_init 68 = .ok (.aload_n 0, 1) := by decide +kernel
theorem dX11_init_69 : decode cX11_init 69 = .ok (.iconst 0, 1) := by decide +kernel
theorem dX11_init_70 : decode cX11_init 70 = .ok (.putfield 35, 3) := by decide +kernel
theorem dX11_init_73 : decode cX11_init 73 = .ok (.aload_n 0, 1) := by decide +kernel
theorem dX11_init_74 : decode cX11_init 74 = .ok (.iconst 0, 1) := by decide +kernel
theorem dX11_init_75 : decode cX11_init 75 = .ok (.putfield 39, 3) := by decide +kernel
theorem dX11_init_78 : decode cX11_init 78 = .ok (.aload_n 0, 1) := by decide +kernel
theorem dX11_init_79 : decode cX11_init 79 = .ok (.iconst 0, 1) := by decide +kernel
theorem dX11_init_80 : decode cX11_init 80 = .ok (.putfield 42, 3) := by decide +kernel
theorem dX11_init_83 : decode cX11_init 83 = .ok (.aload_n 0, 1) := by decide +kernel
theorem dX11_init_84 : decode cX11_init 84 = .ok (.iconst 0, 1) := by decide +kernel
theorem dX11_init_85 : decode cX11_init 85 = .ok (.putfield 45, 3) := by decide +kernel
theorem dX11_init_88 : decode cX11_init 88 = .ok (.aload_n 0, 1) := by decide +kernel
theorem dX11_init_89 : decode cX11_init 89 = .ok (.sipush 400, 3) := by decide +kernel
theorem dX11_init_92 : decode cX11_init 92 = .ok (.newarray .boolean, 2) := by decide +kernel
theorem dX11_init_94 : decode cX11_init 94 = .ok (.putfield 48, 3) := by decide +kernel
theorem dX11_init_97 : decode cX11_init 97 = .ok (.aload_n 0, 1) := by decide +kernel
theorem dX11_init_98 : decode cX11_init 98 = .ok (.sipush 400, 3) := by decide +kernel
theorem dX11_init_101 : decode cX11_init 101 = .ok (.newarray .boolean, 2) := by decide +kernel
theorem dX11_init_103 : decode cX11_init 103 = .ok (.putfield 52, 3) := by decide +kernel
theorem dX11_init_106 : decode cX11_init 106 = .ok (.aload_n 0, 1) := by decide +kernel
theorem dX11_init_107 : decode cX11_init 107 = .ok (.lconst 0, 1) := by decide +kernel
theorem dX11_init_108 : decode cX11_init 108 = .ok (.putfield 55, 3) := by decide +kernel
theorem dX11_init_111 : decode cX11_init 111 = .ok (.aload_n 0, 1) := by decide +kernel
theorem dX11_init_112 : decode cX11_init 112 = .ok (.bipush 6, 2) := by decide +kernel
theorem dX11_init_114 : decode cX11_init 114 = .ok (.newarray .int, 2) := by decide +kernel
theorem dX11_init_116 : decode cX11_init 116 = .ok (.putfield 59, 3) := by decide +kernel
theorem dX11_init_119 : decode cX11_init 119 = .ok (.aload_n 0, 1) := by decide +kernel
theorem dX11_init_120 : decode cX11_init 120 = .ok (.bipush 6, 2) := by decide +kernel
theorem dX11_init_122 : decode cX11_init 122 = .ok (.newarray .int, 2) := by decide +kernel
theorem dX11_init_124 : decode cX11_init 124 = .ok (.putfield 62, 3) := by decide +kernel
theorem dX11_init_127 : decode cX11_init 127 = .ok (.aload_n 0, 1) := by decide +kernel
theorem dX11_init_128 : decode cX11_init 128 = .ok (.iconst (-1), 1) := by decide +kernel
theorem dX11_init_129 : decode cX11_init 129 = .ok (.putfield 65, 3) := by decide +kernel
theorem dX11_init_132 : decode cX11_init 132 = .ok (.aload_n 0, 1) := by decide +kernel
theorem dX11_init_133 : decode cX11_init 133 = .ok (.iconst 0, 1) := by decide +kernel
theorem dX11_init_134 : decode cX11_init 134 = .ok (.putfield 68, 3) := by decide +kernel
theorem dX11_init_137 : decode cX11_init 137 = .ok (.aload_n 0, 1) := by decide +kernel
theorem dX11_init_138 : decode cX11_init 138 = .ok (.iconst 0, 1) := by decide +kernel
theorem dX11_init_139 : decode cX11_init 139 = .ok (.putfield 71, 3) := by decide +kernel
theorem dX11_init_142 : decode cX11_init 142 = .ok (.aload_n 0, 1) := by decide +kernel
theorem dX11_init_143 : decode cX11_init 143 = .ok (.sipush 400, 3) := by decide +kernel
theorem dX11_init_146 : decode cX11_init 146 = .ok (.newarray .boolean, 2) := by decide +kernel
theorem dX11_init_148 : decode cX11_init 148 = .ok (.putfield 74, 3) := by decide +kernel
theorem dX11_init_151 : decode cX11_init 151 = .ok (.aload_n 0, 1) := by decide +kernel
theorem dX11_init_152 : decode cX11_init 152 = .ok (.sipush 400, 3) := by decide +kernel
theorem dX11_init_155 : decode cX11_init 155 = .ok (.newarray .boolean, 2) := by decide +kernel
theorem dX11_init_157 : decode cX11_init 157 = .ok (.putfield 77, 3) := by decide +kernel
theorem dX11_init_160 : decode cX11_init 160 = .ok (.aload_n 0, 1) := by decide +kernel
theorem dX11_init_161 : decode cX11_init 161 = .ok (.getfield 7, 3) := by decide +kernel
theorem dX11_init_164 : decode cX11_init 164 = .ok (.iconst 4, 1) := by decide +kernel
theorem dX11_init_165 : decode cX11_init 165 = .ok (.bipush 8, 2) := by decide +kernel
theorem dX11_init_167 : decode cX11_init 167 = .ok (.iastore, 1) := by decide +kernel
theorem dX11_init_168 : decode cX11_init 168 = .ok (.aload_n 0, 1) := by decide +kernel
theorem dX11_init_169 : decode cX11_init 169 = .ok (.getfield 7, 3) := by decide +kernel
theorem dX11_init_172 : decode cX11_init 172 = .ok (.iconst 5, 1) := by decide +kernel
theorem dX11_init_173 : decode cX11_init 173 = .ok (.bipush 10, 2) := by decide +kernel
theorem dX11_init_175 : decode cX11_init 175 = .ok (.iastore, 1) := by decide +kernel
theorem dX11_init_176 : decode cX11_init 176 = .ok (.aload_n 0, 1) := by decide +kernel
theorem dX11_init_177 : decode cX11_init 177 = .ok (.getfield 7, 3) := by decide +kernel
theorem dX11_init_180 : decode cX11_init 180 = .ok (.bipush 6, 2) := by decide +kernel
theorem dX11_init_182 : decode cX11_init 182 = .ok (.iconst 2, 1) := by decide +kernel
theorem dX11_init_183 : decode cX11_init 183 = .ok (.iastore, 1) := by decide +kernel
theorem dX11_init_184 : decode cX11_init 184 = .ok (.aload_n 0, 1) := by decide +kernel
theorem dX11_init_185 : decode cX11_init 185 = .ok (.getfield 7, 3) := by decide +kernel
theorem dX11_init_188 : decode cX11_init 188 = .ok (.bipush 7, 2) := by decide +kernel
theorem dX11_init_190 : decode cX11_init 190 = .ok (.iconst 3, 1) := by decide +kernel
theorem dX11_init_191 : decode cX11_init 191 = .ok (.iastore, 1) := by decide +kernel
theorem dX11_init_192 : decode cX11_init 192 = .ok (.aload_n 0, 1) := by decide +kernel
theorem dX11_init_193 : decode cX11_init 193 = .ok (.getfield 7, 3) := by decide +kernel
theorem dX11_init_196 : decode cX11_init 196 = .ok (.bipush 8, 2) := by decide +kernel
theorem dX11_init_198 : decode cX11_init 198 = .ok (.bipush 32, 2) := by decide +kernel
theorem dX11_init_200 : decode cX11_init 200 = .ok (.iastore, 1) := by decide +kernel
theorem dX11_init_201 : decode cX11_init 201 = .ok (.aload_n 0, 1) := by decide +kernel
theorem dX11_init_202 : decode cX11_init 202 = .ok (.getfield 7, 3) := by decide +kernel
theorem dX11_init_205 : decode cX11_init 205 = .ok (.bipush 9, 2) := by decide +kernel
theorem dX11_init_207 : decode cX11_init 207 = .ok (.iconst 2, 1) := by decide +kernel
theorem dX11_init_208 : decode cX11_init 208 = .ok (.iastore, 1) := by decide +kernel
theorem dX11_init_209 : decode cX11_init 209 = .ok (.iconst 0, 1) := by decide +kernel
theorem dX11_init_210 : decode cX11_init 210 = .ok (.istore_n 1, 1) := by decide +kernel
theorem dX11_init_211 : decode cX11_init 211 = .ok (.iload_n 1, 1) := by decide +kernel
theorem dX11_init_212 : decode cX11_init 212 = .ok (.iconst 5, 1) := by decide +kernel
theorem dX11_init_213 : decode cX11_init 213 = .ok (.if_icmp .ge 73, 3) := by decide +kernel
theorem dX11_init_216 : decode cX11_init 216 = .ok (.aload_n 0, 1) := by decide +kernel
theorem dX11_init_217 : decode cX11_init 217 = .ok (.getfield 7, 3) := by decide +kernel
theorem dX11_init_220 : decode cX11_init 220 = .ok (.iload_n 1, 1) := by decide +kernel
theorem dX11_init_221 : decode cX11_init 221 = .ok (.invokestatic 80, 3) := by decide +kernel
theorem dX11_init_224 : decode cX11_init 224 = .ok (.iconst 0, 1) := by decide +kernel
theorem dX11_init_225 : decode cX11_init 225 = .ok (.iadd, 1) := by decide +kernel
theorem dX11_init_226 : decode cX11_init 226 = .ok (.iconst 1, 1) := by decide +kernel
theorem dX11_init_227 : decode cX11_init 227 = .ok (.iastore, 1) := by decide +kernel
theorem dX11_init_228 : decode cX11_init 228 = .ok (.aload_n 0, 1) := by decide +kernel
theorem dX11_init_229 : decode cX11_init 229 = .ok (.getfield 7, 3) := by decide +kernel
theorem dX11_init_232 : decode cX11_init 232 = .ok (.iload_n 1, 1) := by decide +kernel
theorem dX11_init_233 : decode cX11_init 233 = .ok (.invokestatic 80, 3) := by decide +kernel
theorem dX11_init_236 : decode cX11_init 236 = .ok (.iconst 1, 1) := by decide +kernel
theorem dX11_init_237 : decode cX11_init 237 = .ok (.iadd, 1) := by decide +kernel
theorem dX11_init_238 : decode cX11_init 238 = .ok (.bipush 12, 2) := by decide +kernel
theorem dX11_init_240 : decode cX11_init 240 = .ok (.iastore, 1) := by decide +kernel
theorem dX11_init_241 : decode cX11_init 241 = .ok (.aload_n 0, 1) := by decide +kernel
theorem dX11_init_242 : decode cX11_init 242 = .ok (.getfield 7, 3) := by decide +kernel
theorem dX11_init_245 : decode cX11_init 245 = .ok (.iload_n 1, 1) := by decide +kernel
theorem dX11_init_246 : decode cX11_init 246 = .ok (.invokestatic 80, 3) := by decide +kernel
theorem dX11_init_249 : decode cX11_init 249 = .ok (.iconst 2, 1) := by decide +kernel
theorem dX11_init_250 : decode cX11_init 250 = .ok (.iadd, 1) := by decide +kernel
theorem dX11_init_251 : decode cX11_init 251 = .ok (.bipush 6, 2) := by decide +kernel
theorem dX11_init_253 : decode cX11_init 253 = .ok (.iastore, 1) := by decide +kernel
theorem dX11_init_254 : decode cX11_init 254 = .ok (.aload_n 0, 1) := by decide +kernel
theorem dX11_init_255 : decode cX11_init 255 = .ok (.getfield 7, 3) := by decide +kernel
theorem dX11_init_258 : decode cX11_init 258 = .ok (.iload_n 1, 1) := by decide +kernel
theorem dX11_init_259 : decode cX11_init 259 = .ok (.invokestatic 80, 3) := by decide +kernel
theorem dX11_init_262 : decode cX11_init 262 = .ok (.bipush 8, 2) := by decide +kernel
theorem dX11_init_264 : decode cX11_init 264 = .ok (.iadd, 1) := by decide +kernel
theorem dX11_init_265 : decode cX11_init 265 = .ok (.iconst (-1), 1) := by decide +kernel
theorem dX11_init_266 : decode cX11_init 266 = .ok (.iastore, 1) := by decide +kernel
theorem dX11_init_267 : decode cX11_init 267 = .ok (.aload_n 0, 1) := by decide +kernel
theorem dX11_init_268 : decode cX11_init 268 = .ok (.getfield 7, 3) := by decide +kernel
theorem dX11_init_271 : decode cX11_init 271 = .ok (.iload_n 1, 1) := by decide +kernel
theorem dX11_init_272 : decode cX11_init 272 = .ok (.invokestatic 80, 3) := by decide +kernel
theorem dX11_init_275 : decode cX11_init 275 = .ok (.bipush 9, 2) := by decide +kernel
theorem dX11_init_277 : decode cX11_init 277 = .ok (.iadd, 1) := by decide +kernel
theorem dX11_init_278 : decode cX11_init 278 = .ok (.iconst (-1), 1) := by decide +kernel
theorem dX11_init_279 : decode cX11_init 279 = .ok (.iastore, 1) := by decide +kernel
theorem dX11_init_280 : decode cX11_init 280 = .ok (.iinc 1 1, 3) := by decide +kernel
theorem dX11_init_283 : decode cX11_init 283 = .ok (.goto (-72), 3) := by decide +kernel
theorem dX11_init_286 : decode cX11_init 286 = .ok (.iconst 0, 1) := by decide +kernel
theorem dX11_init_287 : decode cX11_init 287 = .ok (.istore_n 1, 1) := by decide +kernel
theorem dX11_init_288 : decode cX11_init 288 = .ok (.iload_n 1, 1) := by decide +kernel
theorem dX11_init_289 : decode cX11_init 289 = .ok (.bipush 6, 2) := by decide +kernel
theorem dX11_init_291 : decode cX11_init 291 = .ok (.if_icmp .ge 19, 3) := by decide +kernel
theorem dX11_init_294 : decode cX11_init 294 = .ok (.aload_n 0, 1) := by decide +kernel
theorem dX11_init_295 : decode cX11_init 295 = .ok (.getfield 7, 3) := by decide +kernel
theorem dX11_init_298 : decode cX11_init 298 = .ok (.iload_n 1, 1) := by decide +kernel
theorem dX11_init_299 : decode cX11_init 299 = .ok (.invokestatic 84, 3) := by decide +kernel
theorem dX11_init_302 : decode cX11_init 302 = .ok (.iconst (-1), 1) := by decide +kernel
theorem dX11_init_303 : decode cX11_init 303 = .ok (.iastore, 1) := by decide +kernel
theorem dX11_init_304 : decode cX11_init 304 = .ok (.iinc 1 1, 3) := by decide +kernel
theorem dX11_init_307 : decode cX11_init 307 = .ok (.goto (-19), 3) := by decide +kernel
theorem dX11_init_310 : decode cX11_init 310 = .ok (.return_, 1) := by decide +kernel
theorem dX11_at_0 : decode cX11_at 0 = .ok (.bipush 10, 2) := by decide +kernel
theorem dX11_at_2 : decode cX11_at 2 = .ok (.bipush 10, 2) := by decide +kernel
theorem dX11_at_4 : decode cX11_at 4 = .ok (.iload_n 0, 1) := by decide +kernel
theorem dX11_at_5 : decode cX11_at 5 = .ok (.imul, 1) := by decide +kernel
theorem dX11_at_6 : decode cX11_at 6 = .ok (.iadd, 1) := by decide +kernel
theorem dX11_at_7 : decode cX11_at 7 = .ok (.ireturn, 1) := by decide +kernel
theorem dX11_workerAt_0 : decode cX11_workerAt 0 = .ok (.bipush 60, 2) := by decide +kernel
theorem dX11_workerAt_2 : decode cX11_workerAt 2 = .ok (.iconst 4, 1) := by decide +kernel
theorem dX11_workerAt_3 : decode cX11_workerAt 3 = .ok (.iload_n 0, 1) := by decide +kernel
theorem dX11_workerAt_4 : decode cX11_workerAt 4 = .ok (.imul, 1) := by decide +kernel
theorem dX11_workerAt_5 : decode cX11_workerAt 5 = .ok (.iadd, 1) := by decide +kernel
theorem dX11_workerAt_6 : decode cX11_workerAt 6 = .ok (.ireturn, 1) := by decide +kernel
theorem dX11_timerAt_0 : decode cX11_timerAt 0 = .ok (.bipush 85, 2) := by decide +kernel
theorem dX11_timerAt_2 : decode cX11_timerAt 2 = .ok (.bipush 8, 2) := by decide +kernel
theorem dX11_timerAt_4 : decode cX11_timerAt 4 = .ok (.iload_n 0, 1) := by decide +kernel
theorem dX11_timerAt_5 : decode cX11_timerAt 5 = .ok (.imul, 1) := by decide +kernel
theorem dX11_timerAt_6 : decode cX11_timerAt 6 = .ok (.iadd, 1) := by decide +kernel
theorem dX11_timerAt_7 : decode cX11_timerAt 7 = .ok (.ireturn, 1) := by decide +kernel
theorem dX11_taskAt_0 : decode cX11_taskAt 0 = .ok (.sipush 200, 3) := by decide +kernel
theorem dX11_taskAt_3 : decode cX11_taskAt 3 = .ok (.bipush 14, 2) := by decide +kernel
theorem dX11_taskAt_5 : decode cX11_taskAt 5 = .ok (.iload_n 0, 1) := by decide +kernel
theorem dX11_taskAt_6 : decode cX11_taskAt 6 = .ok (.imul, 1) := by decide +kernel
theorem dX11_taskAt_7 : decode cX11_taskAt 7 = .ok (.iadd, 1) := by decide +kernel
theorem dX11_taskAt_8 : decode cX11_taskAt 8 = .ok (.ireturn, 1) := by decide +kernel
theorem dX11_of_0 : decode cX11_of 0 = .ok (.aload_n 0, 1) := by decide +kernel
theorem dX11_of_1 : decode cX11_of 1 = .ok (.getfield 7, 3) := by decide +kernel
theorem dX11_of_4 : decode cX11_of 4 = .ok (.iload_n 1, 1) := by decide +kernel
theorem dX11_of_5 : decode cX11_of 5 = .ok (.invokestatic 87, 3) := by decide +kernel
theorem dX11_of_8 : decode cX11_of 8 = .ok (.iload_n 2, 1) := by decide +kernel
theorem dX11_of_9 : decode cX11_of 9 = .ok (.iadd, 1) := by decide +kernel
theorem dX11_of_10 : decode cX11_of 10 = .ok (.iaload, 1) := by decide +kernel
theorem dX11_of_11 : decode cX11_of 11 = .ok (.ireturn, 1) := by decide +kernel
theorem dX11_is_0 : decode cX11_is 0 = .ok (.aload_n 0, 1) := by decide +kernel
theorem dX11_is_1 : decode cX11_is 1 = .ok (.getfield 7, 3) := by decide +kernel
theorem dX11_is_4 : decode cX11_is 4 = .ok (.iload_n 1, 1) := by decide +kernel
theorem dX11_is_5 : decode cX11_is 5 = .ok (.invokestatic 87, 3) := by decide +kernel
theorem dX11_is_8 : decode cX11_is 8 = .ok (.iload_n 2, 1) := by decide +kernel
theorem dX11_is_9 : decode cX11_is 9 = .ok (.iadd, 1) := by decide +kernel
theorem dX11_is_10 : decode cX11_is 10 = .ok (.iload_n 3, 1) := by decide +kernel
theorem dX11_is_11 : decode cX11_is 11 = .ok (.iastore, 1) := by decide +kernel
theorem dX11_is_12 : decode cX11_is 12 = .ok (.return_, 1) := by decide +kernel
theorem dX11_isLane_0 : decode cX11_isLane 0 = .ok (.iload_n 1, 1) := by decide +kernel
theorem dX11_isLane_1 : decode cX11_isLane 1 = .ok (.iconst 0, 1) := by decide +kernel
theorem dX11_isLane_2 : decode cX11_isLane 2 = .ok (.iconst 4, 1) := by decide +kernel
theorem dX11_isLane_3 : decode cX11_isLane 3 = .ok (.invokestatic 90, 3) := by decide +kernel
theorem dX11_isLane_6 : decode cX11_isLane 6 = .ok (.ireturn, 1) := by decide +kernel
theorem dX11_isWorker_0 : decode cX11_isWorker 0 = .ok (.iload_n 1, 1) := by decide +kernel
theorem dX11_isWorker_1 : decode cX11_isWorker 1 = .ok (.iconst 0, 1) := by decide +kernel
theorem dX11_isWorker_2 : decode cX11_isWorker 2 = .ok (.iconst 5, 1) := by decide +kernel
theorem dX11_isWorker_3 : decode cX11_isWorker 3 = .ok (.invokestatic 90, 3) := by decide +kernel
theorem dX11_isWorker_6 : decode cX11_isWorker 6 = .ok (.ireturn, 1) := by decide +kernel
theorem dX11_isTask_0 : decode cX11_isTask 0 = .ok (.iload_n 1, 1) := by decide +kernel
theorem dX11_isTask_1 : decode cX11_isTask 1 = .ok (.iconst 0, 1) := by decide +kernel
theorem dX11_isTask_2 : decode cX11_isTask 2 = .ok (.aload_n 0, 1) := by decide +kernel
theorem dX11_isTask_3 : decode cX11_isTask 3 = .ok (.getfield 7, 3) := by decide +kernel
theorem dX11_isTask_6 : decode cX11_isTask 6 = .ok (.iconst 1, 1) := by decide +kernel
theorem dX11_isTask_7 : decode cX11_isTask 7 = .ok (.iaload, 1) := by decide +kernel
theorem dX11_isTask_8 : decode cX11_isTask 8 = .ok (.iconst 1, 1) := by decide +kernel
theorem dX11_isTask_9 : decode cX11_isTask 9 = .ok (.isub, 1) := by decide +kernel
theorem dX11_isTask_10 : decode cX11_isTask 10 = .ok (.invokestatic 90, 3) := by decide +kernel
theorem dX11_isTask_13 : decode cX11_isTask 13 = .ok (.ireturn, 1) := by decide +kernel
theorem dX11_isKey_0 : decode cX11_isKey 0 = .ok (.iload_n 0, 1) := by decide +kernel
theorem dX11_isKey_1 : decode cX11_isKey 1 = .ok (.iconst 0, 1) := by decide +kernel
theorem dX11_isKey_2 : decode cX11_isKey 2 = .ok (.sipush 9999, 3) := by decide +kernel
theorem dX11_isKey_5 : decode cX11_isKey 5 = .ok (.invokestatic 90, 3) := by decide +kernel
theorem dX11_isKey_8 : decode cX11_isKey 8 = .ok (.ireturn, 1) := by decide +kernel
theorem dX11_isPriority_0 : decode cX11_isPriority 0 = .ok (.iload_n 0, 1) := by decide +kernel
theorem dX11_isPriority_1 : decode cX11_isPriority 1 = .ok (.iconst 0, 1) := by decide +kernel
theorem dX11_isPriority_2 : decode cX11_isPriority 2 = .ok (.bipush 9, 2) := by decide +kernel
theorem dX11_isPriority_4 : decode cX11_isPriority 4 = .ok (.invokestatic 90, 3) := by decide +kernel
theorem dX11_isPriority_7 : decode cX11_isPriority 7 = .ok (.ireturn, 1) := by decide +kernel
theorem dX11_refuses_0 : decode cX11_refuses 0 = .ok (.aload_n 0, 1) := by decide +kernel
theorem dX11_refuses_1 : decode cX11_refuses 1 = .ok (.dup, 1) := by decide +kernel
theorem dX11_refuses_2 : decode cX11_refuses 2 = .ok (.getfield 32, 3) := by decide +kernel
theorem dX11_refuses_5 : decode cX11_refuses 5 = .ok (.aload_n 0, 1) := by decide +kernel
theorem dX11_refuses_6 : decode cX11_refuses 6 = .ok (.getfield 35, 3) := by decide +kernel
theorem dX11_refuses_9 : decode cX11_refuses 9 = .ok (.ifCond .eq 7, 3) := by decide +kernel
theorem dX11_refuses_12 : decode cX11_refuses 12 = .ok (.iconst 0, 1) := by decide +kernel
theorem dX11_refuses_13 : decode cX11_refuses 13 = .ok (.goto 4, 3) := by decide +kernel
theorem dX11_refuses_16 : decode cX11_refuses 16 = .ok (.iconst 1, 1) := by decide +kernel
theorem dX11_refuses_17 : decode cX11_refuses 17 = .ok (.iadd, 1) := by decide +kernel
theorem dX11_refuses_18 : decode cX11_refuses 18 = .ok (.putfield 32, 3) := by decide +kernel
theorem dX11_refuses_21 : decode cX11_refuses 21 = .ok (.iload_n 1, 1) := by decide +kernel
theorem dX11_refuses_22 : decode cX11_refuses 22 = .ok (.ireturn, 1) := by decide +kernel
theorem dX11_begins_0 : decode cX11_begins 0 = .ok (.iconst 0, 1) := by decide +kernel
theorem dX11_begins_1 : decode cX11_begins 1 = .ok (.istore_n 1, 1) := by decide +kernel
theorem dX11_begins_2 : decode cX11_begins 2 = .ok (.iload_n 1, 1) := by decide +kernel
theorem dX11_begins_3 : decode cX11_begins 3 = .ok (.sipush 6200, 3) := by decide +kernel
theorem dX11_begins_6 : decode cX11_begins 6 = .ok (.if_icmp .ge 21, 3) := by decide +kernel
theorem dX11_begins_9 : decode cX11_begins 9 = .ok (.aload_n 0, 1) := by decide +kernel
theorem dX11_begins_10 : decode cX11_begins 10 = .ok (.getfield 13, 3) := by decide +kernel
theorem dX11_begins_13 : decode cX11_begins 13 = .ok (.iload_n 1, 1) := by decide +kernel
theorem dX11_begins_14 : decode cX11_begins 14 = .ok (.aload_n 0, 1) := by decide +kernel
theorem dX11_begins_15 : decode cX11_begins 15 = .ok (.getfield 7, 3) := by decide +kernel
theorem dX11_begins_18 : decode cX11_begins 18 = .ok (.iload_n 1, 1) := by decide +kernel
theorem dX11_begins_19 : decode cX11_begins 19 = .ok (.iaload, 1) := by decide +kernel
theorem dX11_begins_20 : decode cX11_begins 20 = .ok (.iastore, 1) := by decide +kernel
theorem dX11_begins_21 : decode cX11_begins 21 = .ok (.iinc 1 1, 3) := by decide +kernel
theorem dX11_begins_24 : decode cX11_begins 24 = .ok (.goto (-22), 3) := by decide +kernel
theorem dX11_begins_27 : decode cX11_begins 27 = .ok (.aload_n 0, 1) := by decide +kernel
theorem dX11_begins_28 : decode cX11_begins 28 = .ok (.iconst 1, 1) := by decide +kernel
theorem dX11_begins_29 : decode cX11_begins 29 = .ok (.putfield 35, 3) := by decide +kernel
theorem dX11_begins_32 : decode cX11_begins 32 = .ok (.aload_n 0, 1) := by decide +kernel
theorem dX11_begins_33 : decode cX11_begins 33 = .ok (.iconst 0, 1) := by decide +kernel
theorem dX11_begins_34 : decode cX11_begins 34 = .ok (.putfield 39, 3) := by decide +kernel
theorem dX11_begins_37 : decode cX11_begins 37 = .ok (.aload_n 0, 1) := by decide +kernel
theorem dX11_begins_38 : decode cX11_begins 38 = .ok (.iconst 0, 1) := by decide +kernel
theorem dX11_begins_39 : decode cX11_begins 39 = .ok (.putfield 42, 3) := by decide +kernel
theorem dX11_begins_42 : decode cX11_begins 42 = .ok (.aload_n 0, 1) := by decide +kernel
theorem dX11_begins_43 : decode cX11_begins 43 = .ok (.iconst 0, 1) := by decide +kernel
theorem dX11_begins_44 : decode cX11_begins 44 = .ok (.putfield 45, 3) := by decide +kernel
theorem dX11_begins_47 : decode cX11_begins 47 = .ok (.return_, 1) := by decide +kernel
theorem dX11_ends_0 : decode cX11_ends 0 = .ok (.iconst 0, 1) := by decide +kernel
theorem dX11_ends_1 : decode cX11_ends 1 = .ok (.istore_n 1, 1) := by decide +kernel
theorem dX11_ends_2 : decode cX11_ends 2 = .ok (.iload_n 1, 1) := by decide +kernel
theorem dX11_ends_3 : decode cX11_ends 3 = .ok (.sipush 6200, 3) := by decide +kernel
theorem dX11_ends_6 : decode cX11_ends 6 = .ok (.if_icmp .ge 21, 3) := by decide +kernel
theorem dX11_ends_9 : decode cX11_ends 9 = .ok (.aload_n 0, 1) := by decide +kernel
theorem dX11_ends_10 : decode cX11_ends 10 = .ok (.getfield 7, 3) := by decide +kernel
theorem dX11_ends_13 : decode cX11_ends 13 = .ok (.iload_n 1, 1) := by decide +kernel
theorem dX11_ends_14 : decode cX11_ends 14 = .ok (.aload_n 0, 1) := by decide +kernel
theorem dX11_ends_15 : decode cX11_ends 15 = .ok (.getfield 13, 3) := by decide +kernel
theorem dX11_ends_18 : decode cX11_ends 18 = .ok (.iload_n 1, 1) := by decide +kernel
theorem dX11_ends_19 : decode cX11_ends 19 = .ok (.iaload, 1) := by decide +kernel
theorem dX11_ends_20 : decode cX11_ends 20 = .ok (.iastore, 1) := by decide +kernel
theorem dX11_ends_21 : decode cX11_ends 21 = .ok (.iinc 1 1, 3) := by decide +kernel
theorem dX11_ends_24 : decode cX11_ends 24 = .ok (.goto (-22), 3) := by decide +kernel
theorem dX11_ends_27 : decode cX11_ends 27 = .ok (.aload_n 0, 1) := by decide +kernel
theorem dX11_ends_28 : decode cX11_ends 28 = .ok (.iconst 0, 1) := by decide +kernel
theorem dX11_ends_29 : decode cX11_ends 29 = .ok (.putfield 35, 3) := by decide +kernel
theorem dX11_ends_32 : decode cX11_ends 32 = .ok (.return_, 1) := by decide +kernel
theorem dX11_writes_0 : decode cX11_writes 0 = .ok (.aload_n 0, 1) := by decide +kernel
theorem dX11_writes_1 : decode cX11_writes 1 = .ok (.getfield 35, 3) := by decide +kernel
theorem dX11_writes_4 : decode cX11_writes 4 = .ok (.ifCond .eq 4, 3) := by decide +kernel
theorem dX11_writes_7 : decode cX11_writes 7 = .ok (.return_, 1) := by decide +kernel
theorem dX11_writes_8 : decode cX11_writes 8 = .ok (.bipush 6, 2) := by decide +kernel
theorem dX11_writes_10 : decode cX11_writes 10 = .ok (.aload_n 0, 1) := by decide +kernel
theorem dX11_writes_11 : decode cX11_writes 11 = .ok (.getfield 28, 3) := by decide +kernel
theorem dX11_writes_14 : decode cX11_writes 14 = .ok (.bipush 64, 2) := by decide +kernel
theorem dX11_writes_16 : decode cX11_writes 16 = .ok (.irem, 1) := by decide +kernel
theorem dX11_writes_17 : decode cX11_writes 17 = .ok (.imul, 1) := by decide +kernel
theorem dX11_writes_18 : decode cX11_writes 18 = .ok (.istore 5, 2) := by decide +kernel
theorem dX11_writes_20 : decode cX11_writes 20 = .ok (.aload_n 0, 1) := by decide +kernel
theorem dX11_writes_21 : decode cX11_writes 21 = .ok (.getfield 25, 3) := by decide +kernel
theorem dX11_writes_24 : decode cX11_writes 24 = .ok (.iload 5, 2) := by decide +kernel
theorem dX11_writes_26 : decode cX11_writes 26 = .ok (.aload_n 0, 1) := by decide +kernel
theorem dX11_writes_27 : decode cX11_writes 27 = .ok (.getfield 7, 3) := by decide +kernel
theorem dX11_writes_30 : decode cX11_writes 30 = .ok (.iconst 0, 1) := by decide +kernel
theorem dX11_writes_31 : decode cX11_writes 31 = .ok (.iaload, 1) := by decide +kernel
theorem dX11_writes_32 : decode cX11_writes 32 = .ok (.iastore, 1) := by decide +kernel
theorem dX11_writes_33 : decode cX11_writes 33 = .ok (.aload_n 0, 1) := by decide +kernel
theorem dX11_writes_34 : decode cX11_writes 34 = .ok (.getfield 25, 3) := by decide +kernel
theorem dX11_writes_37 : decode cX11_writes 37 = .ok (.iload 5, 2) := by decide +kernel
theorem dX11_writes_39 : decode cX11_writes 39 = .ok (.iconst 1, 1) := by decide +kernel
theorem dX11_writes_40 : decode cX11_writes 40 = .ok (.iadd, 1) := by decide +kernel
theorem dX11_writes_41 : decode cX11_writes 41 = .ok (.iload_n 1, 1) := by decide +kernel
theorem dX11_writes_42 : decode cX11_writes 42 = .ok (.iastore, 1) := by decide +kernel
theorem dX11_writes_43 : decode cX11_writes 43 = .ok (.aload_n 0, 1) := by decide +kernel
theorem dX11_writes_44 : decode cX11_writes 44 = .ok (.getfield 25, 3) := by decide +kernel
theorem dX11_writes_47 : decode cX11_writes 47 = .ok (.iload 5, 2) := by decide +kernel
theorem dX11_writes_49 : decode cX11_writes 49 = .ok (.iconst 2, 1) := by decide +kernel
theorem dX11_writes_50 : decode cX11_writes 50 = .ok (.iadd, 1) := by decide +kernel
theorem dX11_writes_51 : decode cX11_writes 51 = .ok (.iload_n 2, 1) := by decide +kernel
theorem dX11_writes_52 : decode cX11_writes 52 = .ok (.iastore, 1) := by decide +kernel
theorem dX11_writes_53 : decode cX11_writes 53 = .ok (.aload_n 0, 1) := by decide +kernel
theorem dX11_writes_54 : decode cX11_writes 54 = .ok (.getfield 25, 3) := by decide +kernel
theorem dX11_writes_57 : decode cX11_writes 57 = .ok (.iload 5, 2) := by decide +kernel
theorem dX11_writes_59 : decode cX11_writes 59 = .ok (.iconst 3, 1) := by decide +kernel
theorem dX11_writes_60 : decode cX11_writes 60 = .ok (.iadd, 1) := by decide +kernel
theorem dX11_writes_61 : decode cX11_writes 61 = .ok (.aload_n 0, 1) := by decide +kernel
theorem dX11_writes_62 : decode cX11_writes 62 = .ok (.iload_n 2, 1) := by decide +kernel
theorem dX11_writes_63 : decode cX11_writes 63 = .ok (.iconst 0, 1) := by decide +kernel
theorem dX11_writes_64 : decode cX11_writes 64 = .ok (.invokevirtual 94, 3) := by decide +kernel
theorem dX11_writes_67 : decode cX11_writes 67 = .ok (.iastore, 1) := by decide +kernel
theorem dX11_writes_68 : decode cX11_writes 68 = .ok (.aload_n 0, 1) := by decide +kernel
theorem dX11_writes_69 : decode cX11_writes 69 = .ok (.getfield 25, 3) := by decide +kernel
theorem dX11_writes_72 : decode cX11_writes 72 = .ok (.iload 5, 2) := by decide +kernel
theorem dX11_writes_74 : decode cX11_writes 74 = .ok (.iconst 4, 1) := by decide +kernel
theorem dX11_writes_75 : decode cX11_writes 75 = .ok (.iadd, 1) := by decide +kernel
theorem dX11_writes_76 : decode cX11_writes 76 = .ok (.iload_n 3, 1) := by decide +kernel
theorem dX11_writes_77 : decode cX11_writes 77 = .ok (.iastore, 1) := by decide +kernel
theorem dX11_writes_78 : decode cX11_writes 78 = .ok (.aload_n 0, 1) := by decide +kernel
theorem dX11_writes_79 : decode cX11_writes 79 = .ok (.getfield 25, 3) := by decide +kernel
theorem dX11_writes_82 : decode cX11_writes 82 = .ok (.iload 5, 2) := by decide +kernel
theorem dX11_writes_84 : decode cX11_writes 84 = .ok (.iconst 5, 1) := by decide +kernel
theorem dX11_writes_85 : decode cX11_writes 85 = .ok (.iadd, 1) := by decide +kernel
theorem dX11_writes_86 : decode cX11_writes 86 = .ok (.iload 4, 2) := by decide +kernel
theorem dX11_writes_88 : decode cX11_writes 88 = .ok (.iastore, 1) := by decide +kernel
theorem dX11_writes_89 : decode cX11_writes 89 = .ok (.aload_n 0, 1) := by decide +kernel
theorem dX11_writes_90 : decode cX11_writes 90 = .ok (.dup, 1) := by decide +kernel
theorem dX11_writes_91 : decode cX11_writes 91 = .ok (.getfield 28, 3) := by decide +kernel
theorem dX11_writes_94 : decode cX11_writes 94 = .ok (.iconst 1, 1) := by decide +kernel
theorem dX11_writes_95 : decode cX11_writes 95 = .ok (.iadd, 1) := by decide +kernel
theorem dX11_writes_96 : decode cX11_writes 96 = .ok (.putfield 28, 3) := by decide +kernel
theorem dX11_writes_99 : decode cX11_writes 99 = .ok (.return_, 1) := by decide +kernel
theorem dX11_stands_0 : decode cX11_stands 0 = .ok (.aload_n 0, 1) := by decide +kernel
theorem dX11_stands_1 : decode cX11_stands 1 = .ok (.iload_n 1, 1) := by decide +kernel
theorem dX11_stands_2 : decode cX11_stands 2 = .ok (.bipush 6, 2) := by decide +kernel
theorem dX11_stands_4 : decode cX11_stands 4 = .ok (.invokevirtual 94, 3) := by decide +kernel
theorem dX11_stands_7 : decode cX11_stands 7 = .ok (.iconst 3, 1) := by decide +kernel
theorem dX11_stands_8 : decode cX11_stands 8 = .ok (.if_icmp .gt 7, 3) := by decide +kernel
theorem dX11_stands_11 : decode cX11_stands 11 = .ok (.iconst 1, 1) := by decide +kernel
theorem dX11_stands_12 : decode cX11_stands 12 = .ok (.goto 4, 3) := by decide +kernel
theorem dX11_stands_15 : decode cX11_stands 15 = .ok (.iconst 0, 1) := by decide +kernel
theorem dX11_stands_16 : decode cX11_stands 16 = .ok (.ireturn, 1) := by decide +kernel
theorem dX11_manyOf_0 : decode cX11_manyOf 0 = .ok (.iconst 0, 1) := by decide +kernel
theorem dX11_manyOf_1 : decode cX11_manyOf 1 = .ok (.istore_n 3, 1) := by decide +kernel
theorem dX11_manyOf_2 : decode cX11_manyOf 2 = .ok (.iconst 0, 1) := by decide +kernel
theorem dX11_manyOf_3 : decode cX11_manyOf 3 = .ok (.istore 4, 2) := by decide +kernel
theorem dX11_manyOf_5 : decode cX11_manyOf 5 = .ok (.iload 4, 2) := by decide +kernel
theorem dX11_manyOf_7 : decode cX11_manyOf 7 = .ok (.aload_n 0, 1) := by decide +kernel
theorem dX11_manyOf_8 : decode cX11_manyOf 8 = .ok (.getfield 7, 3) := by decide +kernel
theorem dX11_manyOf_11 : decode cX11_manyOf 11 = .ok (.iconst 1, 1) := by decide +kernel
theorem dX11_manyOf_12 : decode cX11_manyOf 12 = .ok (.iaload, 1) := by decide +kernel
theorem dX11_manyOf_13 : decode cX11_manyOf 13 = .ok (.if_icmp .ge 45, 3) := by decide +kernel
theorem dX11_manyOf_16 : decode cX11_manyOf 16 = .ok (.iload_n 3, 1) := by decide +kernel
theorem dX11_manyOf_17 : decode cX11_manyOf 17 = .ok (.iload_n 1, 1) := by decide +kernel
theorem dX11_manyOf_18 : decode cX11_manyOf 18 = .ok (.iconst (-1), 1) := by decide +kernel
theorem dX11_manyOf_19 : decode cX11_manyOf 19 = .ok (.if_icmp .eq 14, 3) := by decide +kernel
theorem dX11_manyOf_22 : decode cX11_manyOf 22 = .ok (.aload_n 0, 1) := by decide +kernel
theorem dX11_manyOf_23 : decode cX11_manyOf 23 = .ok (.iload 4, 2) := by decide +kernel
theorem dX11_manyOf_25 : decode cX11_manyOf 25 = .ok (.iconst 0, 1) := by decide +kernel
theorem dX11_manyOf_26 : decode cX11_manyOf 26 = .ok (.invokevirtual 94, 3) := by decide +kernel
theorem dX11_manyOf_29 : decode cX11_manyOf 29 = .ok (.iload_n 1, 1) := by decide +kernel
theorem dX11_manyOf_30 : decode cX11_manyOf 30 = .ok (.if_icmp .ne 19, 3) := by decide +kernel
theorem dX11_manyOf_33 : decode cX11_manyOf 33 = .ok (.aload_n 0, 1) := by decide +kernel
theorem dX11_manyOf_34 : decode cX11_manyOf 34 = .ok (.iload 4, 2) := by decide +kernel
theorem dX11_manyOf_36 : decode cX11_manyOf 36 = .ok (.bipush 6, 2) := by decide +kernel
theorem dX11_manyOf_38 : decode cX11_manyOf 38 = .ok (.invokevirtual 94, 3) := by decide +kernel
theorem dX11_manyOf_41 : decode cX11_manyOf 41 = .ok (.iload_n 2, 1) := by decide +kernel
theorem dX11_manyOf_42 : decode cX11_manyOf 42 = .ok (.if_icmp .ne 7, 3) := by decide +kernel
theorem dX11_manyOf_45 : decode cX11_manyOf 45 = .ok (.iconst 1, 1) := by decide +kernel
theorem dX11_manyOf_46 : decode cX11_manyOf 46 = .ok (.goto 4, 3) := by decide +kernel
theorem dX11_manyOf_49 : decode cX11_manyOf 49 = .ok (.iconst 0, 1) := by decide +kernel
theorem dX11_manyOf_50 : decode cX11_manyOf 50 = .ok (.iadd, 1) := by decide +kernel
theorem dX11_manyOf_51 : decode cX11_manyOf 51 = .ok (.istore_n 3, 1) := by decide +kernel
theorem dX11_manyOf_52 : decode cX11_manyOf 52 = .ok (.iinc 4 1, 3) := by decide +kernel
theorem dX11_manyOf_55 : decode cX11_manyOf 55 = .ok (.goto (-50), 3) := by decide +kernel
theorem dX11_manyOf_58 : decode cX11_manyOf 58 = .ok (.iload_n 3, 1) := by decide +kernel
theorem dX11_manyOf_59 : decode cX11_manyOf 59 = .ok (.ireturn, 1) := by decide +kernel
theorem dX11_standing_0 : decode cX11_standing 0 = .ok (.iconst 0, 1) := by decide +kernel
theorem dX11_standing_1 : decode cX11_standing 1 = .ok (.istore_n 2, 1) := by decide +kernel
theorem dX11_standing_2 : decode cX11_standing 2 = .ok (.iconst 0, 1) := by decide +kernel
theorem dX11_standing_3 : decode cX11_standing 3 = .ok (.istore_n 3, 1) := by decide +kernel
theorem dX11_standing_4 : decode cX11_standing 4 = .ok (.iload_n 3, 1) := by decide +kernel
theorem dX11_standing_5 : decode cX11_standing 5 = .ok (.aload_n 0, 1) := by decide +kernel
theorem dX11_standing_6 : decode cX11_standing 6 = .ok (.getfield 7, 3) := by decide +kernel
theorem dX11_standing_9 : decode cX11_standing 9 = .ok (.iconst 1, 1) := by decide +kernel
theorem dX11_standing_10 : decode cX11_standing 10 = .ok (.iaload, 1) := by decide +kernel
theorem dX11_standing_11 : decode cX11_standing 11 = .ok (.if_icmp .ge 40, 3) := by decide +kernel
theorem dX11_standing_14 : decode cX11_standing 14 = .ok (.iload_n 2, 1) := by decide +kernel
theorem dX11_standing_15 : decode cX11_standing 15 = .ok (.iload_n 1, 1) := by decide +kernel
theorem dX11_standing_16 : decode cX11_standing 16 = .ok (.iconst (-1), 1) := by decide +kernel
theorem dX11_standing_17 : decode cX11_standing 17 = .ok (.if_icmp .eq 13, 3) := by decide +kernel
theorem dX11_standing_20 : decode cX11_standing 20 = .ok (.aload_n 0, 1) := by decide +kernel
theorem dX11_standing_21 : decode cX11_standing 21 = .ok (.iload_n 3, 1) := by decide +kernel
theorem dX11_standing_22 : decode cX11_standing 22 = .ok (.iconst 0, 1) := by decide +kernel
theorem dX11_standing_23 : decode cX11_standing 23 = .ok (.invokevirtual 94, 3) := by decide +kernel
theorem dX11_standing_26 : decode cX11_standing 26 = .ok (.iload_n 1, 1) := by decide +kernel
theorem dX11_standing_27 : decode cX11_standing 27 = .ok (.if_icmp .ne 15, 3) := by decide +kernel
theorem dX11_standing_30 : decode cX11_standing 30 = .ok (.aload_n 0, 1) := by decide +kernel
theorem dX11_standing_31 : decode cX11_standing 31 = .ok (.iload_n 3, 1) := by decide +kernel
theorem dX11_standing_32 : decode cX11_standing 32 = .ok (.invokevirtual 98, 3) := by decide +kernel
theorem dX11_standing_35 : decode cX11_standing 35 = .ok (.ifCond .eq 7, 3) := by decide +kernel
theorem dX11_standing_38 : decode cX11_standing 38 = .ok (.iconst 1, 1) := by decide +kernel
theorem dX11_standing_39 : decode cX11_standing 39 = .ok (.goto 4, 3) := by decide +kernel
theorem dX11_standing_42 : decode cX11_standing 42 = .ok (.iconst 0, 1) := by decide +kernel
theorem dX11_standing_43 : decode cX11_standing 43 = .ok (.iadd, 1) := by decide +kernel
theorem dX11_standing_44 : decode cX11_standing 44 = .ok (.istore_n 2, 1) := by decide +kernel
theorem dX11_standing_45 : decode cX11_standing 45 = .ok (.iinc 3 1, 3) := by decide +kernel
theorem dX11_standing_48 : decode cX11_standing 48 = .ok (.goto (-44), 3) := by decide +kernel
theorem dX11_standing_51 : decode cX11_standing 51 = .ok (.iload_n 2, 1) := by decide +kernel
theorem dX11_standing_52 : decode cX11_standing 52 = .ok (.ireturn, 1) := by decide +kernel
theorem dX11_isLive_0 : decode cX11_isLive 0 = .ok (.iconst 0, 1) := by decide +kernel
theorem dX11_isLive_1 : decode cX11_isLive 1 = .ok (.istore_n 2, 1) := by decide +kernel
theorem dX11_isLive_2 : decode cX11_isLive 2 = .ok (.iload_n 2, 1) := by decide +kernel
theorem dX11_isLive_3 : decode cX11_isLive 3 = .ok (.aload_n 0, 1) := by decide +kernel
theorem dX11_isLive_4 : decode cX11_isLive 4 = .ok (.getfield 7, 3) := by decide +kernel
theorem dX11_isLive_7 : decode cX11_isLive 7 = .ok (.iconst 1, 1) := by decide +kernel
theorem dX11_isLive_8 : decode cX11_isLive 8 = .ok (.iaload, 1) := by decide +kernel
theorem dX11_isLive_9 : decode cX11_isLive 9 = .ok (.if_icmp .ge 31, 3) := by decide +kernel
theorem dX11_isLive_12 : decode cX11_isLive 12 = .ok (.aload_n 0, 1) := by decide +kernel
theorem dX11_isLive_13 : decode cX11_isLive 13 = .ok (.iload_n 2, 1) := by decide +kernel
theorem dX11_isLive_14 : decode cX11_isLive 14 = .ok (.iconst 0, 1) := by decide +kernel
theorem dX11_isLive_15 : decode cX11_isLive 15 = .ok (.invokevirtual 94, 3) := by decide +kernel
theorem dX11_isLive_18 : decode cX11_isLive 18 = .ok (.iload_n 1, 1) := by decide +kernel
theorem dX11_isLive_19 : decode cX11_isLive 19 = .ok (.if_icmp .ne 15, 3) := by decide +kernel
theorem dX11_isLive_22 : decode cX11_isLive 22 = .ok (.aload_n 0, 1) := by decide +kernel
theorem dX11_isLive_23 : decode cX11_isLive 23 = .ok (.iload_n 2, 1) := by decide +kernel
theorem dX11_isLive_24 : decode cX11_isLive 24 = .ok (.bipush 6, 2) := by decide +kernel
theorem dX11_isLive_26 : decode cX11_isLive 26 = .ok (.invokevirtual 94, 3) := by decide +kernel
theorem dX11_isLive_29 : decode cX11_isLive 29 = .ok (.ifCond .ne 5, 3) := by decide +kernel
theorem dX11_isLive_32 : decode cX11_isLive 32 = .ok (.iconst 1, 1) := by decide +kernel
theorem dX11_isLive_33 : decode cX11_isLive 33 = .ok (.ireturn, 1) := by decide +kernel
theorem dX11_isLive_34 : decode cX11_isLive 34 = .ok (.iinc 2 1, 3) := by decide +kernel
theorem dX11_isLive_37 : decode cX11_isLive 37 = .ok (.goto (-35), 3) := by decide +kernel
theorem dX11_isLive_40 : decode cX11_isLive 40 = .ok (.iconst 0, 1) := by decide +kernel
theorem dX11_isLive_41 : decode cX11_isLive 41 = .ok (.ireturn, 1) := by decide +kernel
theorem dX11_rankOf_0 : decode cX11_rankOf 0 = .ok (.aload_n 0, 1) := by decide +kernel
theorem dX11_rankOf_1 : decode cX11_rankOf 1 = .ok (.iload_n 1, 1) := by decide +kernel
theorem dX11_rankOf_2 : decode cX11_rankOf 2 = .ok (.iconst 1, 1) := by decide +kernel
theorem dX11_rankOf_3 : decode cX11_rankOf 3 = .ok (.invokevirtual 94, 3) := by decide +kernel
theorem dX11_rankOf_6 : decode cX11_rankOf 6 = .ok (.aload_n 0, 1) := by decide +kernel
theorem dX11_rankOf_7 : decode cX11_rankOf 7 = .ok (.getfield 7, 3) := by decide +kernel
theorem dX11_rankOf_10 : decode cX11_rankOf 10 = .ok (.iconst 4, 1) := by decide +kernel
theorem dX11_rankOf_11 : decode cX11_rankOf 11 = .ok (.iaload, 1) := by decide +kernel
theorem dX11_rankOf_12 : decode cX11_rankOf 12 = .ok (.imul, 1) := by decide +kernel
theorem dX11_rankOf_13 : decode cX11_rankOf 13 = .ok (.aload_n 0, 1) := by decide +kernel
theorem dX11_rankOf_14 : decode cX11_rankOf 14 = .ok (.iload_n 1, 1) := by decide +kernel
theorem dX11_rankOf_15 : decode cX11_rankOf 15 = .ok (.iconst 5, 1) := by decide +kernel
theorem dX11_rankOf_16 : decode cX11_rankOf 16 = .ok (.invokevirtual 94, 3) := by decide +kernel
theorem dX11_rankOf_19 : decode cX11_rankOf 19 = .ok (.isub, 1) := by decide +kernel
theorem dX11_rankOf_20 : decode cX11_rankOf 20 = .ok (.ireturn, 1) := by decide +kernel
theorem dX11_isAheadOf_0 : decode cX11_isAheadOf 0 = .ok (.aload_n 0, 1) := by decide +kernel
theorem dX11_isAheadOf_1 : decode cX11_isAheadOf 1 = .ok (.iload_n 1, 1) := by decide +kernel
theorem dX11_isAheadOf_2 : decode cX11_isAheadOf 2 = .ok (.invokevirtual 102, 3) := by decide +kernel
theorem dX11_isAheadOf_5 : decode cX11_isAheadOf 5 = .ok (.aload_n 0, 1) := by decide +kernel
theorem dX11_isAheadOf_6 : decode cX11_isAheadOf 6 = .ok (.iload_n 2, 1) := by decide +kernel
theorem dX11_isAheadOf_7 : decode cX11_isAheadOf 7 = .ok (.invokevirtual 102, 3) := by decide +kernel
theorem dX11_isAheadOf_10 : decode cX11_isAheadOf 10 = .ok (.if_icmp .gt 21, 3) := by decide +kernel
theorem dX11_isAheadOf_13 : decode cX11_isAheadOf 13 = .ok (.aload_n 0, 1) := by decide +kernel
theorem dX11_isAheadOf_14 : decode cX11_isAheadOf 14 = .ok (.iload_n 1, 1) := by decide +kernel
theorem dX11_isAheadOf_15 : decode cX11_isAheadOf 15 = .ok (.invokevirtual 102, 3) := by decide +kernel
theorem dX11_isAheadOf_18 : decode cX11_isAheadOf 18 = .ok (.aload_n 0, 1) := by decide +kernel
theorem dX11_isAheadOf_19 : decode cX11_isAheadOf 19 = .ok (.iload_n 2, 1) := by decide +kernel
theorem dX11_isAheadOf_20 : decode cX11_isAheadOf 20 = .ok (.invokevirtual 102, 3) := by decide +kernel
theorem dX11_isAheadOf_23 : decode cX11_isAheadOf 23 = .ok (.if_icmp .ne 12, 3) := by decide +kernel
theorem dX11_isAheadOf_26 : decode cX11_isAheadOf 26 = .ok (.iload_n 1, 1) := by decide +kernel
theorem dX11_isAheadOf_27 : decode cX11_isAheadOf 27 = .ok (.iload_n 2, 1) := by decide +kernel
theorem dX11_isAheadOf_28 : decode cX11_isAheadOf 28 = .ok (.if_icmp .ge 7, 3) := by decide +kernel
theorem dX11_isAheadOf_31 : decode cX11_isAheadOf 31 = .ok (.iconst 1, 1) := by decide +kernel
theorem dX11_isAheadOf_32 : decode cX11_isAheadOf 32 = .ok (.goto 4, 3) := by decide +kernel
theorem dX11_isAheadOf_35 : decode cX11_isAheadOf 35 = .ok (.iconst 0, 1) := by decide +kernel
theorem dX11_isAheadOf_36 : decode cX11_isAheadOf 36 = .ok (.ireturn, 1) := by decide +kernel
theorem dX11_firstOf_0 : decode cX11_firstOf 0 = .ok (.iconst (-1), 1) := by decide +kernel
theorem dX11_firstOf_1 : decode cX11_firstOf 1 = .ok (.istore_n 2, 1) := by decide +kernel
theorem dX11_firstOf_2 : decode cX11_firstOf 2 = .ok (.iconst 0, 1) := by decide +kernel
theorem dX11_firstOf_3 : decode cX11_firstOf 3 = .ok (.istore_n 3, 1) := by decide +kernel
theorem dX11_firstOf_4 : decode cX11_firstOf 4 = .ok (.iload_n 3, 1) := by decide +kernel
theorem dX11_firstOf_5 : decode cX11_firstOf 5 = .ok (.aload_n 0, 1) := by decide +kernel
theorem dX11_firstOf_6 : decode cX11_firstOf 6 = .ok (.getfield 7, 3) := by decide +kernel
theorem dX11_firstOf_9 : decode cX11_firstOf 9 = .ok (.iconst 1, 1) := by decide +kernel
theorem dX11_firstOf_10 : decode cX11_firstOf 10 = .ok (.iaload, 1) := by decide +kernel
theorem dX11_firstOf_11 : decode cX11_firstOf 11 = .ok (.if_icmp .ge 45, 3) := by decide +kernel
theorem dX11_firstOf_14 : decode cX11_firstOf 14 = .ok (.aload_n 0, 1) := by decide +kernel
theorem dX11_firstOf_15 : decode cX11_firstOf 15 = .ok (.iload_n 3, 1) := by decide +kernel
theorem dX11_firstOf_16 : decode cX11_firstOf 16 = .ok (.iconst 0, 1) := by decide +kernel
theorem dX11_firstOf_17 : decode cX11_firstOf 17 = .ok (.invokevirtual 94, 3) := by decide +kernel
theorem dX11_firstOf_20 : decode cX11_firstOf 20 = .ok (.iload_n 1, 1) := by decide +kernel
theorem dX11_firstOf_21 : decode cX11_firstOf 21 = .ok (.if_icmp .ne 29, 3) := by decide +kernel
theorem dX11_firstOf_24 : decode cX11_firstOf 24 = .ok (.aload_n 0, 1) := by decide +kernel
theorem dX11_firstOf_25 : decode cX11_firstOf 25 = .ok (.iload_n 3, 1) := by decide +kernel
theorem dX11_firstOf_26 : decode cX11_firstOf 26 = .ok (.bipush 6, 2) := by decide +kernel
theorem dX11_firstOf_28 : decode cX11_firstOf 28 = .ok (.invokevirtual 94, 3) := by decide +kernel
theorem dX11_firstOf_31 : decode cX11_firstOf 31 = .ok (.ifCond .ne 19, 3) := by decide +kernel
theorem dX11_firstOf_34 : decode cX11_firstOf 34 = .ok (.iload_n 2, 1) := by decide +kernel
theorem dX11_firstOf_35 : decode cX11_firstOf 35 = .ok (.iconst (-1), 1) := by decide +kernel
theorem dX11_firstOf_36 : decode cX11_firstOf 36 = .ok (.if_icmp .eq 12, 3) := by decide +kernel
theorem dX11_firstOf_39 : decode cX11_firstOf 39 = .ok (.aload_n 0, 1) := by decide +kernel
theorem dX11_firstOf_40 : decode cX11_firstOf 40 = .ok (.iload_n 3, 1) := by decide +kernel
theorem dX11_firstOf_41 : decode cX11_firstOf 41 = .ok (.iload_n 2, 1) := by decide +kernel
theorem dX11_firstOf_42 : decode cX11_firstOf 42 = .ok (.invokevirtual 105, 3) := by decide +kernel
theorem dX11_firstOf_45 : decode cX11_firstOf 45 = .ok (.ifCond .eq 5, 3) := by decide +kernel
theorem dX11_firstOf_48 : decode cX11_firstOf 48 = .ok (.iload_n 3, 1) := by decide +kernel
theorem dX11_firstOf_49 : decode cX11_firstOf 49 = .ok (.istore_n 2, 1) := by decide +kernel
theorem dX11_firstOf_50 : decode cX11_firstOf 50 = .ok (.iinc 3 1, 3) := by decide +kernel
theorem dX11_firstOf_53 : decode cX11_firstOf 53 = .ok (.goto (-49), 3) := by decide +kernel
theorem dX11_firstOf_56 : decode cX11_firstOf 56 = .ok (.iload_n 2, 1) := by decide +kernel
theorem dX11_firstOf_57 : decode cX11_firstOf 57 = .ok (.ireturn, 1) := by decide +kernel
theorem dX11_theLane_0 : decode cX11_theLane 0 = .ok (.iconst (-1), 1) := by decide +kernel
theorem dX11_theLane_1 : decode cX11_theLane 1 = .ok (.istore_n 2, 1) := by decide +kernel
theorem dX11_theLane_2 : decode cX11_theLane 2 = .ok (.iconst 0, 1) := by decide +kernel
theorem dX11_theLane_3 : decode cX11_theLane 3 = .ok (.istore_n 3, 1) := by decide +kernel
theorem dX11_theLane_4 : decode cX11_theLane 4 = .ok (.iload_n 3, 1) := by decide +kernel
theorem dX11_theLane_5 : decode cX11_theLane 5 = .ok (.iconst 5, 1) := by decide +kernel
theorem dX11_theLane_6 : decode cX11_theLane 6 = .ok (.if_icmp .ge 76, 3) := by decide +kernel
theorem dX11_theLane_9 : decode cX11_theLane 9 = .ok (.iload_n 2, 1) := by decide +kernel
theorem dX11_theLane_10 : decode cX11_theLane 10 = .ok (.iconst (-1), 1) := by decide +kernel
theorem dX11_theLane_11 : decode cX11_theLane 11 = .ok (.if_icmp .eq 28, 3) := by decide +kernel
theorem dX11_theLane_14 : decode cX11_theLane 14 = .ok (.aload_n 0, 1) := by decide +kernel
theorem dX11_theLane_15 : decode cX11_theLane 15 = .ok (.getfield 7, 3) := by decide +kernel
theorem dX11_theLane_18 : decode cX11_theLane 18 = .ok (.iload_n 3, 1) := by decide +kernel
theorem dX11_theLane_19 : decode cX11_theLane 19 = .ok (.invokestatic 80, 3) := by decide +kernel
theorem dX11_theLane_22 : decode cX11_theLane 22 = .ok (.iconst 4, 1) := by decide +kernel
theorem dX11_theLane_23 : decode cX11_theLane 23 = .ok (.iadd, 1) := by decide +kernel
theorem dX11_theLane_24 : decode cX11_theLane 24 = .ok (.iaload, 1) := by decide +kernel
theorem dX11_theLane_25 : decode cX11_theLane 25 = .ok (.aload_n 0, 1) := by decide +kernel
theorem dX11_theLane_26 : decode cX11_theLane 26 = .ok (.getfield 7, 3) := by decide +kernel
theorem dX11_theLane_29 : decode cX11_theLane 29 = .ok (.iload_n 2, 1) := by decide +kernel
theorem dX11_theLane_30 : decode cX11_theLane 30 = .ok (.invokestatic 80, 3) := by decide +kernel
theorem dX11_theLane_33 : decode cX11_theLane 33 = .ok (.iconst 4, 1) := by decide +kernel
theorem dX11_theLane_34 : decode cX11_theLane 34 = .ok (.iadd, 1) := by decide +kernel
theorem dX11_theLane_35 : decode cX11_theLane 35 = .ok (.iaload, 1) := by decide +kernel
theorem dX11_theLane_36 : decode cX11_theLane 36 = .ok (.if_icmp .ge 40, 3) := by decide +kernel
theorem dX11_theLane_39 : decode cX11_theLane 39 = .ok (.aload_n 0, 1) := by decide +kernel
theorem dX11_theLane_40 : decode cX11_theLane 40 = .ok (.iload_n 3, 1) := by decide +kernel
theorem dX11_theLane_41 : decode cX11_theLane 41 = .ok (.invokevirtual 109, 3) := by decide +kernel
theorem dX11_theLane_44 : decode cX11_theLane 44 = .ok (.ifCond .ne 6, 3) := by decide +kernel
theorem dX11_theLane_47 : decode cX11_theLane 47 = .ok (.goto 29, 3) := by decide +kernel
theorem dX11_theLane_50 : decode cX11_theLane 50 = .ok (.iload_n 1, 1) := by decide +kernel
theorem dX11_theLane_51 : decode cX11_theLane 51 = .ok (.ifCond .eq 23, 3) := by decide +kernel
theorem dX11_theLane_54 : decode cX11_theLane 54 = .ok (.aload_n 0, 1) := by decide +kernel
theorem dX11_theLane_55 : decode cX11_theLane 55 = .ok (.iload_n 3, 1) := by decide +kernel
theorem dX11_theLane_56 : decode cX11_theLane 56 = .ok (.iconst 3, 1) := by decide +kernel
theorem dX11_theLane_57 : decode cX11_theLane 57 = .ok (.invokevirtual 112, 3) := by decide +kernel
theorem dX11_theLane_60 : decode cX11_theLane 60 = .ok (.aload_n 0, 1) := by decide +kernel
theorem dX11_theLane_61 : decode cX11_theLane 61 = .ok (.getfield 7, 3) := by decide +kernel
theorem dX11_theLane_64 : decode cX11_theLane 64 = .ok (.iload_n 3, 1) := by decide +kernel
theorem dX11_theLane_65 : decode cX11_theLane 65 = .ok (.invokestatic 80, 3) := by decide +kernel
theorem dX11_theLane_68 : decode cX11_theLane 68 = .ok (.iconst 2, 1) := by decide +kernel
theorem dX11_theLane_69 : decode cX11_theLane 69 = .ok (.iadd, 1) := by decide +kernel
theorem dX11_theLane_70 : decode cX11_theLane 70 = .ok (.iaload, 1) := by decide +kernel
theorem dX11_theLane_71 : decode cX11_theLane 71 = .ok (.if_icmp .ge 5, 3) := by decide +kernel
theorem dX11_theLane_74 : decode cX11_theLane 74 = .ok (.iload_n 3, 1) := by decide +kernel
theorem dX11_theLane_75 : decode cX11_theLane 75 = .ok (.istore_n 2, 1) := by decide +kernel
theorem dX11_theLane_76 : decode cX11_theLane 76 = .ok (.iinc 3 1, 3) := by decide +kernel
theorem dX11_theLane_79 : decode cX11_theLane 79 = .ok (.goto (-75), 3) := by decide +kernel
theorem dX11_theLane_82 : decode cX11_theLane 82 = .ok (.iload_n 2, 1) := by decide +kernel
theorem dX11_theLane_83 : decode cX11_theLane 83 = .ok (.ireturn, 1) := by decide +kernel
theorem dX11_standsWith_0 : decode cX11_standsWith 0 = .ok (.iconst 0, 1) := by decide +kernel
theorem dX11_standsWith_1 : decode cX11_standsWith 1 = .ok (.istore_n 2, 1) := by decide +kernel
theorem dX11_standsWith_2 : decode cX11_standsWith 2 = .ok (.iload_n 2, 1) := by decide +kernel
theorem dX11_standsWith_3 : decode cX11_standsWith 3 = .ok (.aload_n 0, 1) := by decide +kernel
theorem dX11_standsWith_4 : decode cX11_standsWith 4 = .ok (.getfield 7, 3) := by decide +kernel
theorem dX11_standsWith_7 : decode cX11_standsWith 7 = .ok (.iconst 1, 1) := by decide +kernel
theorem dX11_standsWith_8 : decode cX11_standsWith 8 = .ok (.iaload, 1) := by decide +kernel
theorem dX11_standsWith_9 : decode cX11_standsWith 9 = .ok (.if_icmp .ge 29, 3) := by decide +kernel
theorem dX11_standsWith_12 : decode cX11_standsWith 12 = .ok (.aload_n 0, 1) := by decide +kernel
theorem dX11_standsWith_13 : decode cX11_standsWith 13 = .ok (.iload_n 2, 1) := by decide +kernel
theorem dX11_standsWith_14 : decode cX11_standsWith 14 = .ok (.iconst 3, 1) := by decide +kernel
theorem dX11_standsWith_15 : decode cX11_standsWith 15 = .ok (.invokevirtual 94, 3) := by decide +kernel
theorem dX11_standsWith_18 : decode cX11_standsWith 18 = .ok (.iload_n 1, 1) := by decide +kernel
theorem dX11_standsWith_19 : decode cX11_standsWith 19 = .ok (.if_icmp .ne 13, 3) := by decide +kernel
theorem dX11_standsWith_22 : decode cX11_standsWith 22 = .ok (.aload_n 0, 1) := by decide +kernel
theorem dX11_standsWith_23 : decode cX11_standsWith 23 = .ok (.iload_n 2, 1) := by decide +kernel
theorem dX11_standsWith_24 : decode cX11_standsWith 24 = .ok (.invokevirtual 98, 3) := by decide +kernel
theorem dX11_standsWith_27 : decode cX11_standsWith 27 = .ok (.ifCond .eq 5, 3) := by decide +kernel
theorem dX11_standsWith_30 : decode cX11_standsWith 30 = .ok (.iload_n 2, 1) := by decide +kernel
theorem dX11_standsWith_31 : decode cX11_standsWith 31 = .ok (.ireturn, 1) := by decide +kernel
theorem dX11_standsWith_32 : decode cX11_standsWith 32 = .ok (.iinc 2 1, 3) := by decide +kernel
theorem dX11_standsWith_35 : decode cX11_standsWith 35 = .ok (.goto (-33), 3) := by decide +kernel
theorem dX11_standsWith_38 : decode cX11_standsWith 38 = .ok (.iconst (-1), 1) := by decide +kernel
theorem dX11_standsWith_39 : decode cX11_standsWith 39 = .ok (.ireturn, 1) := by decide +kernel
theorem dX11_hasRoom_0 : decode cX11_hasRoom 0 = .ok (.aload_n 0, 1) := by decide +kernel
theorem dX11_hasRoom_1 : decode cX11_hasRoom 1 = .ok (.iload_n 1, 1) := by decide +kernel
theorem dX11_hasRoom_2 : decode cX11_hasRoom 2 = .ok (.invokevirtual 115, 3) := by decide +kernel
theorem dX11_hasRoom_5 : decode cX11_hasRoom 5 = .ok (.aload_n 0, 1) := by decide +kernel
theorem dX11_hasRoom_6 : decode cX11_hasRoom 6 = .ok (.getfield 7, 3) := by decide +kernel
theorem dX11_hasRoom_9 : decode cX11_hasRoom 9 = .ok (.iload_n 1, 1) := by decide +kernel
theorem dX11_hasRoom_10 : decode cX11_hasRoom 10 = .ok (.invokestatic 80, 3) := by decide +kernel
theorem dX11_hasRoom_13 : decode cX11_hasRoom 13 = .ok (.iconst 1, 1) := by decide +kernel
theorem dX11_hasRoom_14 : decode cX11_hasRoom 14 = .ok (.iadd, 1) := by decide +kernel
theorem dX11_hasRoom_15 : decode cX11_hasRoom 15 = .ok (.iaload, 1) := by decide +kernel
theorem dX11_hasRoom_16 : decode cX11_hasRoom 16 = .ok (.if_icmp .ge 7, 3) := by decide +kernel
theorem dX11_hasRoom_19 : decode cX11_hasRoom 19 = .ok (.iconst 1, 1) := by decide +kernel
theorem dX11_hasRoom_20 : decode cX11_hasRoom 20 = .ok (.goto 4, 3) := by decide +kernel
theorem dX11_hasRoom_23 : decode cX11_hasRoom 23 = .ok (.iconst 0, 1) := by decide +kernel
theorem dX11_hasRoom_24 : decode cX11_hasRoom 24 = .ok (.ireturn, 1) := by decide +kernel
theorem dX11_isBanned_0 : decode cX11_isBanned 0 = .ok (.aload_n 0, 1) := by decide +kernel
theorem dX11_isBanned_1 : decode cX11_isBanned 1 = .ok (.getfield 16, 3) := by decide +kernel
theorem dX11_isBanned_4 : decode cX11_isBanned 4 = .ok (.iload_n 1, 1) := by decide +kernel
theorem dX11_isBanned_5 : decode cX11_isBanned 5 = .ok (.iaload, 1) := by decide +kernel
theorem dX11_isBanned_6 : decode cX11_isBanned 6 = .ok (.aload_n 0, 1) := by decide +kernel
theorem dX11_isBanned_7 : decode cX11_isBanned 7 = .ok (.getfield 7, 3) := by decide +kernel
theorem dX11_isBanned_10 : decode cX11_isBanned 10 = .ok (.bipush 9, 2) := by decide +kernel
theorem dX11_isBanned_12 : decode cX11_isBanned 12 = .ok (.iaload, 1) := by decide +kernel
theorem dX11_isBanned_13 : decode cX11_isBanned 13 = .ok (.if_icmp .lt 7, 3) := by decide +kernel
theorem dX11_isBanned_16 : decode cX11_isBanned 16 = .ok (.iconst 1, 1) := by decide +kernel
theorem dX11_isBanned_17 : decode cX11_isBanned 17 = .ok (.goto 4, 3) := by decide +kernel
theorem dX11_isBanned_20 : decode cX11_isBanned 20 = .ok (.iconst 0, 1) := by decide +kernel
theorem dX11_isBanned_21 : decode cX11_isBanned 21 = .ok (.ireturn, 1) := by decide +kernel
theorem dX11_waitsNow_0 : decode cX11_waitsNow 0 = .ok (.aload_n 0, 1) := by decide +kernel
theorem dX11_waitsNow_1 : decode cX11_waitsNow 1 = .ok (.iload_n 1, 1) := by decide +kernel
theorem dX11_waitsNow_2 : decode cX11_waitsNow 2 = .ok (.iconst 0, 1) := by decide +kernel
theorem dX11_waitsNow_3 : decode cX11_waitsNow 3 = .ok (.invokevirtual 94, 3) := by decide +kernel
theorem dX11_waitsNow_6 : decode cX11_waitsNow 6 = .ok (.istore_n 2, 1) := by decide +kernel
theorem dX11_waitsNow_7 : decode cX11_waitsNow 7 = .ok (.iconst (-1), 1) := by decide +kernel
theorem dX11_waitsNow_8 : decode cX11_waitsNow 8 = .ok (.istore_n 3, 1) := by decide +kernel
theorem dX11_waitsNow_9 : decode cX11_waitsNow 9 = .ok (.aload_n 0, 1) := by decide +kernel
theorem dX11_waitsNow_10 : decode cX11_waitsNow 10 = .ok (.iload_n 2, 1) := by decide +kernel
theorem dX11_waitsNow_11 : decode cX11_waitsNow 11 = .ok (.invokevirtual 109, 3) := by decide +kernel
theorem dX11_waitsNow_14 : decode cX11_waitsNow 14 = .ok (.istore 4, 2) := by decide +kernel
theorem dX11_waitsNow_16 : decode cX11_waitsNow 16 = .ok (.iconst 0, 1) := by decide +kernel
theorem dX11_waitsNow_17 : decode cX11_waitsNow 17 = .ok (.istore 5, 2) := by decide +kernel
theorem dX11_waitsNow_19 : decode cX11_waitsNow 19 = .ok (.iload 5, 2) := by decide +kernel
theorem dX11_waitsNow_21 : decode cX11_waitsNow 21 = .ok (.iconst 5, 1) := by decide +kernel
theorem dX11_waitsNow_22 : decode cX11_waitsNow 22 = .ok (.if_icmp .ge 57, 3) := by decide +kernel
theorem dX11_waitsNow_25 : decode cX11_waitsNow 25 = .ok (.iload 4, 2) := by decide +kernel
theorem dX11_waitsNow_27 : decode cX11_waitsNow 27 = .ok (.ifCond .ne 52, 3) := by decide +kernel
theorem dX11_waitsNow_30 : decode cX11_waitsNow 30 = .ok (.aload_n 0, 1) := by decide +kernel
theorem dX11_waitsNow_31 : decode cX11_waitsNow 31 = .ok (.iload 5, 2) := by decide +kernel
theorem dX11_waitsNow_33 : decode cX11_waitsNow 33 = .ok (.invokevirtual 109, 3) := by decide +kernel
theorem dX11_waitsNow_36 : decode cX11_waitsNow 36 = .ok (.ifCond .eq 37, 3) := by decide +kernel
theorem dX11_waitsNow_39 : decode cX11_waitsNow 39 = .ok (.iload_n 3, 1) := by decide +kernel
theorem dX11_waitsNow_40 : decode cX11_waitsNow 40 = .ok (.iconst (-1), 1) := by decide +kernel
theorem dX11_waitsNow_41 : decode cX11_waitsNow 41 = .ok (.if_icmp .eq 19, 3) := by decide +kernel
theorem dX11_waitsNow_44 : decode cX11_waitsNow 44 = .ok (.aload_n 0, 1) := by decide +kernel
theorem dX11_waitsNow_45 : decode cX11_waitsNow 45 = .ok (.getfield 7, 3) := by decide +kernel
theorem dX11_waitsNow_48 : decode cX11_waitsNow 48 = .ok (.iload 5, 2) := by decide +kernel
theorem dX11_waitsNow_50 : decode cX11_waitsNow 50 = .ok (.invokestatic 80, 3) := by decide +kernel
theorem dX11_waitsNow_53 : decode cX11_waitsNow 53 = .ok (.iconst 4, 1) := by decide +kernel
theorem dX11_waitsNow_54 : decode cX11_waitsNow 54 = .ok (.iadd, 1) := by decide +kernel
theorem dX11_waitsNow_55 : decode cX11_waitsNow 55 = .ok (.iaload, 1) := by decide +kernel
theorem dX11_waitsNow_56 : decode cX11_waitsNow 56 = .ok (.iload_n 3, 1) := by decide +kernel
theorem dX11_waitsNow_57 : decode cX11_waitsNow 57 = .ok (.if_icmp .ge 16, 3) := by decide +kernel
theorem dX11_waitsNow_60 : decode cX11_waitsNow 60 = .ok (.aload_n 0, 1) := by decide +kernel
theorem dX11_waitsNow_61 : decode cX11_waitsNow 61 = .ok (.getfield 7, 3) := by decide +kernel
theorem dX11_waitsNow_64 : decode cX11_waitsNow 64 = .ok (.iload 5, 2) := by decide +kernel
theorem dX11_waitsNow_66 : decode cX11_waitsNow 66 = .ok (.invokestatic 80, 3) := by decide +kernel
theorem dX11_waitsNow_69 : decode cX11_waitsNow 69 = .ok (.iconst 4, 1) := by decide +kernel
theorem dX11_waitsNow_70 : decode cX11_waitsNow 70 = .ok (.iadd, 1) := by decide +kernel
theorem dX11_waitsNow_71 : decode cX11_waitsNow 71 = .ok (.iaload, 1) := by decide +kernel
theorem dX11_waitsNow_72 : decode cX11_waitsNow 72 = .ok (.istore_n 3, 1) := by decide +kernel
theorem dX11_waitsNow_73 : decode cX11_waitsNow 73 = .ok (.iinc 5 1, 3) := by decide +kernel
theorem dX11_waitsNow_76 : decode cX11_waitsNow 76 = .ok (.goto (-57), 3) := by decide +kernel
theorem dX11_waitsNow_79 : decode cX11_waitsNow 79 = .ok (.iload 4, 2) := by decide +kernel
theorem dX11_waitsNow_81 : decode cX11_waitsNow 81 = .ok (.ifCond .ne 29, 3) := by decide +kernel
theorem dX11_waitsNow_84 : decode cX11_waitsNow 84 = .ok (.aload_n 0, 1) := by decide +kernel
theorem dX11_waitsNow_85 : decode cX11_waitsNow 85 = .ok (.getfield 7, 3) := by decide +kernel
theorem dX11_waitsNow_88 : decode cX11_waitsNow 88 = .ok (.iload_n 2, 1) := by decide +kernel
theorem dX11_waitsNow_89 : decode cX11_waitsNow 89 = .ok (.invokestatic 80, 3) := by decide +kernel
theorem dX11_waitsNow_92 : decode cX11_waitsNow 92 = .ok (.iconst 4, 1) := by decide +kernel
theorem dX11_waitsNow_93 : decode cX11_waitsNow 93 = .ok (.iadd, 1) := by decide +kernel
theorem dX11_waitsNow_94 : decode cX11_waitsNow 94 = .ok (.aload_n 0, 1) := by decide +kernel
theorem dX11_waitsNow_95 : decode cX11_waitsNow 95 = .ok (.getfield 7, 3) := by decide +kernel
theorem dX11_waitsNow_98 : decode cX11_waitsNow 98 = .ok (.iload_n 2, 1) := by decide +kernel
theorem dX11_waitsNow_99 : decode cX11_waitsNow 99 = .ok (.invokestatic 80, 3) := by decide +kernel
theorem dX11_waitsNow_102 : decode cX11_waitsNow 102 = .ok (.iconst 4, 1) := by decide +kernel
theorem dX11_waitsNow_103 : decode cX11_waitsNow 103 = .ok (.iadd, 1) := by decide +kernel
theorem dX11_waitsNow_104 : decode cX11_waitsNow 104 = .ok (.iaload, 1) := by decide +kernel
theorem dX11_waitsNow_105 : decode cX11_waitsNow 105 = .ok (.iload_n 3, 1) := by decide +kernel
theorem dX11_waitsNow_106 : decode cX11_waitsNow 106 = .ok (.invokestatic 118, 3) := by decide +kernel
theorem dX11_waitsNow_109 : decode cX11_waitsNow 109 = .ok (.iastore, 1) := by decide +kernel
theorem dX11_waitsNow_110 : decode cX11_waitsNow 110 = .ok (.aload_n 0, 1) := by decide +kernel
theorem dX11_waitsNow_111 : decode cX11_waitsNow 111 = .ok (.iload_n 1, 1) := by decide +kernel
theorem dX11_waitsNow_112 : decode cX11_waitsNow 112 = .ok (.bipush 6, 2) := by decide +kernel
theorem dX11_waitsNow_114 : decode cX11_waitsNow 114 = .ok (.iconst 0, 1) := by decide +kernel
theorem dX11_waitsNow_115 : decode cX11_waitsNow 115 = .ok (.invokevirtual 121, 3) := by decide +kernel
theorem dX11_waitsNow_118 : decode cX11_waitsNow 118 = .ok (.return_, 1) := by decide +kernel
theorem dX11_isHeldBack_0 : decode cX11_isHeldBack 0 = .ok (.aload_n 0, 1) := by decide +kernel
theorem dX11_isHeldBack_1 : decode cX11_isHeldBack 1 = .ok (.iload_n 1, 1) := by decide +kernel
theorem dX11_isHeldBack_2 : decode cX11_isHeldBack 2 = .ok (.iconst 4, 1) := by decide +kernel
theorem dX11_isHeldBack_3 : decode cX11_isHeldBack 3 = .ok (.invokevirtual 94, 3) := by decide +kernel
theorem dX11_isHeldBack_6 : decode cX11_isHeldBack 6 = .ok (.iconst (-1), 1) := by decide +kernel
theorem dX11_isHeldBack_7 : decode cX11_isHeldBack 7 = .ok (.if_icmp .eq 23, 3) := by decide +kernel
theorem dX11_isHeldBack_10 : decode cX11_isHeldBack 10 = .ok (.aload_n 0, 1) := by decide +kernel
theorem dX11_isHeldBack_11 : decode cX11_isHeldBack 11 = .ok (.aload_n 0, 1) := by decide +kernel
theorem dX11_isHeldBack_12 : decode cX11_isHeldBack 12 = .ok (.iload_n 1, 1) := by decide +kernel
theorem dX11_isHeldBack_13 : decode cX11_isHeldBack 13 = .ok (.iconst 4, 1) := by decide +kernel
theorem dX11_isHeldBack_14 : decode cX11_isHeldBack 14 = .ok (.invokevirtual 94, 3) := by decide +kernel
theorem dX11_isHeldBack_17 : decode cX11_isHeldBack 17 = .ok (.bipush 6, 2) := by decide +kernel
theorem dX11_isHeldBack_19 : decode cX11_isHeldBack 19 = .ok (.invokevirtual 94, 3) := by decide +kernel
theorem dX11_isHeldBack_22 : decode cX11_isHeldBack 22 = .ok (.iconst 4, 1) := by decide +kernel
theorem dX11_isHeldBack_23 : decode cX11_isHeldBack 23 = .ok (.if_icmp .eq 7, 3) := by decide +kernel
theorem dX11_isHeldBack_26 : decode cX11_isHeldBack 26 = .ok (.iconst 1, 1) := by decide +kernel
theorem dX11_isHeldBack_27 : decode cX11_isHeldBack 27 = .ok (.goto 4, 3) := by decide +kernel
theorem dX11_isHeldBack_30 : decode cX11_isHeldBack 30 = .ok (.iconst 0, 1) := by decide +kernel
theorem dX11_isHeldBack_31 : decode cX11_isHeldBack 31 = .ok (.ireturn, 1) := by decide +kernel
theorem dX11_closes_0 : decode cX11_closes 0 = .ok (.iconst 0, 1) := by decide +kernel
theorem dX11_closes_1 : decode cX11_closes 1 = .ok (.istore_n 1, 1) := by decide +kernel
theorem dX11_closes_2 : decode cX11_closes 2 = .ok (.iload_n 1, 1) := by decide +kernel
theorem dX11_closes_3 : decode cX11_closes 3 = .ok (.iconst 5, 1) := by decide +kernel
theorem dX11_closes_4 : decode cX11_closes 4 = .ok (.if_icmp .ge 44, 3) := by decide +kernel
theorem dX11_closes_7 : decode cX11_closes 7 = .ok (.aload_n 0, 1) := by decide +kernel
theorem dX11_closes_8 : decode cX11_closes 8 = .ok (.getfield 7, 3) := by decide +kernel
theorem dX11_closes_11 : decode cX11_closes 11 = .ok (.iload_n 1, 1) := by decide +kernel
theorem dX11_closes_12 : decode cX11_closes 12 = .ok (.invokestatic 80, 3) := by decide +kernel
theorem dX11_closes_15 : decode cX11_closes 15 = .ok (.iconst 3, 1) := by decide +kernel
theorem dX11_closes_16 : decode cX11_closes 16 = .ok (.iadd, 1) := by decide +kernel
theorem dX11_closes_17 : decode cX11_closes 17 = .ok (.iaload, 1) := by decide +kernel
theorem dX11_closes_18 : decode cX11_closes 18 = .ok (.iconst 1, 1) := by decide +kernel
theorem dX11_closes_19 : decode cX11_closes 19 = .ok (.if_icmp .ne 23, 3) := by decide +kernel
theorem dX11_closes_22 : decode cX11_closes 22 = .ok (.aload_n 0, 1) := by decide +kernel
theorem dX11_closes_23 : decode cX11_closes 23 = .ok (.iload_n 1, 1) := by decide +kernel
theorem dX11_closes_24 : decode cX11_closes 24 = .ok (.invokevirtual 115, 3) := by decide +kernel
theorem dX11_closes_27 : decode cX11_closes 27 = .ok (.ifCond .ne 15, 3) := by decide +kernel
theorem dX11_closes_30 : decode cX11_closes 30 = .ok (.aload_n 0, 1) := by decide +kernel
theorem dX11_closes_31 : decode cX11_closes 31 = .ok (.getfield 7, 3) := by decide +kernel
theorem dX11_closes_34 : decode cX11_closes 34 = .ok (.iload_n 1, 1) := by decide +kernel
theorem dX11_closes_35 : decode cX11_closes 35 = .ok (.invokestatic 80, 3) := by decide +kernel
theorem dX11_closes_38 : decode cX11_closes 38 = .ok (.iconst 3, 1) := by decide +kernel
theorem dX11_closes_39 : decode cX11_closes 39 = .ok (.iadd, 1) := by decide +kernel
theorem dX11_closes_40 : decode cX11_closes 40 = .ok (.iconst 2, 1) := by decide +kernel
theorem dX11_closes_41 : decode cX11_closes 41 = .ok (.iastore, 1) := by decide +kernel
theorem dX11_closes_42 : decode cX11_closes 42 = .ok (.iinc 1 1, 3) := by decide +kernel
theorem dX11_closes_45 : decode cX11_closes 45 = .ok (.goto (-43), 3) := by decide +kernel
theorem dX11_closes_48 : decode cX11_closes 48 = .ok (.return_, 1) := by decide +kernel
theorem dX11_blames_0 : decode cX11_blames 0 = .ok (.aload_n 0, 1) := by decide +kernel
theorem dX11_blames_1 : decode cX11_blames 1 = .ok (.iload_n 1, 1) := by decide +kernel
theorem dX11_blames_2 : decode cX11_blames 2 = .ok (.bipush 13, 2) := by decide +kernel
theorem dX11_blames_4 : decode cX11_blames 4 = .ok (.iload_n 2, 1) := by decide +kernel
theorem dX11_blames_5 : decode cX11_blames 5 = .ok (.invokevirtual 121, 3) := by decide +kernel
theorem dX11_blames_8 : decode cX11_blames 8 = .ok (.aload_n 0, 1) := by decide +kernel
theorem dX11_blames_9 : decode cX11_blames 9 = .ok (.getfield 35, 3) := by decide +kernel
theorem dX11_blames_12 : decode cX11_blames 12 = .ok (.ifCond .ne 14, 3) := by decide +kernel
theorem dX11_blames_15 : decode cX11_blames 15 = .ok (.aload_n 0, 1) := by decide +kernel
theorem dX11_blames_16 : decode cX11_blames 16 = .ok (.getfield 19, 3) := by decide +kernel
theorem dX11_blames_19 : decode cX11_blames 19 = .ok (.iload_n 1, 1) := by decide +kernel
theorem dX11_blames_20 : decode cX11_blames 20 = .ok (.iaload, 1) := by decide +kernel
theorem dX11_blames_21 : decode cX11_blames 21 = .ok (.bipush 20, 2) := by decide +kernel
theorem dX11_blames_23 : decode cX11_blames 23 = .ok (.if_icmp .ne 4, 3) := by decide +kernel
theorem dX11_blames_26 : decode cX11_blames 26 = .ok (.return_, 1) := by decide +kernel
theorem dX11_blames_27 : decode cX11_blames 27 = .ok (.aload_n 0, 1) := by decide +kernel
theorem dX11_blames_28 : decode cX11_blames 28 = .ok (.getfield 22, 3) := by decide +kernel
theorem dX11_blames_31 : decode cX11_blames 31 = .ok (.bipush 20, 2) := by decide +kernel
theorem dX11_blames_33 : decode cX11_blames 33 = .ok (.iload_n 1, 1) := by decide +kernel
theorem dX11_blames_34 : decode cX11_blames 34 = .ok (.imul, 1) := by decide +kernel
theorem dX11_blames_35 : decode cX11_blames 35 = .ok (.aload_n 0, 1) := by decide +kernel
theorem dX11_blames_36 : decode cX11_blames 36 = .ok (.getfield 19, 3) := by decide +kernel
theorem dX11_blames_39 : decode cX11_blames 39 = .ok (.iload_n 1, 1) := by decide +kernel
theorem dX11_blames_40 : decode cX11_blames 40 = .ok (.iaload, 1) := by decide +kernel
theorem dX11_blames_41 : decode cX11_blames 41 = .ok (.iadd, 1) := by decide +kernel
theorem dX11_blames_42 : decode cX11_blames 42 = .ok (.iload_n 2, 1) := by decide +kernel
theorem dX11_blames_43 : decode cX11_blames 43 = .ok (.iastore, 1) := by decide +kernel
theorem dX11_blames_44 : decode cX11_blames 44 = .ok (.aload_n 0, 1) := by decide +kernel
theorem dX11_blames_45 : decode cX11_blames 45 = .ok (.getfield 19, 3) := by decide +kernel
theorem dX11_blames_48 : decode cX11_blames 48 = .ok (.iload_n 1, 1) := by decide +kernel
theorem dX11_blames_49 : decode cX11_blames 49 = .ok (.dup2, 1) := by decide +kernel
theorem dX11_blames_50 : decode cX11_blames 50 = .ok (.iaload, 1) := by decide +kernel
theorem dX11_blames_51 : decode cX11_blames 51 = .ok (.iconst 1, 1) := by decide +kernel
theorem dX11_blames_52 : decode cX11_blames 52 = .ok (.iadd, 1) := by decide +kernel
theorem dX11_blames_53 : decode cX11_blames 53 = .ok (.iastore, 1) := by decide +kernel
theorem dX11_blames_54 : decode cX11_blames 54 = .ok (.return_, 1) := by decide +kernel
theorem dX11_goesAside_0 : decode cX11_goesAside 0 = .ok (.aload_n 0, 1) := by decide +kernel
theorem dX11_goesAside_1 : decode cX11_goesAside 1 = .ok (.iload_n 1, 1) := by decide +kernel
theorem dX11_goesAside_2 : decode cX11_goesAside 2 = .ok (.bipush 6, 2) := by decide +kernel
theorem dX11_goesAside_4 : decode cX11_goesAside 4 = .ok (.iconst 5, 1) := by decide +kernel
theorem dX11_goesAside_5 : decode cX11_goesAside 5 = .ok (.invokevirtual 121, 3) := by decide +kernel
theorem dX11_goesAside_8 : decode cX11_goesAside 8 = .ok (.aload_n 0, 1) := by decide +kernel
theorem dX11_goesAside_9 : decode cX11_goesAside 9 = .ok (.getfield 7, 3) := by decide +kernel
theorem dX11_goesAside_12 : decode cX11_goesAside 12 = .ok (.sipush 5800, 3) := by decide +kernel
theorem dX11_goesAside_15 : decode cX11_goesAside 15 = .ok (.aload_n 0, 1) := by decide +kernel
theorem dX11_goesAside_16 : decode cX11_goesAside 16 = .ok (.getfield 7, 3) := by decide +kernel
theorem dX11_goesAside_19 : decode cX11_goesAside 19 = .ok (.iconst 3, 1) := by decide +kernel
theorem dX11_goesAside_20 : decode cX11_goesAside 20 = .ok (.iaload, 1) := by decide +kernel
theorem dX11_goesAside_21 : decode cX11_goesAside 21 = .ok (.iadd, 1) := by decide +kernel
theorem dX11_goesAside_22 : decode cX11_goesAside 22 = .ok (.iload_n 1, 1) := by decide +kernel
theorem dX11_goesAside_23 : decode cX11_goesAside 23 = .ok (.iastore, 1) := by decide +kernel
theorem dX11_goesAside_24 : decode cX11_goesAside 24 = .ok (.aload_n 0, 1) := by decide +kernel
theorem dX11_goesAside_25 : decode cX11_goesAside 25 = .ok (.getfield 7, 3) := by decide +kernel
theorem dX11_goesAside_28 : decode cX11_goesAside 28 = .ok (.iconst 3, 1) := by decide +kernel
theorem dX11_goesAside_29 : decode cX11_goesAside 29 = .ok (.dup2, 1) := by decide +kernel
theorem dX11_goesAside_30 : decode cX11_goesAside 30 = .ok (.iaload, 1) := by decide +kernel
theorem dX11_goesAside_31 : decode cX11_goesAside 31 = .ok (.iconst 1, 1) := by decide +kernel
theorem dX11_goesAside_32 : decode cX11_goesAside 32 = .ok (.iadd, 1) := by decide +kernel
theorem dX11_goesAside_33 : decode cX11_goesAside 33 = .ok (.iastore, 1) := by decide +kernel
theorem dX11_goesAside_34 : decode cX11_goesAside 34 = .ok (.aload_n 0, 1) := by decide +kernel
theorem dX11_goesAside_35 : decode cX11_goesAside 35 = .ok (.dup, 1) := by decide +kernel
theorem dX11_goesAside_36 : decode cX11_goesAside 36 = .ok (.getfield 42, 3) := by decide +kernel
theorem dX11_goesAside_39 : decode cX11_goesAside 39 = .ok (.iconst 1, 1) := by decide +kernel
theorem dX11_goesAside_40 : decode cX11_goesAside 40 = .ok (.iadd, 1) := by decide +kernel
theorem dX11_goesAside_41 : decode cX11_goesAside 41 = .ok (.putfield 42, 3) := by decide +kernel
theorem dX11_goesAside_44 : decode cX11_goesAside 44 = .ok (.aload_n 0, 1) := by decide +kernel
theorem dX11_goesAside_45 : decode cX11_goesAside 45 = .ok (.iconst 4, 1) := by decide +kernel
theorem dX11_goesAside_46 : decode cX11_goesAside 46 = .ok (.iload_n 1, 1) := by decide +kernel
theorem dX11_goesAside_47 : decode cX11_goesAside 47 = .ok (.iconst (-1), 1) := by decide +kernel
theorem dX11_goesAside_48 : decode cX11_goesAside 48 = .ok (.iload_n 2, 1) := by decide +kernel
theorem dX11_goesAside_49 : decode cX11_goesAside 49 = .ok (.invokevirtual 125, 3) := by decide +kernel
theorem dX11_goesAside_52 : decode cX11_goesAside 52 = .ok (.return_, 1) := by decide +kernel
theorem dX11_drags_0 : decode cX11_drags 0 = .ok (.iconst 0, 1) := by decide +kernel
theorem dX11_drags_1 : decode cX11_drags 1 = .ok (.istore_n 3, 1) := by decide +kernel
theorem dX11_drags_2 : decode cX11_drags 2 = .ok (.iload_n 3, 1) := by decide +kernel
theorem dX11_drags_3 : decode cX11_drags 3 = .ok (.aload_n 0, 1) := by decide +kernel
theorem dX11_drags_4 : decode cX11_drags 4 = .ok (.getfield 7, 3) := by decide +kernel
theorem dX11_drags_7 : decode cX11_drags 7 = .ok (.iconst 1, 1) := by decide +kernel
theorem dX11_drags_8 : decode cX11_drags 8 = .ok (.iaload, 1) := by decide +kernel
theorem dX11_drags_9 : decode cX11_drags 9 = .ok (.if_icmp .ge 25, 3) := by decide +kernel
theorem dX11_drags_12 : decode cX11_drags 12 = .ok (.aload_n 0, 1) := by decide +kernel
theorem dX11_drags_13 : decode cX11_drags 13 = .ok (.getfield 48, 3) := by decide +kernel
theorem dX11_drags_16 : decode cX11_drags 16 = .ok (.iload_n 3, 1) := by decide +kernel
theorem dX11_drags_17 : decode cX11_drags 17 = .ok (.iload_n 3, 1) := by decide +kernel
theorem dX11_drags_18 : decode cX11_drags 18 = .ok (.iload_n 1, 1) := by decide +kernel
theorem dX11_drags_19 : decode cX11_drags 19 = .ok (.if_icmp .ne 7, 3) := by decide +kernel
theorem dX11_drags_22 : decode cX11_drags 22 = .ok (.iconst 1, 1) := by decide +kernel
theorem dX11_drags_23 : decode cX11_drags 23 = .ok (.goto 4, 3) := by decide +kernel
theorem dX11_drags_26 : decode cX11_drags 26 = .ok (.iconst 0, 1) := by decide +kernel
theorem dX11_drags_27 : decode cX11_drags 27 = .ok (.bastore, 1) := by decide +kernel
theorem dX11_drags_28 : decode cX11_drags 28 = .ok (.iinc 3 1, 3) := by decide +kernel
theorem dX11_drags_31 : decode cX11_drags 31 = .ok (.goto (-29), 3) := by decide +kernel
theorem dX11_drags_34 : decode cX11_drags 34 = .ok (.iconst 0, 1) := by decide +kernel
theorem dX11_drags_35 : decode cX11_drags 35 = .ok (.istore_n 3, 1) := by decide +kernel
theorem dX11_drags_36 : decode cX11_drags 36 = .ok (.iload_n 2, 1) := by decide +kernel
theorem dX11_drags_37 : decode cX11_drags 37 = .ok (.istore 4, 2) := by decide +kernel
theorem dX11_drags_39 : decode cX11_drags 39 = .ok (.iconst 1, 1) := by decide +kernel
theorem dX11_drags_40 : decode cX11_drags 40 = .ok (.istore 5, 2) := by decide +kernel
theorem dX11_drags_42 : decode cX11_drags 42 = .ok (.iload 5, 2) := by decide +kernel
theorem dX11_drags_44 : decode cX11_drags 44 = .ok (.ifCond .le 161, 3) := by decide +kernel
theorem dX11_drags_47 : decode cX11_drags 47 = .ok (.iconst 0, 1) := by decide +kernel
theorem dX11_drags_48 : decode cX11_drags 48 = .ok (.istore 5, 2) := by decide +kernel
theorem dX11_drags_50 : decode cX11_drags 50 = .ok (.iconst 0, 1) := by decide +kernel
theorem dX11_drags_51 : decode cX11_drags 51 = .ok (.istore 6, 2) := by decide +kernel
theorem dX11_drags_53 : decode cX11_drags 53 = .ok (.iload 6, 2) := by decide +kernel
theorem dX11_drags_55 : decode cX11_drags 55 = .ok (.aload_n 0, 1) := by decide +kernel
theorem dX11_drags_56 : decode cX11_drags 56 = .ok (.getfield 7, 3) := by decide +kernel
theorem dX11_drags_59 : decode cX11_drags 59 = .ok (.iconst 1, 1) := by decide +kernel
theorem dX11_drags_60 : decode cX11_drags 60 = .ok (.iaload, 1) := by decide +kernel
theorem dX11_drags_61 : decode cX11_drags 61 = .ok (.if_icmp .ge 61, 3) := by decide +kernel
theorem dX11_drags_64 : decode cX11_drags 64 = .ok (.aload_n 0, 1) := by decide +kernel
theorem dX11_drags_65 : decode cX11_drags 65 = .ok (.iload 6, 2) := by decide +kernel
theorem dX11_drags_67 : decode cX11_drags 67 = .ok (.bipush 6, 2) := by decide +kernel
theorem dX11_drags_69 : decode cX11_drags 69 = .ok (.invokevirtual 94, 3) := by decide +kernel
theorem dX11_drags_72 : decode cX11_drags 72 = .ok (.iconst 1, 1) := by decide +kernel
theorem dX11_drags_73 : decode cX11_drags 73 = .ok (.if_icmp .ne 43, 3) := by decide +kernel
theorem dX11_drags_76 : decode cX11_drags 76 = .ok (.aload_n 0, 1) := by decide +kernel
theorem dX11_drags_77 : decode cX11_drags 77 = .ok (.iload 6, 2) := by decide +kernel
theorem dX11_drags_79 : decode cX11_drags 79 = .ok (.iconst 4, 1) := by decide +kernel
theorem dX11_drags_80 : decode cX11_drags 80 = .ok (.invokevirtual 94, 3) := by decide +kernel
theorem dX11_drags_83 : decode cX11_drags 83 = .ok (.iconst (-1), 1) := by decide +kernel
theorem dX11_drags_84 : decode cX11_drags 84 = .ok (.if_icmp .eq 32, 3) := by decide +kernel
theorem dX11_drags_87 : decode cX11_drags 87 = .ok (.aload_n 0, 1) := by decide +kernel
theorem dX11_drags_88 : decode cX11_drags 88 = .ok (.getfield 48, 3) := by decide +kernel
theorem dX11_drags_91 : decode cX11_drags 91 = .ok (.aload_n 0, 1) := by decide +kernel
theorem dX11_drags_92 : decode cX11_drags 92 = .ok (.iload 6, 2) := by decide +kernel
theorem dX11_drags_94 : decode cX11_drags 94 = .ok (.iconst 4, 1) := by decide +kernel
theorem dX11_drags_95 : decode cX11_drags 95 = .ok (.invokevirtual 94, 3) := by decide +kernel
theorem dX11_drags_98 : decode cX11_drags 98 = .ok (.baload, 1) := by decide +kernel
theorem dX11_drags_99 : decode cX11_drags 99 = .ok (.ifCond .ne 6, 3) := by decide +kernel
theorem dX11_drags_102 : decode cX11_drags 102 = .ok (.goto 14, 3) := by decide +kernel
theorem dX11_drags_105 : decode cX11_drags 105 = .ok (.aload_n 0, 1) := by decide +kernel
theorem dX11_drags_106 : decode cX11_drags 106 = .ok (.getfield 52, 3) := by decide +kernel
theorem dX11_drags_109 : decode cX11_drags 109 = .ok (.iload 6, 2) := by decide +kernel
theorem dX11_drags_111 : decode cX11_drags 111 = .ok (.iconst 1, 1) := by decide +kernel
theorem dX11_drags_112 : decode cX11_drags 112 = .ok (.bastore, 1) := by decide +kernel
theorem dX11_drags_113 : decode cX11_drags 113 = .ok (.iinc 5 1, 3) := by decide +kernel
theorem dX11_drags_116 : decode cX11_drags 116 = .ok (.iinc 6 1, 3) := by decide +kernel
theorem dX11_drags_119 : decode cX11_drags 119 = .ok (.goto (-66), 3) := by decide +kernel
theorem dX11_drags_122 : decode cX11_drags 122 = .ok (.iconst 0, 1) := by decide +kernel
theorem dX11_drags_123 : decode cX11_drags 123 = .ok (.istore 6, 2) := by decide +kernel
theorem dX11_drags_125 : decode cX11_drags 125 = .ok (.iload 6, 2) := by decide +kernel
theorem dX11_drags_127 : decode cX11_drags 127 = .ok (.aload_n 0, 1) := by decide +kernel
theorem dX11_drags_128 : decode cX11_drags 128 = .ok (.getfield 7, 3) := by decide +kernel
theorem dX11_drags_131 : decode cX11_drags 131 = .ok (.iconst 1, 1) := by decide +kernel
theorem dX11_drags_132 : decode cX11_drags 132 = .ok (.iaload, 1) := by decide +kernel
theorem dX11_drags_133 : decode cX11_drags 133 = .ok (.if_icmp .ge 60, 3) := by decide +kernel
theorem dX11_drags_136 : decode cX11_drags 136 = .ok (.aload_n 0, 1) := by decide +kernel
theorem dX11_drags_137 : decode cX11_drags 137 = .ok (.getfield 48, 3) := by decide +kernel
theorem dX11_drags_140 : decode cX11_drags 140 = .ok (.iload 6, 2) := by decide +kernel
theorem dX11_drags_142 : decode cX11_drags 142 = .ok (.aload_n 0, 1) := by decide +kernel
theorem dX11_drags_143 : decode cX11_drags 143 = .ok (.getfield 52, 3) := by decide +kernel
theorem dX11_drags_146 : decode cX11_drags 146 = .ok (.iload 6, 2) := by decide +kernel
theorem dX11_drags_148 : decode cX11_drags 148 = .ok (.baload, 1) := by decide +kernel
theorem dX11_drags_149 : decode cX11_drags 149 = .ok (.bastore, 1) := by decide +kernel
theorem dX11_drags_150 : decode cX11_drags 150 = .ok (.aload_n 0, 1) := by decide +kernel
theorem dX11_drags_151 : decode cX11_drags 151 = .ok (.getfield 52, 3) := by decide +kernel
theorem dX11_drags_154 : decode cX11_drags 154 = .ok (.iload 6, 2) := by decide +kernel
theorem dX11_drags_156 : decode cX11_drags 156 = .ok (.iconst 0, 1) := by decide +kernel
theorem dX11_drags_157 : decode cX11_drags 157 = .ok (.bastore, 1) := by decide +kernel
theorem dX11_drags_158 : decode cX11_drags 158 = .ok (.aload_n 0, 1) := by decide +kernel
theorem dX11_drags_159 : decode cX11_drags 159 = .ok (.getfield 48, 3) := by decide +kernel
theorem dX11_drags_162 : decode cX11_drags 162 = .ok (.iload 6, 2) := by decide +kernel
theorem dX11_drags_164 : decode cX11_drags 164 = .ok (.baload, 1) := by decide +kernel
theorem dX11_drags_165 : decode cX11_drags 165 = .ok (.ifCond .ne 6, 3) := by decide +kernel
theorem dX11_drags_168 : decode cX11_drags 168 = .ok (.goto 19, 3) := by decide +kernel
theorem dX11_drags_171 : decode cX11_drags 171 = .ok (.aload_n 0, 1) := by decide +kernel
theorem dX11_drags_172 : decode cX11_drags 172 = .ok (.iload 6, 2) := by decide +kernel
theorem dX11_drags_174 : decode cX11_drags 174 = .ok (.iload 4, 2) := by decide +kernel
theorem dX11_drags_176 : decode cX11_drags 176 = .ok (.invokevirtual 129, 3) := by decide +kernel
theorem dX11_drags_179 : decode cX11_drags 179 = .ok (.aload_n 0, 1) := by decide +kernel
theorem dX11_drags_180 : decode cX11_drags 180 = .ok (.iload 6, 2) := by decide +kernel
theorem dX11_drags_182 : decode cX11_drags 182 = .ok (.iload 4, 2) := by decide +kernel
theorem dX11_drags_184 : decode cX11_drags 184 = .ok (.invokevirtual 133, 3) := by decide +kernel
theorem dX11_drags_187 : decode cX11_drags 187 = .ok (.iinc 6 1, 3) := by decide +kernel
theorem dX11_drags_190 : decode cX11_drags 190 = .ok (.goto (-65), 3) := by decide +kernel
theorem dX11_drags_193 : decode cX11_drags 193 = .ok (.iload_n 3, 1) := by decide +kernel
theorem dX11_drags_194 : decode cX11_drags 194 = .ok (.iload 5, 2) := by decide +kernel
theorem dX11_drags_196 : decode cX11_drags 196 = .ok (.iadd, 1) := by decide +kernel
theorem dX11_drags_197 : decode cX11_drags 197 = .ok (.istore_n 3, 1) := by decide +kernel
theorem dX11_drags_198 : decode cX11_drags 198 = .ok (.bipush 100, 2) := by decide +kernel
theorem dX11_drags_200 : decode cX11_drags 200 = .ok (.istore 4, 2) := by decide +kernel
theorem dX11_drags_202 : decode cX11_drags 202 = .ok (.goto (-160), 3) := by decide +kernel
theorem dX11_drags_205 : decode cX11_drags 205 = .ok (.iload_n 3, 1) := by decide +kernel
theorem dX11_drags_206 : decode cX11_drags 206 = .ok (.ireturn, 1) := by decide +kernel
theorem dX11_leavesWorker_0 : decode cX11_leavesWorker 0 = .ok (.aload_n 0, 1) := by decide +kernel
theorem dX11_leavesWorker_1 : decode cX11_leavesWorker 1 = .ok (.getfield 7, 3) := by decide +kernel
theorem dX11_leavesWorker_4 : decode cX11_leavesWorker 4 = .ok (.aload_n 0, 1) := by decide +kernel
theorem dX11_leavesWorker_5 : decode cX11_leavesWorker 5 = .ok (.iload_n 1, 1) := by decide +kernel
theorem dX11_leavesWorker_6 : decode cX11_leavesWorker 6 = .ok (.bipush 9, 2) := by decide +kernel
theorem dX11_leavesWorker_8 : decode cX11_leavesWorker 8 = .ok (.invokevirtual 94, 3) := by decide +kernel
theorem dX11_leavesWorker_11 : decode cX11_leavesWorker 11 = .ok (.invokestatic 84, 3) := by decide +kernel
theorem dX11_leavesWorker_14 : decode cX11_leavesWorker 14 = .ok (.iconst 0, 1) := by decide +kernel
theorem dX11_leavesWorker_15 : decode cX11_leavesWorker 15 = .ok (.iadd, 1) := by decide +kernel
theorem dX11_leavesWorker_16 : decode cX11_leavesWorker 16 = .ok (.iconst (-1), 1) := by decide +kernel
theorem dX11_leavesWorker_17 : decode cX11_leavesWorker 17 = .ok (.iastore, 1) := by decide +kernel
theorem dX11_leavesWorker_18 : decode cX11_leavesWorker 18 = .ok (.aload_n 0, 1) := by decide +kernel
theorem dX11_leavesWorker_19 : decode cX11_leavesWorker 19 = .ok (.iload_n 1, 1) := by decide +kernel
theorem dX11_leavesWorker_20 : decode cX11_leavesWorker 20 = .ok (.bipush 9, 2) := by decide +kernel
theorem dX11_leavesWorker_22 : decode cX11_leavesWorker 22 = .ok (.iconst (-1), 1) := by decide +kernel
theorem dX11_leavesWorker_23 : decode cX11_leavesWorker 23 = .ok (.invokevirtual 121, 3) := by decide +kernel
theorem dX11_leavesWorker_26 : decode cX11_leavesWorker 26 = .ok (.aload_n 0, 1) := by decide +kernel
theorem dX11_leavesWorker_27 : decode cX11_leavesWorker 27 = .ok (.iload_n 1, 1) := by decide +kernel
theorem dX11_leavesWorker_28 : decode cX11_leavesWorker 28 = .ok (.bipush 10, 2) := by decide +kernel
theorem dX11_leavesWorker_30 : decode cX11_leavesWorker 30 = .ok (.iconst (-1), 1) := by decide +kernel
theorem dX11_leavesWorker_31 : decode cX11_leavesWorker 31 = .ok (.invokevirtual 121, 3) := by decide +kernel
theorem dX11_leavesWorker_34 : decode cX11_leavesWorker 34 = .ok (.aload_n 0, 1) := by decide +kernel
theorem dX11_leavesWorker_35 : decode cX11_leavesWorker 35 = .ok (.iload_n 1, 1) := by decide +kernel
theorem dX11_leavesWorker_36 : decode cX11_leavesWorker 36 = .ok (.bipush 11, 2) := by decide +kernel
theorem dX11_leavesWorker_38 : decode cX11_leavesWorker 38 = .ok (.iconst (-1), 1) := by decide +kernel
theorem dX11_leavesWorker_39 : decode cX11_leavesWorker 39 = .ok (.invokevirtual 121, 3) := by decide +kernel
theorem dX11_leavesWorker_42 : decode cX11_leavesWorker 42 = .ok (.return_, 1) := by decide +kernel
theorem dX11_isDoneNow_0 : decode cX11_isDoneNow 0 = .ok (.aload_n 0, 1) := by decide +kernel
theorem dX11_isDoneNow_1 : decode cX11_isDoneNow 1 = .ok (.iload_n 1, 1) := by decide +kernel
theorem dX11_isDoneNow_2 : decode cX11_isDoneNow 2 = .ok (.bipush 9, 2) := by decide +kernel
theorem dX11_isDoneNow_4 : decode cX11_isDoneNow 4 = .ok (.invokevirtual 94, 3) := by decide +kernel
theorem dX11_isDoneNow_7 : decode cX11_isDoneNow 7 = .ok (.istore_n 2, 1) := by decide +kernel
theorem dX11_isDoneNow_8 : decode cX11_isDoneNow 8 = .ok (.aload_n 0, 1) := by decide +kernel
theorem dX11_isDoneNow_9 : decode cX11_isDoneNow 9 = .ok (.iconst 2, 1) := by decide +kernel
theorem dX11_isDoneNow_10 : decode cX11_isDoneNow 10 = .ok (.iload_n 1, 1) := by decide +kernel
theorem dX11_isDoneNow_11 : decode cX11_isDoneNow 11 = .ok (.iload_n 2, 1) := by decide +kernel
theorem dX11_isDoneNow_12 : decode cX11_isDoneNow 12 = .ok (.iconst 0, 1) := by decide +kernel
theorem dX11_isDoneNow_13 : decode cX11_isDoneNow 13 = .ok (.invokevirtual 125, 3) := by decide +kernel
theorem dX11_isDoneNow_16 : decode cX11_isDoneNow 16 = .ok (.aload_n 0, 1) := by decide +kernel
theorem dX11_isDoneNow_17 : decode cX11_isDoneNow 17 = .ok (.getfield 7, 3) := by decide +kernel
theorem dX11_isDoneNow_20 : decode cX11_isDoneNow 20 = .ok (.iload_n 2, 1) := by decide +kernel
theorem dX11_isDoneNow_21 : decode cX11_isDoneNow 21 = .ok (.invokestatic 84, 3) := by decide +kernel
theorem dX11_isDoneNow_24 : decode cX11_isDoneNow 24 = .ok (.iconst 2, 1) := by decide +kernel
theorem dX11_isDoneNow_25 : decode cX11_isDoneNow 25 = .ok (.iadd, 1) := by decide +kernel
theorem dX11_isDoneNow_26 : decode cX11_isDoneNow 26 = .ok (.dup2, 1) := by decide +kernel
theorem dX11_isDoneNow_27 : decode cX11_isDoneNow 27 = .ok (.iaload, 1) := by decide +kernel
theorem dX11_isDoneNow_28 : decode cX11_isDoneNow 28 = .ok (.iconst 1, 1) := by decide +kernel
theorem dX11_isDoneNow_29 : decode cX11_isDoneNow 29 = .ok (.iadd, 1) := by decide +kernel
theorem dX11_isDoneNow_30 : decode cX11_isDoneNow 30 = .ok (.iastore, 1) := by decide +kernel
theorem dX11_isDoneNow_31 : decode cX11_isDoneNow 31 = .ok (.aload_n 0, 1) := by decide +kernel
theorem dX11_isDoneNow_32 : decode cX11_isDoneNow 32 = .ok (.iload_n 1, 1) := by decide +kernel
theorem dX11_isDoneNow_33 : decode cX11_isDoneNow 33 = .ok (.invokevirtual 136, 3) := by decide +kernel
theorem dX11_isDoneNow_36 : decode cX11_isDoneNow 36 = .ok (.aload_n 0, 1) := by decide +kernel
theorem dX11_isDoneNow_37 : decode cX11_isDoneNow 37 = .ok (.iload_n 1, 1) := by decide +kernel
theorem dX11_isDoneNow_38 : decode cX11_isDoneNow 38 = .ok (.bipush 12, 2) := by decide +kernel
theorem dX11_isDoneNow_40 : decode cX11_isDoneNow 40 = .ok (.aload_n 0, 1) := by decide +kernel
theorem dX11_isDoneNow_41 : decode cX11_isDoneNow 41 = .ok (.getfield 7, 3) := by decide +kernel
theorem dX11_isDoneNow_44 : decode cX11_isDoneNow 44 = .ok (.iconst 0, 1) := by decide +kernel
theorem dX11_isDoneNow_45 : decode cX11_isDoneNow 45 = .ok (.iaload, 1) := by decide +kernel
theorem dX11_isDoneNow_46 : decode cX11_isDoneNow 46 = .ok (.invokevirtual 121, 3) := by decide +kernel
theorem dX11_isDoneNow_49 : decode cX11_isDoneNow 49 = .ok (.aload_n 0, 1) := by decide +kernel
theorem dX11_isDoneNow_50 : decode cX11_isDoneNow 50 = .ok (.iload_n 1, 1) := by decide +kernel
theorem dX11_isDoneNow_51 : decode cX11_isDoneNow 51 = .ok (.invokevirtual 140, 3) := by decide +kernel
theorem dX11_isDoneNow_54 : decode cX11_isDoneNow 54 = .ok (.aload_n 0, 1) := by decide +kernel
theorem dX11_isDoneNow_55 : decode cX11_isDoneNow 55 = .ok (.invokevirtual 143, 3) := by decide +kernel
theorem dX11_isDoneNow_58 : decode cX11_isDoneNow 58 = .ok (.return_, 1) := by decide +kernel
theorem dX11_frees_0 : decode cX11_frees 0 = .ok (.aload_n 0, 1) := by decide +kernel
theorem dX11_frees_1 : decode cX11_frees 1 = .ok (.iload_n 1, 1) := by decide +kernel
theorem dX11_frees_2 : decode cX11_frees 2 = .ok (.bipush 6, 2) := by decide +kernel
theorem dX11_frees_4 : decode cX11_frees 4 = .ok (.iconst 4, 1) := by decide +kernel
theorem dX11_frees_5 : decode cX11_frees 5 = .ok (.invokevirtual 121, 3) := by decide +kernel
theorem dX11_frees_8 : decode cX11_frees 8 = .ok (.iconst 0, 1) := by decide +kernel
theorem dX11_frees_9 : decode cX11_frees 9 = .ok (.istore_n 2, 1) := by decide +kernel
theorem dX11_frees_10 : decode cX11_frees 10 = .ok (.iload_n 2, 1) := by decide +kernel
theorem dX11_frees_11 : decode cX11_frees 11 = .ok (.aload_n 0, 1) := by decide +kernel
theorem dX11_frees_12 : decode cX11_frees 12 = .ok (.getfield 7, 3) := by decide +kernel
theorem dX11_frees_15 : decode cX11_frees 15 = .ok (.iconst 1, 1) := by decide +kernel
theorem dX11_frees_16 : decode cX11_frees 16 = .ok (.iaload, 1) := by decide +kernel
theorem dX11_frees_17 : decode cX11_frees 17 = .ok (.if_icmp .ge 46, 3) := by decide +kernel
theorem dX11_frees_20 : decode cX11_frees 20 = .ok (.aload_n 0, 1) := by decide +kernel
theorem dX11_frees_21 : decode cX11_frees 21 = .ok (.iload_n 2, 1) := by decide +kernel
theorem dX11_frees_22 : decode cX11_frees 22 = .ok (.bipush 6, 2) := by decide +kernel
theorem dX11_frees_24 : decode cX11_frees 24 = .ok (.invokevirtual 94, 3) := by decide +kernel
theorem dX11_frees_27 : decode cX11_frees 27 = .ok (.iconst 1, 1) := by decide +kernel
theorem dX11_frees_28 : decode cX11_frees 28 = .ok (.if_icmp .ne 29, 3) := by decide +kernel
theorem dX11_frees_31 : decode cX11_frees 31 = .ok (.aload_n 0, 1) := by decide +kernel
theorem dX11_frees_32 : decode cX11_frees 32 = .ok (.iload_n 2, 1) := by decide +kernel
theorem dX11_frees_33 : decode cX11_frees 33 = .ok (.iconst 4, 1) := by decide +kernel
theorem dX11_frees_34 : decode cX11_frees 34 = .ok (.invokevirtual 94, 3) := by decide +kernel
theorem dX11_frees_37 : decode cX11_frees 37 = .ok (.iload_n 1, 1) := by decide +kernel
theorem dX11_frees_38 : decode cX11_frees 38 = .ok (.if_icmp .eq 6, 3) := by decide +kernel
theorem dX11_frees_41 : decode cX11_frees 41 = .ok (.goto 16, 3) := by decide +kernel
theorem dX11_frees_44 : decode cX11_frees 44 = .ok (.aload_n 0, 1) := by decide +kernel
theorem dX11_frees_45 : decode cX11_frees 45 = .ok (.iload_n 2, 1) := by decide +kernel
theorem dX11_frees_46 : decode cX11_frees 46 = .ok (.invokevirtual 146, 3) := by decide +kernel
theorem dX11_frees_49 : decode cX11_frees 49 = .ok (.aload_n 0, 1) := by decide +kernel
theorem dX11_frees_50 : decode cX11_frees 50 = .ok (.iconst 5, 1) := by decide +kernel
theorem dX11_frees_51 : decode cX11_frees 51 = .ok (.iload_n 2, 1) := by decide +kernel
theorem dX11_frees_52 : decode cX11_frees 52 = .ok (.iconst (-1), 1) := by decide +kernel
theorem dX11_frees_53 : decode cX11_frees 53 = .ok (.iconst 0, 1) := by decide +kernel
theorem dX11_frees_54 : decode cX11_frees 54 = .ok (.invokevirtual 125, 3) := by decide +kernel
theorem dX11_frees_57 : decode cX11_frees 57 = .ok (.iinc 2 1, 3) := by decide +kernel
theorem dX11_frees_60 : decode cX11_frees 60 = .ok (.goto (-50), 3) := by decide +kernel
theorem dX11_frees_63 : decode cX11_frees 63 = .ok (.return_, 1) := by decide +kernel
theorem dX11_failsNow_0 : decode cX11_failsNow 0 = .ok (.aload_n 0, 1) := by decide +kernel
theorem dX11_failsNow_1 : decode cX11_failsNow 1 = .ok (.iload_n 1, 1) := by decide +kernel
theorem dX11_failsNow_2 : decode cX11_failsNow 2 = .ok (.bipush 9, 2) := by decide +kernel
theorem dX11_failsNow_4 : decode cX11_failsNow 4 = .ok (.invokevirtual 94, 3) := by decide +kernel
theorem dX11_failsNow_7 : decode cX11_failsNow 7 = .ok (.istore_n 3, 1) := by decide +kernel
theorem dX11_failsNow_8 : decode cX11_failsNow 8 = .ok (.aload_n 0, 1) := by decide +kernel
theorem dX11_failsNow_9 : decode cX11_failsNow 9 = .ok (.iload_n 1, 1) := by decide +kernel
theorem dX11_failsNow_10 : decode cX11_failsNow 10 = .ok (.bipush 7, 2) := by decide +kernel
theorem dX11_failsNow_12 : decode cX11_failsNow 12 = .ok (.aload_n 0, 1) := by decide +kernel
theorem dX11_failsNow_13 : decode cX11_failsNow 13 = .ok (.iload_n 1, 1) := by decide +kernel
theorem dX11_failsNow_14 : decode cX11_failsNow 14 = .ok (.bipush 7, 2) := by decide +kernel
theorem dX11_failsNow_16 : decode cX11_failsNow 16 = .ok (.invokevirtual 94, 3) := by decide +kernel
theorem dX11_failsNow_19 : decode cX11_failsNow 19 = .ok (.iconst 1, 1) := by decide +kernel
theorem dX11_failsNow_20 : decode cX11_failsNow 20 = .ok (.iadd, 1) := by decide +kernel
theorem dX11_failsNow_21 : decode cX11_failsNow 21 = .ok (.invokevirtual 121, 3) := by decide +kernel
theorem dX11_failsNow_24 : decode cX11_failsNow 24 = .ok (.aload_n 0, 1) := by decide +kernel
theorem dX11_failsNow_25 : decode cX11_failsNow 25 = .ok (.getfield 7, 3) := by decide +kernel
theorem dX11_failsNow_28 : decode cX11_failsNow 28 = .ok (.iload_n 3, 1) := by decide +kernel
theorem dX11_failsNow_29 : decode cX11_failsNow 29 = .ok (.invokestatic 84, 3) := by decide +kernel
theorem dX11_failsNow_32 : decode cX11_failsNow 32 = .ok (.iconst 3, 1) := by decide +kernel
theorem dX11_failsNow_33 : decode cX11_failsNow 33 = .ok (.iadd, 1) := by decide +kernel
theorem dX11_failsNow_34 : decode cX11_failsNow 34 = .ok (.dup2, 1) := by decide +kernel
theorem dX11_failsNow_35 : decode cX11_failsNow 35 = .ok (.iaload, 1) := by decide +kernel
theorem dX11_failsNow_36 : decode cX11_failsNow 36 = .ok (.iconst 1, 1) := by decide +kernel
theorem dX11_failsNow_37 : decode cX11_failsNow 37 = .ok (.iadd, 1) := by decide +kernel
theorem dX11_failsNow_38 : decode cX11_failsNow 38 = .ok (.iastore, 1) := by decide +kernel
theorem dX11_failsNow_39 : decode cX11_failsNow 39 = .ok (.aload_n 0, 1) := by decide +kernel
theorem dX11_failsNow_40 : decode cX11_failsNow 40 = .ok (.dup, 1) := by decide +kernel
theorem dX11_failsNow_41 : decode cX11_failsNow 41 = .ok (.getfield 39, 3) := by decide +kernel
theorem dX11_failsNow_44 : decode cX11_failsNow 44 = .ok (.iconst 1, 1) := by decide +kernel
theorem dX11_failsNow_45 : decode cX11_failsNow 45 = .ok (.iadd, 1) := by decide +kernel
theorem dX11_failsNow_46 : decode cX11_failsNow 46 = .ok (.putfield 39, 3) := by decide +kernel
theorem dX11_failsNow_49 : decode cX11_failsNow 49 = .ok (.aload_n 0, 1) := by decide +kernel
theorem dX11_failsNow_50 : decode cX11_failsNow 50 = .ok (.iload_n 1, 1) := by decide +kernel
theorem dX11_failsNow_51 : decode cX11_failsNow 51 = .ok (.invokevirtual 136, 3) := by decide +kernel
theorem dX11_failsNow_54 : decode cX11_failsNow 54 = .ok (.aload_n 0, 1) := by decide +kernel
theorem dX11_failsNow_55 : decode cX11_failsNow 55 = .ok (.iconst 3, 1) := by decide +kernel
theorem dX11_failsNow_56 : decode cX11_failsNow 56 = .ok (.iload_n 1, 1) := by decide +kernel
theorem dX11_failsNow_57 : decode cX11_failsNow 57 = .ok (.iload_n 3, 1) := by decide +kernel
theorem dX11_failsNow_58 : decode cX11_failsNow 58 = .ok (.iload_n 2, 1) := by decide +kernel
theorem dX11_failsNow_59 : decode cX11_failsNow 59 = .ok (.invokevirtual 125, 3) := by decide +kernel
theorem dX11_failsNow_62 : decode cX11_failsNow 62 = .ok (.aload_n 0, 1) := by decide +kernel
theorem dX11_failsNow_63 : decode cX11_failsNow 63 = .ok (.iload_n 1, 1) := by decide +kernel
theorem dX11_failsNow_64 : decode cX11_failsNow 64 = .ok (.iload_n 2, 1) := by decide +kernel
theorem dX11_failsNow_65 : decode cX11_failsNow 65 = .ok (.invokevirtual 129, 3) := by decide +kernel
theorem dX11_failsNow_68 : decode cX11_failsNow 68 = .ok (.aload_n 0, 1) := by decide +kernel
theorem dX11_failsNow_69 : decode cX11_failsNow 69 = .ok (.iload_n 1, 1) := by decide +kernel
theorem dX11_failsNow_70 : decode cX11_failsNow 70 = .ok (.bipush 7, 2) := by decide +kernel
theorem dX11_failsNow_72 : decode cX11_failsNow 72 = .ok (.invokevirtual 94, 3) := by decide +kernel
theorem dX11_failsNow_75 : decode cX11_failsNow 75 = .ok (.aload_n 0, 1) := by decide +kernel
theorem dX11_failsNow_76 : decode cX11_failsNow 76 = .ok (.getfield 7, 3) := by decide +kernel
theorem dX11_failsNow_79 : decode cX11_failsNow 79 = .ok (.bipush 7, 2) := by decide +kernel
theorem dX11_failsNow_81 : decode cX11_failsNow 81 = .ok (.iaload, 1) := by decide +kernel
theorem dX11_failsNow_82 : decode cX11_failsNow 82 = .ok (.if_icmp .ge 44, 3) := by decide +kernel
theorem dX11_failsNow_85 : decode cX11_failsNow 85 = .ok (.aload_n 0, 1) := by decide +kernel
theorem dX11_failsNow_86 : decode cX11_failsNow 86 = .ok (.iload_n 1, 1) := by decide +kernel
theorem dX11_failsNow_87 : decode cX11_failsNow 87 = .ok (.bipush 6, 2) := by decide +kernel
theorem dX11_failsNow_89 : decode cX11_failsNow 89 = .ok (.iconst 2, 1) := by decide +kernel
theorem dX11_failsNow_90 : decode cX11_failsNow 90 = .ok (.invokevirtual 121, 3) := by decide +kernel
theorem dX11_failsNow_93 : decode cX11_failsNow 93 = .ok (.aload_n 0, 1) := by decide +kernel
theorem dX11_failsNow_94 : decode cX11_failsNow 94 = .ok (.iload_n 1, 1) := by decide +kernel
theorem dX11_failsNow_95 : decode cX11_failsNow 95 = .ok (.bipush 8, 2) := by decide +kernel
theorem dX11_failsNow_97 : decode cX11_failsNow 97 = .ok (.aload_n 0, 1) := by decide +kernel
theorem dX11_failsNow_98 : decode cX11_failsNow 98 = .ok (.getfield 7, 3) := by decide +kernel
theorem dX11_failsNow_101 : decode cX11_failsNow 101 = .ok (.iconst 0, 1) := by decide +kernel
theorem dX11_failsNow_102 : decode cX11_failsNow 102 = .ok (.iaload, 1) := by decide +kernel
theorem dX11_failsNow_103 : decode cX11_failsNow 103 = .ok (.aload_n 0, 1) := by decide +kernel
theorem dX11_failsNow_104 : decode cX11_failsNow 104 = .ok (.getfield 7, 3) := by decide +kernel
theorem dX11_failsNow_107 : decode cX11_failsNow 107 = .ok (.bipush 6, 2) := by decide +kernel
theorem dX11_failsNow_109 : decode cX11_failsNow 109 = .ok (.iaload, 1) := by decide +kernel
theorem dX11_failsNow_110 : decode cX11_failsNow 110 = .ok (.aload_n 0, 1) := by decide +kernel
theorem dX11_failsNow_111 : decode cX11_failsNow 111 = .ok (.iload_n 1, 1) := by decide +kernel
theorem dX11_failsNow_112 : decode cX11_failsNow 112 = .ok (.bipush 7, 2) := by decide +kernel
theorem dX11_failsNow_114 : decode cX11_failsNow 114 = .ok (.invokevirtual 94, 3) := by decide +kernel
theorem dX11_failsNow_117 : decode cX11_failsNow 117 = .ok (.iconst 1, 1) := by decide +kernel
theorem dX11_failsNow_118 : decode cX11_failsNow 118 = .ok (.isub, 1) := by decide +kernel
theorem dX11_failsNow_119 : decode cX11_failsNow 119 = .ok (.ishl, 1) := by decide +kernel
theorem dX11_failsNow_120 : decode cX11_failsNow 120 = .ok (.iadd, 1) := by decide +kernel
theorem dX11_failsNow_121 : decode cX11_failsNow 121 = .ok (.invokevirtual 121, 3) := by decide +kernel
theorem dX11_failsNow_124 : decode cX11_failsNow 124 = .ok (.iconst 2, 1) := by decide +kernel
theorem dX11_failsNow_125 : decode cX11_failsNow 125 = .ok (.ireturn, 1) := by decide +kernel
theorem dX11_failsNow_126 : decode cX11_failsNow 126 = .ok (.aload_n 0, 1) := by decide +kernel
theorem dX11_failsNow_127 : decode cX11_failsNow 127 = .ok (.getfield 35, 3) := by decide +kernel
theorem dX11_failsNow_130 : decode cX11_failsNow 130 = .ok (.ifCond .ne 18, 3) := by decide +kernel
theorem dX11_failsNow_133 : decode cX11_failsNow 133 = .ok (.aload_n 0, 1) := by decide +kernel
theorem dX11_failsNow_134 : decode cX11_failsNow 134 = .ok (.getfield 16, 3) := by decide +kernel
theorem dX11_failsNow_137 : decode cX11_failsNow 137 = .ok (.aload_n 0, 1) := by decide +kernel
theorem dX11_failsNow_138 : decode cX11_failsNow 138 = .ok (.iload_n 1, 1) := by decide +kernel
theorem dX11_failsNow_139 : decode cX11_failsNow 139 = .ok (.iconst 3, 1) := by decide +kernel
theorem dX11_failsNow_140 : decode cX11_failsNow 140 = .ok (.invokevirtual 94, 3) := by decide +kernel
theorem dX11_failsNow_143 : decode cX11_failsNow 143 = .ok (.dup2, 1) := by decide +kernel
theorem dX11_failsNow_144 : decode cX11_failsNow 144 = .ok (.iaload, 1) := by decide +kernel
theorem dX11_failsNow_145 : decode cX11_failsNow 145 = .ok (.iconst 1, 1) := by decide +kernel
theorem dX11_failsNow_146 : decode cX11_failsNow 146 = .ok (.iadd, 1) := by decide +kernel
theorem dX11_failsNow_147 : decode cX11_failsNow 147 = .ok (.iastore, 1) := by decide +kernel
theorem dX11_failsNow_148 : decode cX11_failsNow 148 = .ok (.aload_n 0, 1) := by decide +kernel
theorem dX11_failsNow_149 : decode cX11_failsNow 149 = .ok (.iload_n 1, 1) := by decide +kernel
theorem dX11_failsNow_150 : decode cX11_failsNow 150 = .ok (.iload_n 2, 1) := by decide +kernel
theorem dX11_failsNow_151 : decode cX11_failsNow 151 = .ok (.invokevirtual 133, 3) := by decide +kernel
theorem dX11_failsNow_154 : decode cX11_failsNow 154 = .ok (.aload_n 0, 1) := by decide +kernel
theorem dX11_failsNow_155 : decode cX11_failsNow 155 = .ok (.iload_n 1, 1) := by decide +kernel
theorem dX11_failsNow_156 : decode cX11_failsNow 156 = .ok (.bipush 100, 2) := by decide +kernel
theorem dX11_failsNow_158 : decode cX11_failsNow 158 = .ok (.invokevirtual 149, 3) := by decide +kernel
theorem dX11_failsNow_161 : decode cX11_failsNow 161 = .ok (.pop, 1) := by decide +kernel
theorem dX11_failsNow_162 : decode cX11_failsNow 162 = .ok (.aload_n 0, 1) := by decide +kernel
theorem dX11_failsNow_163 : decode cX11_failsNow 163 = .ok (.invokevirtual 143, 3) := by decide +kernel
theorem dX11_failsNow_166 : decode cX11_failsNow 166 = .ok (.iconst 5, 1) := by decide +kernel
theorem dX11_failsNow_167 : decode cX11_failsNow 167 = .ok (.ireturn, 1) := by decide +kernel
theorem dX11_whyNot_0 : decode cX11_whyNot 0 = .ok (.aload_n 0, 1) := by decide +kernel
theorem dX11_whyNot_1 : decode cX11_whyNot 1 = .ok (.iload_n 1, 1) := by decide +kernel
theorem dX11_whyNot_2 : decode cX11_whyNot 2 = .ok (.invokevirtual 152, 3) := by decide +kernel
theorem dX11_whyNot_5 : decode cX11_whyNot 5 = .ok (.ifCond .eq 28, 3) := by decide +kernel
theorem dX11_whyNot_8 : decode cX11_whyNot 8 = .ok (.iload_n 2, 1) := by decide +kernel
theorem dX11_whyNot_9 : decode cX11_whyNot 9 = .ok (.invokestatic 155, 3) := by decide +kernel
theorem dX11_whyNot_12 : decode cX11_whyNot 12 = .ok (.ifCond .eq 21, 3) := by decide +kernel
theorem dX11_whyNot_15 : decode cX11_whyNot 15 = .ok (.iload_n 3, 1) := by decide +kernel
theorem dX11_whyNot_16 : decode cX11_whyNot 16 = .ok (.iconst 1, 1) := by decide +kernel
theorem dX11_whyNot_17 : decode cX11_whyNot 17 = .ok (.bipush 20, 2) := by decide +kernel
theorem dX11_whyNot_19 : decode cX11_whyNot 19 = .ok (.invokestatic 90, 3) := by decide +kernel
theorem dX11_whyNot_22 : decode cX11_whyNot 22 = .ok (.ifCond .eq 11, 3) := by decide +kernel
theorem dX11_whyNot_25 : decode cX11_whyNot 25 = .ok (.iload 4, 2) := by decide +kernel
theorem dX11_whyNot_27 : decode cX11_whyNot 27 = .ok (.invokestatic 158, 3) := by decide +kernel
theorem dX11_whyNot_30 : decode cX11_whyNot 30 = .ok (.ifCond .ne 6, 3) := by decide +kernel
theorem dX11_whyNot_33 : decode cX11_whyNot 33 = .ok (.bipush (-2), 2) := by decide +kernel
theorem dX11_whyNot_35 : decode cX11_whyNot 35 = .ok (.ireturn, 1) := by decide +kernel
theorem dX11_whyNot_36 : decode cX11_whyNot 36 = .ok (.iload 5, 2) := by decide +kernel
theorem dX11_whyNot_38 : decode cX11_whyNot 38 = .ok (.iconst (-1), 1) := by decide +kernel
theorem dX11_whyNot_39 : decode cX11_whyNot 39 = .ok (.if_icmp .eq 28, 3) := by decide +kernel
theorem dX11_whyNot_42 : decode cX11_whyNot 42 = .ok (.aload_n 0, 1) := by decide +kernel
theorem dX11_whyNot_43 : decode cX11_whyNot 43 = .ok (.iload 5, 2) := by decide +kernel
theorem dX11_whyNot_45 : decode cX11_whyNot 45 = .ok (.invokevirtual 161, 3) := by decide +kernel
theorem dX11_whyNot_48 : decode cX11_whyNot 48 = .ok (.ifCond .eq 16, 3) := by decide +kernel
theorem dX11_whyNot_51 : decode cX11_whyNot 51 = .ok (.aload_n 0, 1) := by decide +kernel
theorem dX11_whyNot_52 : decode cX11_whyNot 52 = .ok (.iload 5, 2) := by decide +kernel
theorem dX11_whyNot_54 : decode cX11_whyNot 54 = .ok (.bipush 6, 2) := by decide +kernel
theorem dX11_whyNot_56 : decode cX11_whyNot 56 = .ok (.invokevirtual 94, 3) := by decide +kernel
theorem dX11_whyNot_59 : decode cX11_whyNot 59 = .ok (.bipush 6, 2) := by decide +kernel
theorem dX11_whyNot_61 : decode cX11_whyNot 61 = .ok (.if_icmp .ne 6, 3) := by decide +kernel
theorem dX11_whyNot_64 : decode cX11_whyNot 64 = .ok (.bipush (-2), 2) := by decide +kernel
theorem dX11_whyNot_66 : decode cX11_whyNot 66 = .ok (.ireturn, 1) := by decide +kernel
theorem dX11_whyNot_67 : decode cX11_whyNot 67 = .ok (.aload_n 0, 1) := by decide +kernel
theorem dX11_whyNot_68 : decode cX11_whyNot 68 = .ok (.getfield 7, 3) := by decide +kernel
theorem dX11_whyNot_71 : decode cX11_whyNot 71 = .ok (.iload_n 1, 1) := by decide +kernel
theorem dX11_whyNot_72 : decode cX11_whyNot 72 = .ok (.invokestatic 80, 3) := by decide +kernel
theorem dX11_whyNot_75 : decode cX11_whyNot 75 = .ok (.iconst 3, 1) := by decide +kernel
theorem dX11_whyNot_76 : decode cX11_whyNot 76 = .ok (.iadd, 1) := by decide +kernel
theorem dX11_whyNot_77 : decode cX11_whyNot 77 = .ok (.iaload, 1) := by decide +kernel
theorem dX11_whyNot_78 : decode cX11_whyNot 78 = .ok (.ifCond .ne 21, 3) := by decide +kernel
theorem dX11_whyNot_81 : decode cX11_whyNot 81 = .ok (.iload 5, 2) := by decide +kernel
theorem dX11_whyNot_83 : decode cX11_whyNot 83 = .ok (.iconst (-1), 1) := by decide +kernel
theorem dX11_whyNot_84 : decode cX11_whyNot 84 = .ok (.if_icmp .eq 18, 3) := by decide +kernel
theorem dX11_whyNot_87 : decode cX11_whyNot 87 = .ok (.aload_n 0, 1) := by decide +kernel
theorem dX11_whyNot_88 : decode cX11_whyNot 88 = .ok (.iload 5, 2) := by decide +kernel
theorem dX11_whyNot_90 : decode cX11_whyNot 90 = .ok (.bipush 6, 2) := by decide +kernel
theorem dX11_whyNot_92 : decode cX11_whyNot 92 = .ok (.invokevirtual 94, 3) := by decide +kernel
theorem dX11_whyNot_95 : decode cX11_whyNot 95 = .ok (.iconst 5, 1) := by decide +kernel
theorem dX11_whyNot_96 : decode cX11_whyNot 96 = .ok (.if_icmp .ne 6, 3) := by decide +kernel
theorem dX11_whyNot_99 : decode cX11_whyNot 99 = .ok (.bipush (-3), 2) := by decide +kernel
theorem dX11_whyNot_101 : decode cX11_whyNot 101 = .ok (.ireturn, 1) := by decide +kernel
theorem dX11_whyNot_102 : decode cX11_whyNot 102 = .ok (.aload_n 0, 1) := by decide +kernel
theorem dX11_whyNot_103 : decode cX11_whyNot 103 = .ok (.iload_n 1, 1) := by decide +kernel
theorem dX11_whyNot_104 : decode cX11_whyNot 104 = .ok (.invokevirtual 164, 3) := by decide +kernel
theorem dX11_whyNot_107 : decode cX11_whyNot 107 = .ok (.ifCond .eq 18, 3) := by decide +kernel
theorem dX11_whyNot_110 : decode cX11_whyNot 110 = .ok (.aload_n 0, 1) := by decide +kernel
theorem dX11_whyNot_111 : decode cX11_whyNot 111 = .ok (.iconst (-1), 1) := by decide +kernel
theorem dX11_whyNot_112 : decode cX11_whyNot 112 = .ok (.invokevirtual 115, 3) := by decide +kernel
theorem dX11_whyNot_115 : decode cX11_whyNot 115 = .ok (.aload_n 0, 1) := by decide +kernel
theorem dX11_whyNot_116 : decode cX11_whyNot 116 = .ok (.getfield 7, 3) := by decide +kernel
theorem dX11_whyNot_119 : decode cX11_whyNot 119 = .ok (.bipush 8, 2) := by decide +kernel
theorem dX11_whyNot_121 : decode cX11_whyNot 121 = .ok (.iaload, 1) := by decide +kernel
theorem dX11_whyNot_122 : decode cX11_whyNot 122 = .ok (.if_icmp .lt 6, 3) := by decide +kernel
theorem dX11_whyNot_125 : decode cX11_whyNot 125 = .ok (.bipush (-4), 2) := by decide +kernel
theorem dX11_whyNot_127 : decode cX11_whyNot 127 = .ok (.ireturn, 1) := by decide +kernel
theorem dX11_whyNot_128 : decode cX11_whyNot 128 = .ok (.aload_n 0, 1) := by decide +kernel
theorem dX11_whyNot_129 : decode cX11_whyNot 129 = .ok (.iload 4, 2) := by decide +kernel
theorem dX11_whyNot_131 : decode cX11_whyNot 131 = .ok (.invokevirtual 167, 3) := by decide +kernel
theorem dX11_whyNot_134 : decode cX11_whyNot 134 = .ok (.iconst (-1), 1) := by decide +kernel
theorem dX11_whyNot_135 : decode cX11_whyNot 135 = .ok (.if_icmp .eq 6, 3) := by decide +kernel
theorem dX11_whyNot_138 : decode cX11_whyNot 138 = .ok (.bipush (-5), 2) := by decide +kernel
theorem dX11_whyNot_140 : decode cX11_whyNot 140 = .ok (.ireturn, 1) := by decide +kernel
theorem dX11_whyNot_141 : decode cX11_whyNot 141 = .ok (.aload_n 0, 1) := by decide +kernel
theorem dX11_whyNot_142 : decode cX11_whyNot 142 = .ok (.getfield 7, 3) := by decide +kernel
theorem dX11_whyNot_145 : decode cX11_whyNot 145 = .ok (.iconst 1, 1) := by decide +kernel
theorem dX11_whyNot_146 : decode cX11_whyNot 146 = .ok (.iaload, 1) := by decide +kernel
theorem dX11_whyNot_147 : decode cX11_whyNot 147 = .ok (.sipush 400, 3) := by decide +kernel
theorem dX11_whyNot_150 : decode cX11_whyNot 150 = .ok (.if_icmp .ne 6, 3) := by decide +kernel
theorem dX11_whyNot_153 : decode cX11_whyNot 153 = .ok (.bipush (-6), 2) := by decide +kernel
theorem dX11_whyNot_155 : decode cX11_whyNot 155 = .ok (.ireturn, 1) := by decide +kernel
theorem dX11_whyNot_156 : decode cX11_whyNot 156 = .ok (.aload_n 0, 1) := by decide +kernel
theorem dX11_whyNot_157 : decode cX11_whyNot 157 = .ok (.iload 4, 2) := by decide +kernel
theorem dX11_whyNot_159 : decode cX11_whyNot 159 = .ok (.invokevirtual 170, 3) := by decide +kernel
theorem dX11_whyNot_162 : decode cX11_whyNot 162 = .ok (.ifCond .eq 8, 3) := by decide +kernel
theorem dX11_whyNot_165 : decode cX11_whyNot 165 = .ok (.bipush (-7), 2) := by decide +kernel
theorem dX11_whyNot_167 : decode cX11_whyNot 167 = .ok (.goto 4, 3) := by decide +kernel
theorem dX11_whyNot_170 : decode cX11_whyNot 170 = .ok (.iconst 0, 1) := by decide +kernel
theorem dX11_whyNot_171 : decode cX11_whyNot 171 = .ok (.ireturn, 1) := by decide +kernel
theorem dX11_comesNow_0 : decode cX11_comesNow 0 = .ok (.aload_n 0, 1) := by decide +kernel
theorem dX11_comesNow_1 : decode cX11_comesNow 1 = .ok (.iload_n 1, 1) := by decide +kernel
theorem dX11_comesNow_2 : decode cX11_comesNow 2 = .ok (.iload_n 2, 1) := by decide +kernel
theorem dX11_comesNow_3 : decode cX11_comesNow 3 = .ok (.iload_n 3, 1) := by decide +kernel
theorem dX11_comesNow_4 : decode cX11_comesNow 4 = .ok (.iload 4, 2) := by decide +kernel
theorem dX11_comesNow_6 : decode cX11_comesNow 6 = .ok (.iload 5, 2) := by decide +kernel
theorem dX11_comesNow_8 : decode cX11_comesNow 8 = .ok (.invokevirtual 173, 3) := by decide +kernel
theorem dX11_comesNow_11 : decode cX11_comesNow 11 = .ok (.istore 6, 2) := by decide +kernel
theorem dX11_comesNow_13 : decode cX11_comesNow 13 = .ok (.iload 6, 2) := by decide +kernel
theorem dX11_comesNow_15 : decode cX11_comesNow 15 = .ok (.ifCond .eq 6, 3) := by decide +kernel
theorem dX11_comesNow_18 : decode cX11_comesNow 18 = .ok (.iload 6, 2) := by decide +kernel
theorem dX11_comesNow_20 : decode cX11_comesNow 20 = .ok (.ireturn, 1) := by decide +kernel
theorem dX11_comesNow_21 : decode cX11_comesNow 21 = .ok (.aload_n 0, 1) := by decide +kernel
theorem dX11_comesNow_22 : decode cX11_comesNow 22 = .ok (.getfield 7, 3) := by decide +kernel
theorem dX11_comesNow_25 : decode cX11_comesNow 25 = .ok (.iconst 1, 1) := by decide +kernel
theorem dX11_comesNow_26 : decode cX11_comesNow 26 = .ok (.iaload, 1) := by decide +kernel
theorem dX11_comesNow_27 : decode cX11_comesNow 27 = .ok (.istore 7, 2) := by decide +kernel
theorem dX11_comesNow_29 : decode cX11_comesNow 29 = .ok (.aload_n 0, 1) := by decide +kernel
theorem dX11_comesNow_30 : decode cX11_comesNow 30 = .ok (.iload 7, 2) := by decide +kernel
theorem dX11_comesNow_32 : decode cX11_comesNow 32 = .ok (.iconst 0, 1) := by decide +kernel
theorem dX11_comesNow_33 : decode cX11_comesNow 33 = .ok (.iload_n 1, 1) := by decide +kernel
theorem dX11_comesNow_34 : decode cX11_comesNow 34 = .ok (.invokevirtual 121, 3) := by decide +kernel
theorem dX11_comesNow_37 : decode cX11_comesNow 37 = .ok (.aload_n 0, 1) := by decide +kernel
theorem dX11_comesNow_38 : decode cX11_comesNow 38 = .ok (.iload 7, 2) := by decide +kernel
theorem dX11_comesNow_40 : decode cX11_comesNow 40 = .ok (.iconst 1, 1) := by decide +kernel
theorem dX11_comesNow_41 : decode cX11_comesNow 41 = .ok (.iload_n 2, 1) := by decide +kernel
theorem dX11_comesNow_42 : decode cX11_comesNow 42 = .ok (.invokevirtual 121, 3) := by decide +kernel
theorem dX11_comesNow_45 : decode cX11_comesNow 45 = .ok (.aload_n 0, 1) := by decide +kernel
theorem dX11_comesNow_46 : decode cX11_comesNow 46 = .ok (.iload 7, 2) := by decide +kernel
theorem dX11_comesNow_48 : decode cX11_comesNow 48 = .ok (.iconst 2, 1) := by decide +kernel
theorem dX11_comesNow_49 : decode cX11_comesNow 49 = .ok (.iload_n 3, 1) := by decide +kernel
theorem dX11_comesNow_50 : decode cX11_comesNow 50 = .ok (.invokevirtual 121, 3) := by decide +kernel
theorem dX11_comesNow_53 : decode cX11_comesNow 53 = .ok (.aload_n 0, 1) := by decide +kernel
theorem dX11_comesNow_54 : decode cX11_comesNow 54 = .ok (.iload 7, 2) := by decide +kernel
theorem dX11_comesNow_56 : decode cX11_comesNow 56 = .ok (.iconst 3, 1) := by decide +kernel
theorem dX11_comesNow_57 : decode cX11_comesNow 57 = .ok (.iload 4, 2) := by decide +kernel
theorem dX11_comesNow_59 : decode cX11_comesNow 59 = .ok (.invokevirtual 121, 3) := by decide +kernel
theorem dX11_comesNow_62 : decode cX11_comesNow 62 = .ok (.aload_n 0, 1) := by decide +kernel
theorem dX11_comesNow_63 : decode cX11_comesNow 63 = .ok (.iload 7, 2) := by decide +kernel
theorem dX11_comesNow_65 : decode cX11_comesNow 65 = .ok (.iconst 4, 1) := by decide +kernel
theorem dX11_comesNow_66 : decode cX11_comesNow 66 = .ok (.iload 5, 2) := by decide +kernel
theorem dX11_comesNow_68 : decode cX11_comesNow 68 = .ok (.invokevirtual 121, 3) := by decide +kernel
theorem dX11_comesNow_71 : decode cX11_comesNow 71 = .ok (.aload_n 0, 1) := by decide +kernel
theorem dX11_comesNow_72 : decode cX11_comesNow 72 = .ok (.iload 7, 2) := by decide +kernel
theorem dX11_comesNow_74 : decode cX11_comesNow 74 = .ok (.iconst 5, 1) := by decide +kernel
theorem dX11_comesNow_75 : decode cX11_comesNow 75 = .ok (.aload_n 0, 1) := by decide +kernel
theorem dX11_comesNow_76 : decode cX11_comesNow 76 = .ok (.getfield 7, 3) := by decide +kernel
theorem dX11_comesNow_79 : decode cX11_comesNow 79 = .ok (.iconst 0, 1) := by decide +kernel
theorem dX11_comesNow_80 : decode cX11_comesNow 80 = .ok (.iaload, 1) := by decide +kernel
theorem dX11_comesNow_81 : decode cX11_comesNow 81 = .ok (.invokevirtual 121, 3) := by decide +kernel
theorem dX11_comesNow_84 : decode cX11_comesNow 84 = .ok (.aload_n 0, 1) := by decide +kernel
theorem dX11_comesNow_85 : decode cX11_comesNow 85 = .ok (.iload 7, 2) := by decide +kernel
theorem dX11_comesNow_87 : decode cX11_comesNow 87 = .ok (.bipush 7, 2) := by decide +kernel
theorem dX11_comesNow_89 : decode cX11_comesNow 89 = .ok (.iconst 0, 1) := by decide +kernel
theorem dX11_comesNow_90 : decode cX11_comesNow 90 = .ok (.invokevirtual 121, 3) := by decide +kernel
theorem dX11_comesNow_93 : decode cX11_comesNow 93 = .ok (.aload_n 0, 1) := by decide +kernel
theorem dX11_comesNow_94 : decode cX11_comesNow 94 = .ok (.iload 7, 2) := by decide +kernel
theorem dX11_comesNow_96 : decode cX11_comesNow 96 = .ok (.bipush 6, 2) := by decide +kernel
theorem dX11_comesNow_98 : decode cX11_comesNow 98 = .ok (.iconst 1, 1) := by decide +kernel
theorem dX11_comesNow_99 : decode cX11_comesNow 99 = .ok (.invokevirtual 121, 3) := by decide +kernel
theorem dX11_comesNow_102 : decode cX11_comesNow 102 = .ok (.bipush 8, 2) := by decide +kernel
theorem dX11_comesNow_104 : decode cX11_comesNow 104 = .ok (.istore 8, 2) := by decide +kernel
theorem dX11_comesNow_106 : decode cX11_comesNow 106 = .ok (.iload 8, 2) := by decide +kernel
theorem dX11_comesNow_108 : decode cX11_comesNow 108 = .ok (.bipush 13, 2) := by decide +kernel
theorem dX11_comesNow_110 : decode cX11_comesNow 110 = .ok (.if_icmp .gt 18, 3) := by decide +kernel
theorem dX11_comesNow_113 : decode cX11_comesNow 113 = .ok (.aload_n 0, 1) := by decide +kernel
theorem dX11_comesNow_114 : decode cX11_comesNow 114 = .ok (.iload 7, 2) := by decide +kernel
theorem dX11_comesNow_116 : decode cX11_comesNow 116 = .ok (.iload 8, 2) := by decide +kernel
theorem dX11_comesNow_118 : decode cX11_comesNow 118 = .ok (.iconst (-1), 1) := by decide +kernel
theorem dX11_comesNow_119 : decode cX11_comesNow 119 = .ok (.invokevirtual 121, 3) := by decide +kernel
theorem dX11_comesNow_122 : decode cX11_comesNow 122 = .ok (.iinc 8 1, 3) := by decide +kernel
theorem dX11_comesNow_125 : decode cX11_comesNow 125 = .ok (.goto (-19), 3) := by decide +kernel
theorem dX11_comesNow_128 : decode cX11_comesNow 128 = .ok (.aload_n 0, 1) := by decide +kernel
theorem dX11_comesNow_129 : decode cX11_comesNow 129 = .ok (.getfield 7, 3) := by decide +kernel
theorem dX11_comesNow_132 : decode cX11_comesNow 132 = .ok (.iconst 1, 1) := by decide +kernel
theorem dX11_comesNow_133 : decode cX11_comesNow 133 = .ok (.dup2, 1) := by decide +kernel
theorem dX11_comesNow_134 : decode cX11_comesNow 134 = .ok (.iaload, 1) := by decide +kernel
theorem dX11_comesNow_135 : decode cX11_comesNow 135 = .ok (.iconst 1, 1) := by decide +kernel
theorem dX11_comesNow_136 : decode cX11_comesNow 136 = .ok (.iadd, 1) := by decide +kernel
theorem dX11_comesNow_137 : decode cX11_comesNow 137 = .ok (.iastore, 1) := by decide +kernel
theorem dX11_comesNow_138 : decode cX11_comesNow 138 = .ok (.aload_n 0, 1) := by decide +kernel
theorem dX11_comesNow_139 : decode cX11_comesNow 139 = .ok (.iload 7, 2) := by decide +kernel
theorem dX11_comesNow_141 : decode cX11_comesNow 141 = .ok (.invokevirtual 177, 3) := by decide +kernel
theorem dX11_comesNow_144 : decode cX11_comesNow 144 = .ok (.ifCond .ne 9, 3) := by decide +kernel
theorem dX11_comesNow_147 : decode cX11_comesNow 147 = .ok (.aload_n 0, 1) := by decide +kernel
theorem dX11_comesNow_148 : decode cX11_comesNow 148 = .ok (.iload 7, 2) := by decide +kernel
theorem dX11_comesNow_150 : decode cX11_comesNow 150 = .ok (.invokevirtual 146, 3) := by decide +kernel
theorem dX11_comesNow_153 : decode cX11_comesNow 153 = .ok (.aload_n 0, 1) := by decide +kernel
theorem dX11_comesNow_154 : decode cX11_comesNow 154 = .ok (.iconst 0, 1) := by decide +kernel
theorem dX11_comesNow_155 : decode cX11_comesNow 155 = .ok (.iload 7, 2) := by decide +kernel
theorem dX11_comesNow_157 : decode cX11_comesNow 157 = .ok (.iconst (-1), 1) := by decide +kernel
theorem dX11_comesNow_158 : decode cX11_comesNow 158 = .ok (.iconst 0, 1) := by decide +kernel
theorem dX11_comesNow_159 : decode cX11_comesNow 159 = .ok (.invokevirtual 125, 3) := by decide +kernel
theorem dX11_comesNow_162 : decode cX11_comesNow 162 = .ok (.iload 7, 2) := by decide +kernel
theorem dX11_comesNow_164 : decode cX11_comesNow 164 = .ok (.ireturn, 1) := by decide +kernel
theorem dX11_takesNow_0 : decode cX11_takesNow 0 = .ok (.aload_n 0, 1) := by decide +kernel
theorem dX11_takesNow_1 : decode cX11_takesNow 1 = .ok (.iload_n 1, 1) := by decide +kernel
theorem dX11_takesNow_2 : decode cX11_takesNow 2 = .ok (.iconst 0, 1) := by decide +kernel
theorem dX11_takesNow_3 : decode cX11_takesNow 3 = .ok (.invokevirtual 94, 3) := by decide +kernel
theorem dX11_takesNow_6 : decode cX11_takesNow 6 = .ok (.invokestatic 80, 3) := by decide +kernel
theorem dX11_takesNow_9 : decode cX11_takesNow 9 = .ok (.istore_n 3, 1) := by decide +kernel
theorem dX11_takesNow_10 : decode cX11_takesNow 10 = .ok (.aload_n 0, 1) := by decide +kernel
theorem dX11_takesNow_11 : decode cX11_takesNow 11 = .ok (.getfield 7, 3) := by decide +kernel
theorem dX11_takesNow_14 : decode cX11_takesNow 14 = .ok (.iconst 2, 1) := by decide +kernel
theorem dX11_takesNow_15 : decode cX11_takesNow 15 = .ok (.dup2, 1) := by decide +kernel
theorem dX11_takesNow_16 : decode cX11_takesNow 16 = .ok (.iaload, 1) := by decide +kernel
theorem dX11_takesNow_17 : decode cX11_takesNow 17 = .ok (.iconst 1, 1) := by decide +kernel
theorem dX11_takesNow_18 : decode cX11_takesNow 18 = .ok (.iadd, 1) := by decide +kernel
theorem dX11_takesNow_19 : decode cX11_takesNow 19 = .ok (.iastore, 1) := by decide +kernel
theorem dX11_takesNow_20 : decode cX11_takesNow 20 = .ok (.aload_n 0, 1) := by decide +kernel
theorem dX11_takesNow_21 : decode cX11_takesNow 21 = .ok (.iload_n 1, 1) := by decide +kernel
theorem dX11_takesNow_22 : decode cX11_takesNow 22 = .ok (.bipush 6, 2) := by decide +kernel
theorem dX11_takesNow_24 : decode cX11_takesNow 24 = .ok (.iconst 3, 1) := by decide +kernel
theorem dX11_takesNow_25 : decode cX11_takesNow 25 = .ok (.invokevirtual 121, 3) := by decide +kernel
theorem dX11_takesNow_28 : decode cX11_takesNow 28 = .ok (.aload_n 0, 1) := by decide +kernel
theorem dX11_takesNow_29 : decode cX11_takesNow 29 = .ok (.iload_n 1, 1) := by decide +kernel
theorem dX11_takesNow_30 : decode cX11_takesNow 30 = .ok (.bipush 9, 2) := by decide +kernel
theorem dX11_takesNow_32 : decode cX11_takesNow 32 = .ok (.iload_n 2, 1) := by decide +kernel
theorem dX11_takesNow_33 : decode cX11_takesNow 33 = .ok (.invokevirtual 121, 3) := by decide +kernel
theorem dX11_takesNow_36 : decode cX11_takesNow 36 = .ok (.aload_n 0, 1) := by decide +kernel
theorem dX11_takesNow_37 : decode cX11_takesNow 37 = .ok (.iload_n 1, 1) := by decide +kernel
theorem dX11_takesNow_38 : decode cX11_takesNow 38 = .ok (.bipush 10, 2) := by decide +kernel
theorem dX11_takesNow_40 : decode cX11_takesNow 40 = .ok (.aload_n 0, 1) := by decide +kernel
theorem dX11_takesNow_41 : decode cX11_takesNow 41 = .ok (.getfield 7, 3) := by decide +kernel
theorem dX11_takesNow_44 : decode cX11_takesNow 44 = .ok (.iconst 2, 1) := by decide +kernel
theorem dX11_takesNow_45 : decode cX11_takesNow 45 = .ok (.iaload, 1) := by decide +kernel
theorem dX11_takesNow_46 : decode cX11_takesNow 46 = .ok (.invokevirtual 121, 3) := by decide +kernel
theorem dX11_takesNow_49 : decode cX11_takesNow 49 = .ok (.aload_n 0, 1) := by decide +kernel
theorem dX11_takesNow_50 : decode cX11_takesNow 50 = .ok (.iload_n 1, 1) := by decide +kernel
theorem dX11_takesNow_51 : decode cX11_takesNow 51 = .ok (.bipush 11, 2) := by decide +kernel
theorem dX11_takesNow_53 : decode cX11_takesNow 53 = .ok (.aload_n 0, 1) := by decide +kernel
theorem dX11_takesNow_54 : decode cX11_takesNow 54 = .ok (.getfield 7, 3) := by decide +kernel
theorem dX11_takesNow_57 : decode cX11_takesNow 57 = .ok (.iconst 0, 1) := by decide +kernel
theorem dX11_takesNow_58 : decode cX11_takesNow 58 = .ok (.iaload, 1) := by decide +kernel
theorem dX11_takesNow_59 : decode cX11_takesNow 59 = .ok (.aload_n 0, 1) := by decide +kernel
theorem dX11_takesNow_60 : decode cX11_takesNow 60 = .ok (.getfield 7, 3) := by decide +kernel
theorem dX11_takesNow_63 : decode cX11_takesNow 63 = .ok (.iconst 5, 1) := by decide +kernel
theorem dX11_takesNow_64 : decode cX11_takesNow 64 = .ok (.iaload, 1) := by decide +kernel
theorem dX11_takesNow_65 : decode cX11_takesNow 65 = .ok (.iadd, 1) := by decide +kernel
theorem dX11_takesNow_66 : decode cX11_takesNow 66 = .ok (.invokevirtual 121, 3) := by decide +kernel
theorem dX11_takesNow_69 : decode cX11_takesNow 69 = .ok (.aload_n 0, 1) := by decide +kernel
theorem dX11_takesNow_70 : decode cX11_takesNow 70 = .ok (.getfield 7, 3) := by decide +kernel
theorem dX11_takesNow_73 : decode cX11_takesNow 73 = .ok (.iload_n 2, 1) := by decide +kernel
theorem dX11_takesNow_74 : decode cX11_takesNow 74 = .ok (.invokestatic 84, 3) := by decide +kernel
theorem dX11_takesNow_77 : decode cX11_takesNow 77 = .ok (.iconst 0, 1) := by decide +kernel
theorem dX11_takesNow_78 : decode cX11_takesNow 78 = .ok (.iadd, 1) := by decide +kernel
theorem dX11_takesNow_79 : decode cX11_takesNow 79 = .ok (.iload_n 1, 1) := by decide +kernel
theorem dX11_takesNow_80 : decode cX11_takesNow 80 = .ok (.iastore, 1) := by decide +kernel
theorem dX11_takesNow_81 : decode cX11_takesNow 81 = .ok (.aload_n 0, 1) := by decide +kernel
theorem dX11_takesNow_82 : decode cX11_takesNow 82 = .ok (.getfield 7, 3) := by decide +kernel
theorem dX11_takesNow_85 : decode cX11_takesNow 85 = .ok (.iload_n 2, 1) := by decide +kernel
theorem dX11_takesNow_86 : decode cX11_takesNow 86 = .ok (.invokestatic 84, 3) := by decide +kernel
theorem dX11_takesNow_89 : decode cX11_takesNow 89 = .ok (.iconst 1, 1) := by decide +kernel
theorem dX11_takesNow_90 : decode cX11_takesNow 90 = .ok (.iadd, 1) := by decide +kernel
theorem dX11_takesNow_91 : decode cX11_takesNow 91 = .ok (.dup2, 1) := by decide +kernel
theorem dX11_takesNow_92 : decode cX11_takesNow 92 = .ok (.iaload, 1) := by decide +kernel
theorem dX11_takesNow_93 : decode cX11_takesNow 93 = .ok (.iconst 1, 1) := by decide +kernel
theorem dX11_takesNow_94 : decode cX11_takesNow 94 = .ok (.iadd, 1) := by decide +kernel
theorem dX11_takesNow_95 : decode cX11_takesNow 95 = .ok (.iastore, 1) := by decide +kernel
theorem dX11_takesNow_96 : decode cX11_takesNow 96 = .ok (.aload_n 0, 1) := by decide +kernel
theorem dX11_takesNow_97 : decode cX11_takesNow 97 = .ok (.iload_n 1, 1) := by decide +kernel
theorem dX11_takesNow_98 : decode cX11_takesNow 98 = .ok (.invokevirtual 180, 3) := by decide +kernel
theorem dX11_takesNow_101 : decode cX11_takesNow 101 = .ok (.aload_n 0, 1) := by decide +kernel
theorem dX11_takesNow_102 : decode cX11_takesNow 102 = .ok (.getfield 7, 3) := by decide +kernel
theorem dX11_takesNow_105 : decode cX11_takesNow 105 = .ok (.iload_n 3, 1) := by decide +kernel
theorem dX11_takesNow_106 : decode cX11_takesNow 106 = .ok (.iconst 5, 1) := by decide +kernel
theorem dX11_takesNow_107 : decode cX11_takesNow 107 = .ok (.iadd, 1) := by decide +kernel
theorem dX11_takesNow_108 : decode cX11_takesNow 108 = .ok (.dup2, 1) := by decide +kernel
theorem dX11_takesNow_109 : decode cX11_takesNow 109 = .ok (.iaload, 1) := by decide +kernel
theorem dX11_takesNow_110 : decode cX11_takesNow 110 = .ok (.aload_n 0, 1) := by decide +kernel
theorem dX11_takesNow_111 : decode cX11_takesNow 111 = .ok (.iload_n 1, 1) := by decide +kernel
theorem dX11_takesNow_112 : decode cX11_takesNow 112 = .ok (.iconst 2, 1) := by decide +kernel
theorem dX11_takesNow_113 : decode cX11_takesNow 113 = .ok (.invokevirtual 94, 3) := by decide +kernel
theorem dX11_takesNow_116 : decode cX11_takesNow 116 = .ok (.iadd, 1) := by decide +kernel
theorem dX11_takesNow_117 : decode cX11_takesNow 117 = .ok (.iastore, 1) := by decide +kernel
theorem dX11_takesNow_118 : decode cX11_takesNow 118 = .ok (.aload_n 0, 1) := by decide +kernel
theorem dX11_takesNow_119 : decode cX11_takesNow 119 = .ok (.getfield 7, 3) := by decide +kernel
theorem dX11_takesNow_122 : decode cX11_takesNow 122 = .ok (.iload_n 3, 1) := by decide +kernel
theorem dX11_takesNow_123 : decode cX11_takesNow 123 = .ok (.bipush 6, 2) := by decide +kernel
theorem dX11_takesNow_125 : decode cX11_takesNow 125 = .ok (.iadd, 1) := by decide +kernel
theorem dX11_takesNow_126 : decode cX11_takesNow 126 = .ok (.dup2, 1) := by decide +kernel
theorem dX11_takesNow_127 : decode cX11_takesNow 127 = .ok (.iaload, 1) := by decide +kernel
theorem dX11_takesNow_128 : decode cX11_takesNow 128 = .ok (.iconst 1, 1) := by decide +kernel
theorem dX11_takesNow_129 : decode cX11_takesNow 129 = .ok (.iadd, 1) := by decide +kernel
theorem dX11_takesNow_130 : decode cX11_takesNow 130 = .ok (.iastore, 1) := by decide +kernel
theorem dX11_takesNow_131 : decode cX11_takesNow 131 = .ok (.aload_n 0, 1) := by decide +kernel
theorem dX11_takesNow_132 : decode cX11_takesNow 132 = .ok (.getfield 7, 3) := by decide +kernel
theorem dX11_takesNow_135 : decode cX11_takesNow 135 = .ok (.iconst 0, 1) := by decide +kernel
theorem dX11_takesNow_136 : decode cX11_takesNow 136 = .ok (.iaload, 1) := by decide +kernel
theorem dX11_takesNow_137 : decode cX11_takesNow 137 = .ok (.aload_n 0, 1) := by decide +kernel
theorem dX11_takesNow_138 : decode cX11_takesNow 138 = .ok (.iload_n 1, 1) := by decide +kernel
theorem dX11_takesNow_139 : decode cX11_takesNow 139 = .ok (.iconst 5, 1) := by decide +kernel
theorem dX11_takesNow_140 : decode cX11_takesNow 140 = .ok (.invokevirtual 94, 3) := by decide +kernel
theorem dX11_takesNow_143 : decode cX11_takesNow 143 = .ok (.isub, 1) := by decide +kernel
theorem dX11_takesNow_144 : decode cX11_takesNow 144 = .ok (.istore 4, 2) := by decide +kernel
theorem dX11_takesNow_146 : decode cX11_takesNow 146 = .ok (.aload_n 0, 1) := by decide +kernel
theorem dX11_takesNow_147 : decode cX11_takesNow 147 = .ok (.getfield 7, 3) := by decide +kernel
theorem dX11_takesNow_150 : decode cX11_takesNow 150 = .ok (.iload_n 3, 1) := by decide +kernel
theorem dX11_takesNow_151 : decode cX11_takesNow 151 = .ok (.bipush 7, 2) := by decide +kernel
theorem dX11_takesNow_153 : decode cX11_takesNow 153 = .ok (.iadd, 1) := by decide +kernel
theorem dX11_takesNow_154 : decode cX11_takesNow 154 = .ok (.dup2, 1) := by decide +kernel
theorem dX11_takesNow_155 : decode cX11_takesNow 155 = .ok (.iaload, 1) := by decide +kernel
theorem dX11_takesNow_156 : decode cX11_takesNow 156 = .ok (.iload 4, 2) := by decide +kernel
theorem dX11_takesNow_158 : decode cX11_takesNow 158 = .ok (.iadd, 1) := by decide +kernel
theorem dX11_takesNow_159 : decode cX11_takesNow 159 = .ok (.iastore, 1) := by decide +kernel
theorem dX11_takesNow_160 : decode cX11_takesNow 160 = .ok (.iload 4, 2) := by decide +kernel
theorem dX11_takesNow_162 : decode cX11_takesNow 162 = .ok (.aload_n 0, 1) := by decide +kernel
theorem dX11_takesNow_163 : decode cX11_takesNow 163 = .ok (.getfield 7, 3) := by decide +kernel
theorem dX11_takesNow_166 : decode cX11_takesNow 166 = .ok (.iload_n 3, 1) := by decide +kernel
theorem dX11_takesNow_167 : decode cX11_takesNow 167 = .ok (.bipush 8, 2) := by decide +kernel
theorem dX11_takesNow_169 : decode cX11_takesNow 169 = .ok (.iadd, 1) := by decide +kernel
theorem dX11_takesNow_170 : decode cX11_takesNow 170 = .ok (.iaload, 1) := by decide +kernel
theorem dX11_takesNow_171 : decode cX11_takesNow 171 = .ok (.if_icmp .le 24, 3) := by decide +kernel
theorem dX11_takesNow_174 : decode cX11_takesNow 174 = .ok (.aload_n 0, 1) := by decide +kernel
theorem dX11_takesNow_175 : decode cX11_takesNow 175 = .ok (.getfield 7, 3) := by decide +kernel
theorem dX11_takesNow_178 : decode cX11_takesNow 178 = .ok (.iload_n 3, 1) := by decide +kernel
theorem dX11_takesNow_179 : decode cX11_takesNow 179 = .ok (.bipush 8, 2) := by decide +kernel
theorem dX11_takesNow_181 : decode cX11_takesNow 181 = .ok (.iadd, 1) := by decide +kernel
theorem dX11_takesNow_182 : decode cX11_takesNow 182 = .ok (.iload 4, 2) := by decide +kernel
theorem dX11_takesNow_184 : decode cX11_takesNow 184 = .ok (.iastore, 1) := by decide +kernel
theorem dX11_takesNow_185 : decode cX11_takesNow 185 = .ok (.aload_n 0, 1) := by decide +kernel
theorem dX11_takesNow_186 : decode cX11_takesNow 186 = .ok (.getfield 7, 3) := by decide +kernel
theorem dX11_takesNow_189 : decode cX11_takesNow 189 = .ok (.iload_n 3, 1) := by decide +kernel
theorem dX11_takesNow_190 : decode cX11_takesNow 190 = .ok (.bipush 9, 2) := by decide +kernel
theorem dX11_takesNow_192 : decode cX11_takesNow 192 = .ok (.iadd, 1) := by decide +kernel
theorem dX11_takesNow_193 : decode cX11_takesNow 193 = .ok (.iload_n 1, 1) := by decide +kernel
theorem dX11_takesNow_194 : decode cX11_takesNow 194 = .ok (.iastore, 1) := by decide +kernel
theorem dX11_takesNow_195 : decode cX11_takesNow 195 = .ok (.aload_n 0, 1) := by decide +kernel
theorem dX11_takesNow_196 : decode cX11_takesNow 196 = .ok (.iconst 1, 1) := by decide +kernel
theorem dX11_takesNow_197 : decode cX11_takesNow 197 = .ok (.iload_n 1, 1) := by decide +kernel
theorem dX11_takesNow_198 : decode cX11_takesNow 198 = .ok (.iload_n 2, 1) := by decide +kernel
theorem dX11_takesNow_199 : decode cX11_takesNow 199 = .ok (.iconst 0, 1) := by decide +kernel
theorem dX11_takesNow_200 : decode cX11_takesNow 200 = .ok (.invokevirtual 125, 3) := by decide +kernel
theorem dX11_takesNow_203 : decode cX11_takesNow 203 = .ok (.return_, 1) := by decide +kernel
theorem dX11_passes_0 : decode cX11_passes 0 = .ok (.aload_n 0, 1) := by decide +kernel
theorem dX11_passes_1 : decode cX11_passes 1 = .ok (.iload_n 1, 1) := by decide +kernel
theorem dX11_passes_2 : decode cX11_passes 2 = .ok (.iconst 0, 1) := by decide +kernel
theorem dX11_passes_3 : decode cX11_passes 3 = .ok (.invokevirtual 94, 3) := by decide +kernel
theorem dX11_passes_6 : decode cX11_passes 6 = .ok (.invokestatic 80, 3) := by decide +kernel
theorem dX11_passes_9 : decode cX11_passes 9 = .ok (.istore_n 2, 1) := by decide +kernel
theorem dX11_passes_10 : decode cX11_passes 10 = .ok (.aload_n 0, 1) := by decide +kernel
theorem dX11_passes_11 : decode cX11_passes 11 = .ok (.getfield 7, 3) := by decide +kernel
theorem dX11_passes_14 : decode cX11_passes 14 = .ok (.iload_n 2, 1) := by decide +kernel
theorem dX11_passes_15 : decode cX11_passes 15 = .ok (.iconst 4, 1) := by decide +kernel
theorem dX11_passes_16 : decode cX11_passes 16 = .ok (.iadd, 1) := by decide +kernel
theorem dX11_passes_17 : decode cX11_passes 17 = .ok (.dup2, 1) := by decide +kernel
theorem dX11_passes_18 : decode cX11_passes 18 = .ok (.iaload, 1) := by decide +kernel
theorem dX11_passes_19 : decode cX11_passes 19 = .ok (.sipush 2520, 3) := by decide +kernel
theorem dX11_passes_22 : decode cX11_passes 22 = .ok (.aload_n 0, 1) := by decide +kernel
theorem dX11_passes_23 : decode cX11_passes 23 = .ok (.getfield 7, 3) := by decide +kernel
theorem dX11_passes_26 : decode cX11_passes 26 = .ok (.iload_n 2, 1) := by decide +kernel
theorem dX11_passes_27 : decode cX11_passes 27 = .ok (.iconst 0, 1) := by decide +kernel
theorem dX11_passes_28 : decode cX11_passes 28 = .ok (.iadd, 1) := by decide +kernel
theorem dX11_passes_29 : decode cX11_passes 29 = .ok (.iaload, 1) := by decide +kernel
theorem dX11_passes_30 : decode cX11_passes 30 = .ok (.idiv, 1) := by decide +kernel
theorem dX11_passes_31 : decode cX11_passes 31 = .ok (.aload_n 0, 1) := by decide +kernel
theorem dX11_passes_32 : decode cX11_passes 32 = .ok (.iload_n 1, 1) := by decide +kernel
theorem dX11_passes_33 : decode cX11_passes 33 = .ok (.iconst 2, 1) := by decide +kernel
theorem dX11_passes_34 : decode cX11_passes 34 = .ok (.invokevirtual 94, 3) := by decide +kernel
theorem dX11_passes_37 : decode cX11_passes 37 = .ok (.imul, 1) := by decide +kernel
theorem dX11_passes_38 : decode cX11_passes 38 = .ok (.iadd, 1) := by decide +kernel
theorem dX11_passes_39 : decode cX11_passes 39 = .ok (.iastore, 1) := by decide +kernel
theorem dX11_passes_40 : decode cX11_passes 40 = .ok (.return_, 1) := by decide +kernel
theorem dX11_restingAt_0 : decode cX11_restingAt 0 = .ok (.iconst 0, 1) := by decide +kernel
theorem dX11_restingAt_1 : decode cX11_restingAt 1 = .ok (.istore_n 2, 1) := by decide +kernel
theorem dX11_restingAt_2 : decode cX11_restingAt 2 = .ok (.iload_n 2, 1) := by decide +kernel
theorem dX11_restingAt_3 : decode cX11_restingAt 3 = .ok (.aload_n 0, 1) := by decide +kernel
theorem dX11_restingAt_4 : decode cX11_restingAt 4 = .ok (.getfield 7, 3) := by decide +kernel
theorem dX11_restingAt_7 : decode cX11_restingAt 7 = .ok (.iconst 1, 1) := by decide +kernel
theorem dX11_restingAt_8 : decode cX11_restingAt 8 = .ok (.iaload, 1) := by decide +kernel
theorem dX11_restingAt_9 : decode cX11_restingAt 9 = .ok (.if_icmp .ge 114, 3) := by decide +kernel
theorem dX11_restingAt_12 : decode cX11_restingAt 12 = .ok (.aload_n 0, 1) := by decide +kernel
theorem dX11_restingAt_13 : decode cX11_restingAt 13 = .ok (.iload_n 2, 1) := by decide +kernel
theorem dX11_restingAt_14 : decode cX11_restingAt 14 = .ok (.bipush 6, 2) := by decide +kernel
theorem dX11_restingAt_16 : decode cX11_restingAt 16 = .ok (.invokevirtual 94, 3) := by decide +kernel
theorem dX11_restingAt_19 : decode cX11_restingAt 19 = .ok (.iconst 2, 1) := by decide +kernel
theorem dX11_restingAt_20 : decode cX11_restingAt 20 = .ok (.if_icmp .eq 6, 3) := by decide +kernel
theorem dX11_restingAt_23 : decode cX11_restingAt 23 = .ok (.goto 94, 3) := by decide +kernel
theorem dX11_restingAt_26 : decode cX11_restingAt 26 = .ok (.iconst 0, 1) := by decide +kernel
theorem dX11_restingAt_27 : decode cX11_restingAt 27 = .ok (.istore_n 3, 1) := by decide +kernel
theorem dX11_restingAt_28 : decode cX11_restingAt 28 = .ok (.iconst 0, 1) := by decide +kernel
theorem dX11_restingAt_29 : decode cX11_restingAt 29 = .ok (.istore 4, 2) := by decide +kernel
theorem dX11_restingAt_31 : decode cX11_restingAt 31 = .ok (.iload 4, 2) := by decide +kernel
theorem dX11_restingAt_33 : decode cX11_restingAt 33 = .ok (.aload_n 0, 1) := by decide +kernel
theorem dX11_restingAt_34 : decode cX11_restingAt 34 = .ok (.getfield 7, 3) := by decide +kernel
theorem dX11_restingAt_37 : decode cX11_restingAt 37 = .ok (.iconst 1, 1) := by decide +kernel
theorem dX11_restingAt_38 : decode cX11_restingAt 38 = .ok (.iaload, 1) := by decide +kernel
theorem dX11_restingAt_39 : decode cX11_restingAt 39 = .ok (.if_icmp .ge 71, 3) := by decide +kernel
theorem dX11_restingAt_42 : decode cX11_restingAt 42 = .ok (.iload_n 3, 1) := by decide +kernel
theorem dX11_restingAt_43 : decode cX11_restingAt 43 = .ok (.aload_n 0, 1) := by decide +kernel
theorem dX11_restingAt_44 : decode cX11_restingAt 44 = .ok (.iload 4, 2) := by decide +kernel
theorem dX11_restingAt_46 : decode cX11_restingAt 46 = .ok (.bipush 6, 2) := by decide +kernel
theorem dX11_restingAt_48 : decode cX11_restingAt 48 = .ok (.invokevirtual 94, 3) := by decide +kernel
theorem dX11_restingAt_51 : decode cX11_restingAt 51 = .ok (.iconst 2, 1) := by decide +kernel
theorem dX11_restingAt_52 : decode cX11_restingAt 52 = .ok (.if_icmp .ne 49, 3) := by decide +kernel
theorem dX11_restingAt_55 : decode cX11_restingAt 55 = .ok (.aload_n 0, 1) := by decide +kernel
theorem dX11_restingAt_56 : decode cX11_restingAt 56 = .ok (.iload 4, 2) := by decide +kernel
theorem dX11_restingAt_58 : decode cX11_restingAt 58 = .ok (.bipush 8, 2) := by decide +kernel
theorem dX11_restingAt_60 : decode cX11_restingAt 60 = .ok (.invokevirtual 94, 3) := by decide +kernel
theorem dX11_restingAt_63 : decode cX11_restingAt 63 = .ok (.aload_n 0, 1) := by decide +kernel
theorem dX11_restingAt_64 : decode cX11_restingAt 64 = .ok (.iload_n 2, 1) := by decide +kernel
theorem dX11_restingAt_65 : decode cX11_restingAt 65 = .ok (.bipush 8, 2) := by decide +kernel
theorem dX11_restingAt_67 : decode cX11_restingAt 67 = .ok (.invokevirtual 94, 3) := by decide +kernel
theorem dX11_restingAt_70 : decode cX11_restingAt 70 = .ok (.if_icmp .lt 27, 3) := by decide +kernel
theorem dX11_restingAt_73 : decode cX11_restingAt 73 = .ok (.aload_n 0, 1) := by decide +kernel
theorem dX11_restingAt_74 : decode cX11_restingAt 74 = .ok (.iload 4, 2) := by decide +kernel
theorem dX11_restingAt_76 : decode cX11_restingAt 76 = .ok (.bipush 8, 2) := by decide +kernel
theorem dX11_restingAt_78 : decode cX11_restingAt 78 = .ok (.invokevirtual 94, 3) := by decide +kernel
theorem dX11_restingAt_81 : decode cX11_restingAt 81 = .ok (.aload_n 0, 1) := by decide +kernel
theorem dX11_restingAt_82 : decode cX11_restingAt 82 = .ok (.iload_n 2, 1) := by decide +kernel
theorem dX11_restingAt_83 : decode cX11_restingAt 83 = .ok (.bipush 8, 2) := by decide +kernel
theorem dX11_restingAt_85 : decode cX11_restingAt 85 = .ok (.invokevirtual 94, 3) := by decide +kernel
theorem dX11_restingAt_88 : decode cX11_restingAt 88 = .ok (.if_icmp .ne 13, 3) := by decide +kernel
theorem dX11_restingAt_91 : decode cX11_restingAt 91 = .ok (.iload 4, 2) := by decide +kernel
theorem dX11_restingAt_93 : decode cX11_restingAt 93 = .ok (.iload_n 2, 1) := by decide +kernel
theorem dX11_restingAt_94 : decode cX11_restingAt 94 = .ok (.if_icmp .ge 7, 3) := by decide +kernel
theorem dX11_restingAt_97 : decode cX11_restingAt 97 = .ok (.iconst 1, 1) := by decide +kernel
theorem dX11_restingAt_98 : decode cX11_restingAt 98 = .ok (.goto 4, 3) := by decide +kernel
theorem dX11_restingAt_101 : decode cX11_restingAt 101 = .ok (.iconst 0, 1) := by decide +kernel
theorem dX11_restingAt_102 : decode cX11_restingAt 102 = .ok (.iadd, 1) := by decide +kernel
theorem dX11_restingAt_103 : decode cX11_restingAt 103 = .ok (.istore_n 3, 1) := by decide +kernel
theorem dX11_restingAt_104 : decode cX11_restingAt 104 = .ok (.iinc 4 1, 3) := by decide +kernel
theorem dX11_restingAt_107 : decode cX11_restingAt 107 = .ok (.goto (-76), 3) := by decide +kernel
theorem dX11_restingAt_110 : decode cX11_restingAt 110 = .ok (.iload_n 3, 1) := by decide +kernel
theorem dX11_restingAt_111 : decode cX11_restingAt 111 = .ok (.iload_n 1, 1) := by decide +kernel
theorem dX11_restingAt_112 : decode cX11_restingAt 112 = .ok (.if_icmp .ne 5, 3) := by decide +kernel
theorem dX11_restingAt_115 : decode cX11_restingAt 115 = .ok (.iload_n 2, 1) := by decide +kernel
theorem dX11_restingAt_116 : decode cX11_restingAt 116 = .ok (.ireturn, 1) := by decide +kernel
theorem dX11_restingAt_117 : decode cX11_restingAt 117 = .ok (.iinc 2 1, 3) := by decide +kernel
theorem dX11_restingAt_120 : decode cX11_restingAt 120 = .ok (.goto (-118), 3) := by decide +kernel
theorem dX11_restingAt_123 : decode cX11_restingAt 123 = .ok (.iconst (-1), 1) := by decide +kernel
theorem dX11_restingAt_124 : decode cX11_restingAt 124 = .ok (.ireturn, 1) := by decide +kernel
theorem dX11_nextResting_0 : decode cX11_nextResting 0 = .ok (.iconst (-1), 1) := by decide +kernel
theorem dX11_nextResting_1 : decode cX11_nextResting 1 = .ok (.istore_n 1, 1) := by decide +kernel
theorem dX11_nextResting_2 : decode cX11_nextResting 2 = .ok (.iconst 0, 1) := by decide +kernel
theorem dX11_nextResting_3 : decode cX11_nextResting 3 = .ok (.istore_n 2, 1) := by decide +kernel
theorem dX11_nextResting_4 : decode cX11_nextResting 4 = .ok (.iload_n 2, 1) := by decide +kernel
theorem dX11_nextResting_5 : decode cX11_nextResting 5 = .ok (.aload_n 0, 1) := by decide +kernel
theorem dX11_nextResting_6 : decode cX11_nextResting 6 = .ok (.getfield 7, 3) := by decide +kernel
theorem dX11_nextResting_9 : decode cX11_nextResting 9 = .ok (.iconst 1, 1) := by decide +kernel
theorem dX11_nextResting_10 : decode cX11_nextResting 10 = .ok (.iaload, 1) := by decide +kernel
theorem dX11_nextResting_11 : decode cX11_nextResting 11 = .ok (.if_icmp .ge 44, 3) := by decide +kernel
theorem dX11_nextResting_14 : decode cX11_nextResting 14 = .ok (.aload_n 0, 1) := by decide +kernel
theorem dX11_nextResting_15 : decode cX11_nextResting 15 = .ok (.iload_n 2, 1) := by decide +kernel
theorem dX11_nextResting_16 : decode cX11_nextResting 16 = .ok (.bipush 6, 2) := by decide +kernel
theorem dX11_nextResting_18 : decode cX11_nextResting 18 = .ok (.invokevirtual 94, 3) := by decide +kernel
theorem dX11_nextResting_21 : decode cX11_nextResting 21 = .ok (.iconst 2, 1) := by decide +kernel
theorem dX11_nextResting_22 : decode cX11_nextResting 22 = .ok (.if_icmp .ne 27, 3) := by decide +kernel
theorem dX11_nextResting_25 : decode cX11_nextResting 25 = .ok (.iload_n 1, 1) := by decide +kernel
theorem dX11_nextResting_26 : decode cX11_nextResting 26 = .ok (.iconst (-1), 1) := by decide +kernel
theorem dX11_nextResting_27 : decode cX11_nextResting 27 = .ok (.if_icmp .eq 20, 3) := by decide +kernel
theorem dX11_nextResting_30 : decode cX11_nextResting 30 = .ok (.aload_n 0, 1) := by decide +kernel
theorem dX11_nextResting_31 : decode cX11_nextResting 31 = .ok (.iload_n 2, 1) := by decide +kernel
theorem dX11_nextResting_32 : decode cX11_nextResting 32 = .ok (.bipush 8, 2) := by decide +kernel
theorem dX11_nextResting_34 : decode cX11_nextResting 34 = .ok (.invokevirtual 94, 3) := by decide +kernel
theorem dX11_nextResting_37 : decode cX11_nextResting 37 = .ok (.aload_n 0, 1) := by decide +kernel
theorem dX11_nextResting_38 : decode cX11_nextResting 38 = .ok (.iload_n 1, 1) := by decide +kernel
theorem dX11_nextResting_39 : decode cX11_nextResting 39 = .ok (.bipush 8, 2) := by decide +kernel
theorem dX11_nextResting_41 : decode cX11_nextResting 41 = .ok (.invokevirtual 94, 3) := by decide +kernel
theorem dX11_nextResting_44 : decode cX11_nextResting 44 = .ok (.if_icmp .ge 5, 3) := by decide +kernel
theorem dX11_nextResting_47 : decode cX11_nextResting 47 = .ok (.iload_n 2, 1) := by decide +kernel
theorem dX11_nextResting_48 : decode cX11_nextResting 48 = .ok (.istore_n 1, 1) := by decide +kernel
theorem dX11_nextResting_49 : decode cX11_nextResting 49 = .ok (.iinc 2 1, 3) := by decide +kernel
theorem dX11_nextResting_52 : decode cX11_nextResting 52 = .ok (.goto (-48), 3) := by decide +kernel
theorem dX11_nextResting_55 : decode cX11_nextResting 55 = .ok (.iload_n 1, 1) := by decide +kernel
theorem dX11_nextResting_56 : decode cX11_nextResting 56 = .ok (.ireturn, 1) := by decide +kernel
theorem dX11_wakes_0 : decode cX11_wakes 0 = .ok (.aload_n 0, 1) := by decide +kernel
theorem dX11_wakes_1 : decode cX11_wakes 1 = .ok (.invokevirtual 183, 3) := by decide +kernel
theorem dX11_wakes_4 : decode cX11_wakes 4 = .ok (.istore_n 1, 1) := by decide +kernel
theorem dX11_wakes_5 : decode cX11_wakes 5 = .ok (.iload_n 1, 1) := by decide +kernel
theorem dX11_wakes_6 : decode cX11_wakes 6 = .ok (.iconst (-1), 1) := by decide +kernel
theorem dX11_wakes_7 : decode cX11_wakes 7 = .ok (.if_icmp .eq 58, 3) := by decide +kernel
theorem dX11_wakes_10 : decode cX11_wakes 10 = .ok (.aload_n 0, 1) := by decide +kernel
theorem dX11_wakes_11 : decode cX11_wakes 11 = .ok (.iload_n 1, 1) := by decide +kernel
theorem dX11_wakes_12 : decode cX11_wakes 12 = .ok (.bipush 8, 2) := by decide +kernel
theorem dX11_wakes_14 : decode cX11_wakes 14 = .ok (.invokevirtual 94, 3) := by decide +kernel
theorem dX11_wakes_17 : decode cX11_wakes 17 = .ok (.aload_n 0, 1) := by decide +kernel
theorem dX11_wakes_18 : decode cX11_wakes 18 = .ok (.getfield 7, 3) := by decide +kernel
theorem dX11_wakes_21 : decode cX11_wakes 21 = .ok (.iconst 0, 1) := by decide +kernel
theorem dX11_wakes_22 : decode cX11_wakes 22 = .ok (.iaload, 1) := by decide +kernel
theorem dX11_wakes_23 : decode cX11_wakes 23 = .ok (.if_icmp .gt 42, 3) := by decide +kernel
theorem dX11_wakes_26 : decode cX11_wakes 26 = .ok (.aload_n 0, 1) := by decide +kernel
theorem dX11_wakes_27 : decode cX11_wakes 27 = .ok (.iload_n 1, 1) := by decide +kernel
theorem dX11_wakes_28 : decode cX11_wakes 28 = .ok (.bipush 8, 2) := by decide +kernel
theorem dX11_wakes_30 : decode cX11_wakes 30 = .ok (.iconst (-1), 1) := by decide +kernel
theorem dX11_wakes_31 : decode cX11_wakes 31 = .ok (.invokevirtual 121, 3) := by decide +kernel
theorem dX11_wakes_34 : decode cX11_wakes 34 = .ok (.aload_n 0, 1) := by decide +kernel
theorem dX11_wakes_35 : decode cX11_wakes 35 = .ok (.iload_n 1, 1) := by decide +kernel
theorem dX11_wakes_36 : decode cX11_wakes 36 = .ok (.invokevirtual 146, 3) := by decide +kernel
theorem dX11_wakes_39 : decode cX11_wakes 39 = .ok (.aload_n 0, 1) := by decide +kernel
theorem dX11_wakes_40 : decode cX11_wakes 40 = .ok (.dup, 1) := by decide +kernel
theorem dX11_wakes_41 : decode cX11_wakes 41 = .ok (.getfield 45, 3) := by decide +kernel
theorem dX11_wakes_44 : decode cX11_wakes 44 = .ok (.iconst 1, 1) := by decide +kernel
theorem dX11_wakes_45 : decode cX11_wakes 45 = .ok (.iadd, 1) := by decide +kernel
theorem dX11_wakes_46 : decode cX11_wakes 46 = .ok (.putfield 45, 3) := by decide +kernel
theorem dX11_wakes_49 : decode cX11_wakes 49 = .ok (.aload_n 0, 1) := by decide +kernel
theorem dX11_wakes_50 : decode cX11_wakes 50 = .ok (.iconst 5, 1) := by decide +kernel
theorem dX11_wakes_51 : decode cX11_wakes 51 = .ok (.iload_n 1, 1) := by decide +kernel
theorem dX11_wakes_52 : decode cX11_wakes 52 = .ok (.iconst (-1), 1) := by decide +kernel
theorem dX11_wakes_53 : decode cX11_wakes 53 = .ok (.iconst 0, 1) := by decide +kernel
theorem dX11_wakes_54 : decode cX11_wakes 54 = .ok (.invokevirtual 125, 3) := by decide +kernel
theorem dX11_wakes_57 : decode cX11_wakes 57 = .ok (.aload_n 0, 1) := by decide +kernel
theorem dX11_wakes_58 : decode cX11_wakes 58 = .ok (.invokevirtual 183, 3) := by decide +kernel
theorem dX11_wakes_61 : decode cX11_wakes 61 = .ok (.istore_n 1, 1) := by decide +kernel
theorem dX11_wakes_62 : decode cX11_wakes 62 = .ok (.goto (-57), 3) := by decide +kernel
theorem dX11_wakes_65 : decode cX11_wakes 65 = .ok (.return_, 1) := by decide +kernel
theorem dX11_ticks_0 : decode cX11_ticks 0 = .ok (.aload_n 0, 1) := by decide +kernel
theorem dX11_ticks_1 : decode cX11_ticks 1 = .ok (.getfield 7, 3) := by decide +kernel
theorem dX11_ticks_4 : decode cX11_ticks 4 = .ok (.iconst 0, 1) := by decide +kernel
theorem dX11_ticks_5 : decode cX11_ticks 5 = .ok (.dup2, 1) := by decide +kernel
theorem dX11_ticks_6 : decode cX11_ticks 6 = .ok (.iaload, 1) := by decide +kernel
theorem dX11_ticks_7 : decode cX11_ticks 7 = .ok (.iconst 1, 1) := by decide +kernel
theorem dX11_ticks_8 : decode cX11_ticks 8 = .ok (.iadd, 1) := by decide +kernel
theorem dX11_ticks_9 : decode cX11_ticks 9 = .ok (.iastore, 1) := by decide +kernel
theorem dX11_ticks_10 : decode cX11_ticks 10 = .ok (.iconst 0, 1) := by decide +kernel
theorem dX11_ticks_11 : decode cX11_ticks 11 = .ok (.istore_n 1, 1) := by decide +kernel
theorem dX11_ticks_12 : decode cX11_ticks 12 = .ok (.iload_n 1, 1) := by decide +kernel
theorem dX11_ticks_13 : decode cX11_ticks 13 = .ok (.aload_n 0, 1) := by decide +kernel
theorem dX11_ticks_14 : decode cX11_ticks 14 = .ok (.getfield 7, 3) := by decide +kernel
theorem dX11_ticks_17 : decode cX11_ticks 17 = .ok (.iconst 1, 1) := by decide +kernel
theorem dX11_ticks_18 : decode cX11_ticks 18 = .ok (.iaload, 1) := by decide +kernel
theorem dX11_ticks_19 : decode cX11_ticks 19 = .ok (.if_icmp .ge 43, 3) := by decide +kernel
theorem dX11_ticks_22 : decode cX11_ticks 22 = .ok (.aload_n 0, 1) := by decide +kernel
theorem dX11_ticks_23 : decode cX11_ticks 23 = .ok (.iload_n 1, 1) := by decide +kernel
theorem dX11_ticks_24 : decode cX11_ticks 24 = .ok (.bipush 6, 2) := by decide +kernel
theorem dX11_ticks_26 : decode cX11_ticks 26 = .ok (.invokevirtual 94, 3) := by decide +kernel
theorem dX11_ticks_29 : decode cX11_ticks 29 = .ok (.iconst 3, 1) := by decide +kernel
theorem dX11_ticks_30 : decode cX11_ticks 30 = .ok (.if_icmp .ne 26, 3) := by decide +kernel
theorem dX11_ticks_33 : decode cX11_ticks 33 = .ok (.aload_n 0, 1) := by decide +kernel
theorem dX11_ticks_34 : decode cX11_ticks 34 = .ok (.iload_n 1, 1) := by decide +kernel
theorem dX11_ticks_35 : decode cX11_ticks 35 = .ok (.bipush 11, 2) := by decide +kernel
theorem dX11_ticks_37 : decode cX11_ticks 37 = .ok (.invokevirtual 94, 3) := by decide +kernel
theorem dX11_ticks_40 : decode cX11_ticks 40 = .ok (.aload_n 0, 1) := by decide +kernel
