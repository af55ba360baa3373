theorem dX12_costOf_0 : decode cX12_costOf 0 = .ok (.lconst 0, 1) := by decide +kernel
theorem dX12_costOf_1 : decode cX12_costOf 1 = .ok (.lstore_n 3, 1) := by decide +kernel
theorem dX12_costOf_2 : decode cX12_costOf 2 = .ok (.aload_n 0, 1) := by decide +kernel
theorem dX12_costOf_3 : decode cX12_costOf 3 = .ok (.aload_n 1, 1) := by decide +kernel
theorem dX12_costOf_4 : decode cX12_costOf 4 = .ok (.invokevirtual 133, 3) := by decide +kernel
theorem dX12_costOf_7 : decode cX12_costOf 7 = .ok (.istore 5, 2) := by decide +kernel
theorem dX12_costOf_9 : decode cX12_costOf 9 = .ok (.iload_n 2, 1) := by decide +kernel
theorem dX12_costOf_10 : decode cX12_costOf 10 = .ok (.ifCond .ne 138, 3) := by decide +kernel
theorem dX12_costOf_13 : decode cX12_costOf 13 = .ok (.iconst 0, 1) := by decide +kernel
theorem dX12_costOf_14 : decode cX12_costOf 14 = .ok (.istore 6, 2) := by decide +kernel
theorem dX12_costOf_16 : decode cX12_costOf 16 = .ok (.iload 6, 2) := by decide +kernel
theorem dX12_costOf_18 : decode cX12_costOf 18 = .ok (.iload 5, 2) := by decide +kernel
theorem dX12_costOf_20 : decode cX12_costOf 20 = .ok (.if_icmp .ge 125, 3) := by decide +kernel
theorem dX12_costOf_23 : decode cX12_costOf 23 = .ok (.lconst 0, 1) := by decide +kernel
theorem dX12_costOf_24 : decode cX12_costOf 24 = .ok (.lstore 7, 2) := by decide +kernel
theorem dX12_costOf_26 : decode cX12_costOf 26 = .ok (.iconst 0, 1) := by decide +kernel
theorem dX12_costOf_27 : decode cX12_costOf 27 = .ok (.istore 9, 2) := by decide +kernel
theorem dX12_costOf_29 : decode cX12_costOf 29 = .ok (.iconst 0, 1) := by decide +kernel
theorem dX12_costOf_30 : decode cX12_costOf 30 = .ok (.istore 10, 2) := by decide +kernel
theorem dX12_costOf_32 : decode cX12_costOf 32 = .ok (.iload 10, 2) := by decide +kernel
theorem dX12_costOf_34 : decode cX12_costOf 34 = .ok (.aload_n 0, 1) := by decide +kernel
theorem dX12_costOf_35 : decode cX12_costOf 35 = .ok (.invokevirtual 90, 3) := by decide +kernel
theorem dX12_costOf_38 : decode cX12_costOf 38 = .ok (.if_icmp .ge 88, 3) := by decide +kernel
theorem dX12_costOf_41 : decode cX12_costOf 41 = .ok (.aload_n 1, 1) := by decide +kernel
theorem dX12_costOf_42 : decode cX12_costOf 42 = .ok (.iload 10, 2) := by decide +kernel
theorem dX12_costOf_44 : decode cX12_costOf 44 = .ok (.iaload, 1) := by decide +kernel
theorem dX12_costOf_45 : decode cX12_costOf 45 = .ok (.iload 6, 2) := by decide +kernel
theorem dX12_costOf_47 : decode cX12_costOf 47 = .ok (.if_icmp .eq 6, 3) := by decide +kernel
theorem dX12_costOf_50 : decode cX12_costOf 50 = .ok (.goto 70, 3) := by decide +kernel
theorem dX12_costOf_53 : decode cX12_costOf 53 = .ok (.iinc 9 1, 3) := by decide +kernel
theorem dX12_costOf_56 : decode cX12_costOf 56 = .ok (.iload 10, 2) := by decide +kernel
theorem dX12_costOf_58 : decode cX12_costOf 58 = .ok (.iconst 1, 1) := by decide +kernel
theorem dX12_costOf_59 : decode cX12_costOf 59 = .ok (.iadd, 1) := by decide +kernel
theorem dX12_costOf_60 : decode cX12_costOf 60 = .ok (.istore 11, 2) := by decide +kernel
theorem dX12_costOf_62 : decode cX12_costOf 62 = .ok (.iload 11, 2) := by decide +kernel
theorem dX12_costOf_64 : decode cX12_costOf 64 = .ok (.aload_n 0, 1) := by decide +kernel
theorem dX12_costOf_65 : decode cX12_costOf 65 = .ok (.invokevirtual 90, 3) := by decide +kernel
theorem dX12_costOf_68 : decode cX12_costOf 68 = .ok (.if_icmp .ge 52, 3) := by decide +kernel
theorem dX12_costOf_71 : decode cX12_costOf 71 = .ok (.aload_n 1, 1) := by decide +kernel
theorem dX12_costOf_72 : decode cX12_costOf 72 = .ok (.iload 11, 2) := by decide +kernel
theorem dX12_costOf_74 : decode cX12_costOf 74 = .ok (.iaload, 1) := by decide +kernel
theorem dX12_costOf_75 : decode cX12_costOf 75 = .ok (.iload 6, 2) := by decide +kernel
theorem dX12_costOf_77 : decode cX12_costOf 77 = .ok (.if_icmp .ne 37, 3) := by decide +kernel
theorem dX12_costOf_80 : decode cX12_costOf 80 = .ok (.lload 7, 2) := by decide +kernel
theorem dX12_costOf_82 : decode cX12_costOf 82 = .ok (.aload_n 0, 1) := by decide +kernel
theorem dX12_costOf_83 : decode cX12_costOf 83 = .ok (.getfield 67, 3) := by decide +kernel
theorem dX12_costOf_86 : decode cX12_costOf 86 = .ok (.bipush 12, 2) := by decide +kernel
theorem dX12_costOf_88 : decode cX12_costOf 88 = .ok (.iload 10, 2) := by decide +kernel
theorem dX12_costOf_90 : decode cX12_costOf 90 = .ok (.imul, 1) := by decide +kernel
theorem dX12_costOf_91 : decode cX12_costOf 91 = .ok (.iload 11, 2) := by decide +kernel
theorem dX12_costOf_93 : decode cX12_costOf 93 = .ok (.iadd, 1) := by decide +kernel
theorem dX12_costOf_94 : decode cX12_costOf 94 = .ok (.iaload, 1) := by decide +kernel
theorem dX12_costOf_95 : decode cX12_costOf 95 = .ok (.i2l, 1) := by decide +kernel
theorem dX12_costOf_96 : decode cX12_costOf 96 = .ok (.aload_n 0, 1) := by decide +kernel
theorem dX12_costOf_97 : decode cX12_costOf 97 = .ok (.getfield 67, 3) := by decide +kernel
theorem dX12_costOf_100 : decode cX12_costOf 100 = .ok (.bipush 12, 2) := by decide +kernel
theorem dX12_costOf_102 : decode cX12_costOf 102 = .ok (.iload 10, 2) := by decide +kernel
theorem dX12_costOf_104 : decode cX12_costOf 104 = .ok (.imul, 1) := by decide +kernel
theorem dX12_costOf_105 : decode cX12_costOf 105 = .ok (.iload 11, 2) := by decide +kernel
theorem dX12_costOf_107 : decode cX12_costOf 107 = .ok (.iadd, 1) := by decide +kernel
theorem dX12_costOf_108 : decode cX12_costOf 108 = .ok (.iaload, 1) := by decide +kernel
theorem dX12_costOf_109 : decode cX12_costOf 109 = .ok (.i2l, 1) := by decide +kernel
theorem dX12_costOf_110 : decode cX12_costOf 110 = .ok (.lmul, 1) := by decide +kernel
theorem dX12_costOf_111 : decode cX12_costOf 111 = .ok (.ladd, 1) := by decide +kernel
theorem dX12_costOf_112 : decode cX12_costOf 112 = .ok (.lstore 7, 2) := by decide +kernel
theorem dX12_costOf_114 : decode cX12_costOf 114 = .ok (.iinc 11 1, 3) := by decide +kernel
theorem dX12_costOf_117 : decode cX12_costOf 117 = .ok (.goto (-55), 3) := by decide +kernel
theorem dX12_costOf_120 : decode cX12_costOf 120 = .ok (.iinc 10 1, 3) := by decide +kernel
theorem dX12_costOf_123 : decode cX12_costOf 123 = .ok (.goto (-91), 3) := by decide +kernel
theorem dX12_costOf_126 : decode cX12_costOf 126 = .ok (.lload_n 3, 1) := by decide +kernel
theorem dX12_costOf_127 : decode cX12_costOf 127 = .ok (.lload 7, 2) := by decide +kernel
theorem dX12_costOf_129 : decode cX12_costOf 129 = .ok (.sipush 27720, 3) := by decide +kernel
theorem dX12_costOf_132 : decode cX12_costOf 132 = .ok (.iload 9, 2) := by decide +kernel
theorem dX12_costOf_134 : decode cX12_costOf 134 = .ok (.idiv, 1) := by decide +kernel
theorem dX12_costOf_135 : decode cX12_costOf 135 = .ok (.i2l, 1) := by decide +kernel
theorem dX12_costOf_136 : decode cX12_costOf 136 = .ok (.lmul, 1) := by decide +kernel
theorem dX12_costOf_137 : decode cX12_costOf 137 = .ok (.ladd, 1) := by decide +kernel
theorem dX12_costOf_138 : decode cX12_costOf 138 = .ok (.lstore_n 3, 1) := by decide +kernel
theorem dX12_costOf_139 : decode cX12_costOf 139 = .ok (.iinc 6 1, 3) := by decide +kernel
theorem dX12_costOf_142 : decode cX12_costOf 142 = .ok (.goto (-126), 3) := by decide +kernel
theorem dX12_costOf_145 : decode cX12_costOf 145 = .ok (.goto 165, 3) := by decide +kernel
theorem dX12_costOf_148 : decode cX12_costOf 148 = .ok (.iload_n 2, 1) := by decide +kernel
theorem dX12_costOf_149 : decode cX12_costOf 149 = .ok (.iconst 1, 1) := by decide +kernel
theorem dX12_costOf_150 : decode cX12_costOf 150 = .ok (.if_icmp .ne 40, 3) := by decide +kernel
theorem dX12_costOf_153 : decode cX12_costOf 153 = .ok (.iconst 0, 1) := by decide +kernel
theorem dX12_costOf_154 : decode cX12_costOf 154 = .ok (.istore 6, 2) := by decide +kernel
theorem dX12_costOf_156 : decode cX12_costOf 156 = .ok (.iload 6, 2) := by decide +kernel
theorem dX12_costOf_158 : decode cX12_costOf 158 = .ok (.iload 5, 2) := by decide +kernel
theorem dX12_costOf_160 : decode cX12_costOf 160 = .ok (.if_icmp .ge 27, 3) := by decide +kernel
theorem dX12_costOf_163 : decode cX12_costOf 163 = .ok (.lload_n 3, 1) := by decide +kernel
theorem dX12_costOf_164 : decode cX12_costOf 164 = .ok (.aload_n 0, 1) := by decide +kernel
theorem dX12_costOf_165 : decode cX12_costOf 165 = .ok (.aload_n 1, 1) := by decide +kernel
theorem dX12_costOf_166 : decode cX12_costOf 166 = .ok (.iload 6, 2) := by decide +kernel
theorem dX12_costOf_168 : decode cX12_costOf 168 = .ok (.aload_n 0, 1) := by decide +kernel
theorem dX12_costOf_169 : decode cX12_costOf 169 = .ok (.aload_n 1, 1) := by decide +kernel
theorem dX12_costOf_170 : decode cX12_costOf 170 = .ok (.iload 6, 2) := by decide +kernel
theorem dX12_costOf_172 : decode cX12_costOf 172 = .ok (.invokevirtual 137, 3) := by decide +kernel
theorem dX12_costOf_175 : decode cX12_costOf 175 = .ok (.invokevirtual 129, 3) := by decide +kernel
theorem dX12_costOf_178 : decode cX12_costOf 178 = .ok (.i2l, 1) := by decide +kernel
theorem dX12_costOf_179 : decode cX12_costOf 179 = .ok (.ladd, 1) := by decide +kernel
theorem dX12_costOf_180 : decode cX12_costOf 180 = .ok (.lstore_n 3, 1) := by decide +kernel
theorem dX12_costOf_181 : decode cX12_costOf 181 = .ok (.iinc 6 1, 3) := by decide +kernel
theorem dX12_costOf_184 : decode cX12_costOf 184 = .ok (.goto (-28), 3) := by decide +kernel
theorem dX12_costOf_187 : decode cX12_costOf 187 = .ok (.goto 123, 3) := by decide +kernel
theorem dX12_costOf_190 : decode cX12_costOf 190 = .ok (.iconst 0, 1) := by decide +kernel
theorem dX12_costOf_191 : decode cX12_costOf 191 = .ok (.istore 6, 2) := by decide +kernel
theorem dX12_costOf_193 : decode cX12_costOf 193 = .ok (.iload 6, 2) := by decide +kernel
theorem dX12_costOf_195 : decode cX12_costOf 195 = .ok (.aload_n 0, 1) := by decide +kernel
theorem dX12_costOf_196 : decode cX12_costOf 196 = .ok (.invokevirtual 90, 3) := by decide +kernel
theorem dX12_costOf_199 : decode cX12_costOf 199 = .ok (.if_icmp .ge 111, 3) := by decide +kernel
theorem dX12_costOf_202 : decode cX12_costOf 202 = .ok (.iload 6, 2) := by decide +kernel
theorem dX12_costOf_204 : decode cX12_costOf 204 = .ok (.iconst 1, 1) := by decide +kernel
theorem dX12_costOf_205 : decode cX12_costOf 205 = .ok (.iadd, 1) := by decide +kernel
theorem dX12_costOf_206 : decode cX12_costOf 206 = .ok (.istore 7, 2) := by decide +kernel
theorem dX12_costOf_208 : decode cX12_costOf 208 = .ok (.iload 7, 2) := by decide +kernel
theorem dX12_costOf_210 : decode cX12_costOf 210 = .ok (.aload_n 0, 1) := by decide +kernel
theorem dX12_costOf_211 : decode cX12_costOf 211 = .ok (.invokevirtual 90, 3) := by decide +kernel
theorem dX12_costOf_214 : decode cX12_costOf 214 = .ok (.if_icmp .ge 90, 3) := by decide +kernel
theorem dX12_costOf_217 : decode cX12_costOf 217 = .ok (.bipush 12, 2) := by decide +kernel
theorem dX12_costOf_219 : decode cX12_costOf 219 = .ok (.iload 6, 2) := by decide +kernel
theorem dX12_costOf_221 : decode cX12_costOf 221 = .ok (.imul, 1) := by decide +kernel
theorem dX12_costOf_222 : decode cX12_costOf 222 = .ok (.iload 7, 2) := by decide +kernel
theorem dX12_costOf_224 : decode cX12_costOf 224 = .ok (.iadd, 1) := by decide +kernel
theorem dX12_costOf_225 : decode cX12_costOf 225 = .ok (.istore 8, 2) := by decide +kernel
theorem dX12_costOf_227 : decode cX12_costOf 227 = .ok (.iload_n 2, 1) := by decide +kernel
theorem dX12_costOf_228 : decode cX12_costOf 228 = .ok (.iconst 2, 1) := by decide +kernel
theorem dX12_costOf_229 : decode cX12_costOf 229 = .ok (.if_icmp .ne 27, 3) := by decide +kernel
theorem dX12_costOf_232 : decode cX12_costOf 232 = .ok (.aload_n 1, 1) := by decide +kernel
theorem dX12_costOf_233 : decode cX12_costOf 233 = .ok (.iload 6, 2) := by decide +kernel
theorem dX12_costOf_235 : decode cX12_costOf 235 = .ok (.iaload, 1) := by decide +kernel
theorem dX12_costOf_236 : decode cX12_costOf 236 = .ok (.aload_n 1, 1) := by decide +kernel
theorem dX12_costOf_237 : decode cX12_costOf 237 = .ok (.iload 7, 2) := by decide +kernel
theorem dX12_costOf_239 : decode cX12_costOf 239 = .ok (.iaload, 1) := by decide +kernel
theorem dX12_costOf_240 : decode cX12_costOf 240 = .ok (.if_icmp .ne 16, 3) := by decide +kernel
theorem dX12_costOf_243 : decode cX12_costOf 243 = .ok (.lload_n 3, 1) := by decide +kernel
theorem dX12_costOf_244 : decode cX12_costOf 244 = .ok (.aload_n 0, 1) := by decide +kernel
theorem dX12_costOf_245 : decode cX12_costOf 245 = .ok (.getfield 67, 3) := by decide +kernel
theorem dX12_costOf_248 : decode cX12_costOf 248 = .ok (.iload 8, 2) := by decide +kernel
theorem dX12_costOf_250 : decode cX12_costOf 250 = .ok (.iaload, 1) := by decide +kernel
theorem dX12_costOf_251 : decode cX12_costOf 251 = .ok (.i2l, 1) := by decide +kernel
theorem dX12_costOf_252 : decode cX12_costOf 252 = .ok (.invokestatic 141, 3) := by decide +kernel
theorem dX12_costOf_255 : decode cX12_costOf 255 = .ok (.lstore_n 3, 1) := by decide +kernel
theorem dX12_costOf_256 : decode cX12_costOf 256 = .ok (.iload_n 2, 1) := by decide +kernel
theorem dX12_costOf_257 : decode cX12_costOf 257 = .ok (.iconst 3, 1) := by decide +kernel
theorem dX12_costOf_258 : decode cX12_costOf 258 = .ok (.if_icmp .ne 40, 3) := by decide +kernel
theorem dX12_costOf_261 : decode cX12_costOf 261 = .ok (.aload_n 0, 1) := by decide +kernel
theorem dX12_costOf_262 : decode cX12_costOf 262 = .ok (.getfield 22, 3) := by decide +kernel
theorem dX12_costOf_265 : decode cX12_costOf 265 = .ok (.iload 8, 2) := by decide +kernel
theorem dX12_costOf_267 : decode cX12_costOf 267 = .ok (.baload, 1) := by decide +kernel
theorem dX12_costOf_268 : decode cX12_costOf 268 = .ok (.aload_n 1, 1) := by decide +kernel
theorem dX12_costOf_269 : decode cX12_costOf 269 = .ok (.iload 6, 2) := by decide +kernel
theorem dX12_costOf_271 : decode cX12_costOf 271 = .ok (.iaload, 1) := by decide +kernel
theorem dX12_costOf_272 : decode cX12_costOf 272 = .ok (.aload_n 1, 1) := by decide +kernel
theorem dX12_costOf_273 : decode cX12_costOf 273 = .ok (.iload 7, 2) := by decide +kernel
theorem dX12_costOf_275 : decode cX12_costOf 275 = .ok (.iaload, 1) := by decide +kernel
theorem dX12_costOf_276 : decode cX12_costOf 276 = .ok (.if_icmp .ne 7, 3) := by decide +kernel
theorem dX12_costOf_279 : decode cX12_costOf 279 = .ok (.iconst 1, 1) := by decide +kernel
theorem dX12_costOf_280 : decode cX12_costOf 280 = .ok (.goto 4, 3) := by decide +kernel
theorem dX12_costOf_283 : decode cX12_costOf 283 = .ok (.iconst 0, 1) := by decide +kernel
theorem dX12_costOf_284 : decode cX12_costOf 284 = .ok (.if_icmp .eq 14, 3) := by decide +kernel
theorem dX12_costOf_287 : decode cX12_costOf 287 = .ok (.lload_n 3, 1) := by decide +kernel
theorem dX12_costOf_288 : decode cX12_costOf 288 = .ok (.aload_n 0, 1) := by decide +kernel
theorem dX12_costOf_289 : decode cX12_costOf 289 = .ok (.getfield 19, 3) := by decide +kernel
theorem dX12_costOf_292 : decode cX12_costOf 292 = .ok (.iload 8, 2) := by decide +kernel
theorem dX12_costOf_294 : decode cX12_costOf 294 = .ok (.iaload, 1) := by decide +kernel
theorem dX12_costOf_295 : decode cX12_costOf 295 = .ok (.i2l, 1) := by decide +kernel
theorem dX12_costOf_296 : decode cX12_costOf 296 = .ok (.ladd, 1) := by decide +kernel
theorem dX12_costOf_297 : decode cX12_costOf 297 = .ok (.lstore_n 3, 1) := by decide +kernel
theorem dX12_costOf_298 : decode cX12_costOf 298 = .ok (.iinc 7 1, 3) := by decide +kernel
theorem dX12_costOf_301 : decode cX12_costOf 301 = .ok (.goto (-93), 3) := by decide +kernel
theorem dX12_costOf_304 : decode cX12_costOf 304 = .ok (.iinc 6 1, 3) := by decide +kernel
theorem dX12_costOf_307 : decode cX12_costOf 307 = .ok (.goto (-114), 3) := by decide +kernel
theorem dX12_costOf_310 : decode cX12_costOf 310 = .ok (.lload_n 3, 1) := by decide +kernel
theorem dX12_costOf_311 : decode cX12_costOf 311 = .ok (.lreturn, 1) := by decide +kernel
theorem dX12_become_0 : decode cX12_become 0 = .ok (.iconst 0, 1) := by decide +kernel
theorem dX12_become_1 : decode cX12_become 1 = .ok (.istore_n 2, 1) := by decide +kernel
theorem dX12_become_2 : decode cX12_become 2 = .ok (.iload_n 2, 1) := by decide +kernel
theorem dX12_become_3 : decode cX12_become 3 = .ok (.aload_n 0, 1) := by decide +kernel
theorem dX12_become_4 : decode cX12_become 4 = .ok (.invokevirtual 90, 3) := by decide +kernel
theorem dX12_become_7 : decode cX12_become 7 = .ok (.if_icmp .ge 18, 3) := by decide +kernel
theorem dX12_become_10 : decode cX12_become 10 = .ok (.aload_n 0, 1) := by decide +kernel
theorem dX12_become_11 : decode cX12_become 11 = .ok (.getfield 26, 3) := by decide +kernel
theorem dX12_become_14 : decode cX12_become 14 = .ok (.iload_n 2, 1) := by decide +kernel
theorem dX12_become_15 : decode cX12_become 15 = .ok (.aload_n 1, 1) := by decide +kernel
theorem dX12_become_16 : decode cX12_become 16 = .ok (.iload_n 2, 1) := by decide +kernel
theorem dX12_become_17 : decode cX12_become 17 = .ok (.iaload, 1) := by decide +kernel
theorem dX12_become_18 : decode cX12_become 18 = .ok (.iastore, 1) := by decide +kernel
theorem dX12_become_19 : decode cX12_become 19 = .ok (.iinc 2 1, 3) := by decide +kernel
theorem dX12_become_22 : decode cX12_become 22 = .ok (.goto (-20), 3) := by decide +kernel
theorem dX12_become_25 : decode cX12_become 25 = .ok (.return_, 1) := by decide +kernel
theorem dX12_takeNow_0 : decode cX12_takeNow 0 = .ok (.iconst 0, 1) := by decide +kernel
theorem dX12_takeNow_1 : decode cX12_takeNow 1 = .ok (.istore_n 1, 1) := by decide +kernel
theorem dX12_takeNow_2 : decode cX12_takeNow 2 = .ok (.iload_n 1, 1) := by decide +kernel
theorem dX12_takeNow_3 : decode cX12_takeNow 3 = .ok (.aload_n 0, 1) := by decide +kernel
theorem dX12_takeNow_4 : decode cX12_takeNow 4 = .ok (.invokevirtual 90, 3) := by decide +kernel
theorem dX12_takeNow_7 : decode cX12_takeNow 7 = .ok (.if_icmp .ge 21, 3) := by decide +kernel
theorem dX12_takeNow_10 : decode cX12_takeNow 10 = .ok (.aload_n 0, 1) := by decide +kernel
theorem dX12_takeNow_11 : decode cX12_takeNow 11 = .ok (.getfield 58, 3) := by decide +kernel
theorem dX12_takeNow_14 : decode cX12_takeNow 14 = .ok (.iload_n 1, 1) := by decide +kernel
theorem dX12_takeNow_15 : decode cX12_takeNow 15 = .ok (.aload_n 0, 1) := by decide +kernel
theorem dX12_takeNow_16 : decode cX12_takeNow 16 = .ok (.getfield 26, 3) := by decide +kernel
theorem dX12_takeNow_19 : decode cX12_takeNow 19 = .ok (.iload_n 1, 1) := by decide +kernel
theorem dX12_takeNow_20 : decode cX12_takeNow 20 = .ok (.iaload, 1) := by decide +kernel
theorem dX12_takeNow_21 : decode cX12_takeNow 21 = .ok (.iastore, 1) := by decide +kernel
theorem dX12_takeNow_22 : decode cX12_takeNow 22 = .ok (.iinc 1 1, 3) := by decide +kernel
theorem dX12_takeNow_25 : decode cX12_takeNow 25 = .ok (.goto (-23), 3) := by decide +kernel
theorem dX12_takeNow_28 : decode cX12_takeNow 28 = .ok (.return_, 1) := by decide +kernel
theorem dX12_put_0 : decode cX12_put 0 = .ok (.aload_n 0, 1) := by decide +kernel
theorem dX12_put_1 : decode cX12_put 1 = .ok (.iconst 0, 1) := by decide +kernel
theorem dX12_put_2 : decode cX12_put 2 = .ok (.putfield 77, 3) := by decide +kernel
theorem dX12_put_5 : decode cX12_put 5 = .ok (.aload_n 0, 1) := by decide +kernel
theorem dX12_put_6 : decode cX12_put 6 = .ok (.iload_n 1, 1) := by decide +kernel
theorem dX12_put_7 : decode cX12_put 7 = .ok (.invokevirtual 94, 3) := by decide +kernel
theorem dX12_put_10 : decode cX12_put 10 = .ok (.ifCond .eq 19, 3) := by decide +kernel
theorem dX12_put_13 : decode cX12_put 13 = .ok (.iload_n 2, 1) := by decide +kernel
theorem dX12_put_14 : decode cX12_put 14 = .ok (.ifCond .lt 15, 3) := by decide +kernel
theorem dX12_put_17 : decode cX12_put 17 = .ok (.iload_n 2, 1) := by decide +kernel
theorem dX12_put_18 : decode cX12_put 18 = .ok (.aload_n 0, 1) := by decide +kernel
theorem dX12_put_19 : decode cX12_put 19 = .ok (.aload_n 0, 1) := by decide +kernel
theorem dX12_put_20 : decode cX12_put 20 = .ok (.getfield 26, 3) := by decide +kernel
theorem dX12_put_23 : decode cX12_put 23 = .ok (.invokevirtual 133, 3) := by decide +kernel
theorem dX12_put_26 : decode cX12_put 26 = .ok (.if_icmp .le 9, 3) := by decide +kernel
theorem dX12_put_29 : decode cX12_put 29 = .ok (.aload_n 0, 1) := by decide +kernel
theorem dX12_put_30 : decode cX12_put 30 = .ok (.iconst 1, 1) := by decide +kernel
theorem dX12_put_31 : decode cX12_put 31 = .ok (.invokevirtual 98, 3) := by decide +kernel
theorem dX12_put_34 : decode cX12_put 34 = .ok (.ireturn, 1) := by decide +kernel
theorem dX12_put_35 : decode cX12_put 35 = .ok (.aload_n 0, 1) := by decide +kernel
theorem dX12_put_36 : decode cX12_put 36 = .ok (.invokevirtual 102, 3) := by decide +kernel
theorem dX12_put_39 : decode cX12_put 39 = .ok (.aload_n 0, 1) := by decide +kernel
theorem dX12_put_40 : decode cX12_put 40 = .ok (.invokevirtual 144, 3) := by decide +kernel
theorem dX12_put_43 : decode cX12_put 43 = .ok (.aload_n 0, 1) := by decide +kernel
theorem dX12_put_44 : decode cX12_put 44 = .ok (.getfield 58, 3) := by decide +kernel
theorem dX12_put_47 : decode cX12_put 47 = .ok (.iload_n 1, 1) := by decide +kernel
theorem dX12_put_48 : decode cX12_put 48 = .ok (.iload_n 2, 1) := by decide +kernel
theorem dX12_put_49 : decode cX12_put 49 = .ok (.iastore, 1) := by decide +kernel
theorem dX12_put_50 : decode cX12_put 50 = .ok (.aload_n 0, 1) := by decide +kernel
theorem dX12_put_51 : decode cX12_put 51 = .ok (.aload_n 0, 1) := by decide +kernel
theorem dX12_put_52 : decode cX12_put 52 = .ok (.getfield 58, 3) := by decide +kernel
theorem dX12_put_55 : decode cX12_put 55 = .ok (.invokevirtual 147, 3) := by decide +kernel
theorem dX12_put_58 : decode cX12_put 58 = .ok (.istore_n 3, 1) := by decide +kernel
theorem dX12_put_59 : decode cX12_put 59 = .ok (.aload_n 0, 1) := by decide +kernel
theorem dX12_put_60 : decode cX12_put 60 = .ok (.aload_n 0, 1) := by decide +kernel
theorem dX12_put_61 : decode cX12_put 61 = .ok (.getfield 58, 3) := by decide +kernel
theorem dX12_put_64 : decode cX12_put 64 = .ok (.invokevirtual 150, 3) := by decide +kernel
theorem dX12_put_67 : decode cX12_put 67 = .ok (.iload_n 3, 1) := by decide +kernel
theorem dX12_put_68 : decode cX12_put 68 = .ok (.ireturn, 1) := by decide +kernel
theorem dX12_count_0 : decode cX12_count 0 = .ok (.aload_n 0, 1) := by decide +kernel
theorem dX12_count_1 : decode cX12_count 1 = .ok (.iconst 0, 1) := by decide +kernel
theorem dX12_count_2 : decode cX12_count 2 = .ok (.putfield 77, 3) := by decide +kernel
theorem dX12_count_5 : decode cX12_count 5 = .ok (.iload_n 1, 1) := by decide +kernel
theorem dX12_count_6 : decode cX12_count 6 = .ok (.tableswitch 84 0 5 #[38, 43, 52, 57, 62, 67], 38) := by decide +kernel
theorem dX12_count_44 : decode cX12_count 44 = .ok (.aload_n 0, 1) := by decide +kernel
theorem dX12_count_45 : decode cX12_count 45 = .ok (.invokevirtual 90, 3) := by decide +kernel
theorem dX12_count_48 : decode cX12_count 48 = .ok (.ireturn, 1) := by decide +kernel
theorem dX12_count_49 : decode cX12_count 49 = .ok (.aload_n 0, 1) := by decide +kernel
theorem dX12_count_50 : decode cX12_count 50 = .ok (.aload_n 0, 1) := by decide +kernel
theorem dX12_count_51 : decode cX12_count 51 = .ok (.getfield 26, 3) := by decide +kernel
theorem dX12_count_54 : decode cX12_count 54 = .ok (.invokevirtual 133, 3) := by decide +kernel
theorem dX12_count_57 : decode cX12_count 57 = .ok (.ireturn, 1) := by decide +kernel
theorem dX12_count_58 : decode cX12_count 58 = .ok (.aload_n 0, 1) := by decide +kernel
theorem dX12_count_59 : decode cX12_count 59 = .ok (.getfield 80, 3) := by decide +kernel
theorem dX12_count_62 : decode cX12_count 62 = .ok (.ireturn, 1) := by decide +kernel
theorem dX12_count_63 : decode cX12_count 63 = .ok (.aload_n 0, 1) := by decide +kernel
theorem dX12_count_64 : decode cX12_count 64 = .ok (.getfield 37, 3) := by decide +kernel
theorem dX12_count_67 : decode cX12_count 67 = .ok (.ireturn, 1) := by decide +kernel
theorem dX12_count_68 : decode cX12_count 68 = .ok (.aload_n 0, 1) := by decide +kernel
theorem dX12_count_69 : decode cX12_count 69 = .ok (.getfield 154, 3) := by decide +kernel
theorem dX12_count_72 : decode cX12_count 72 = .ok (.ireturn, 1) := by decide +kernel
theorem dX12_count_73 : decode cX12_count 73 = .ok (.aload_n 0, 1) := by decide +kernel
theorem dX12_count_74 : decode cX12_count 74 = .ok (.getfield 29, 3) := by decide +kernel
theorem dX12_count_77 : decode cX12_count 77 = .ok (.iconst (-1), 1) := by decide +kernel
theorem dX12_count_78 : decode cX12_count 78 = .ok (.if_icmp .ne 7, 3) := by decide +kernel
theorem dX12_count_81 : decode cX12_count 81 = .ok (.iconst (-1), 1) := by decide +kernel
theorem dX12_count_82 : decode cX12_count 82 = .ok (.goto 7, 3) := by decide +kernel
theorem dX12_count_85 : decode cX12_count 85 = .ok (.aload_n 0, 1) := by decide +kernel
theorem dX12_count_86 : decode cX12_count 86 = .ok (.getfield 113, 3) := by decide +kernel
theorem dX12_count_89 : decode cX12_count 89 = .ok (.ireturn, 1) := by decide +kernel
theorem dX12_count_90 : decode cX12_count 90 = .ok (.aload_n 0, 1) := by decide +kernel
theorem dX12_count_91 : decode cX12_count 91 = .ok (.iconst 1, 1) := by decide +kernel
theorem dX12_count_92 : decode cX12_count 92 = .ok (.invokevirtual 98, 3) := by decide +kernel
theorem dX12_count_95 : decode cX12_count 95 = .ok (.ireturn, 1) := by decide +kernel
theorem dX12_heap_0 : decode cX12_heap 0 = .ok (.aload_n 0, 1) := by decide +kernel
theorem dX12_heap_1 : decode cX12_heap 1 = .ok (.iconst 0, 1) := by decide +kernel
theorem dX12_heap_2 : decode cX12_heap 2 = .ok (.putfield 77, 3) := by decide +kernel
theorem dX12_heap_5 : decode cX12_heap 5 = .ok (.aload_n 0, 1) := by decide +kernel
theorem dX12_heap_6 : decode cX12_heap 6 = .ok (.iload_n 1, 1) := by decide +kernel
theorem dX12_heap_7 : decode cX12_heap 7 = .ok (.invokevirtual 94, 3) := by decide +kernel
theorem dX12_heap_10 : decode cX12_heap 10 = .ok (.ifCond .eq 12, 3) := by decide +kernel
theorem dX12_heap_13 : decode cX12_heap 13 = .ok (.aload_n 0, 1) := by decide +kernel
theorem dX12_heap_14 : decode cX12_heap 14 = .ok (.getfield 26, 3) := by decide +kernel
theorem dX12_heap_17 : decode cX12_heap 17 = .ok (.iload_n 1, 1) := by decide +kernel
theorem dX12_heap_18 : decode cX12_heap 18 = .ok (.iaload, 1) := by decide +kernel
theorem dX12_heap_19 : decode cX12_heap 19 = .ok (.goto 8, 3) := by decide +kernel
theorem dX12_heap_22 : decode cX12_heap 22 = .ok (.aload_n 0, 1) := by decide +kernel
theorem dX12_heap_23 : decode cX12_heap 23 = .ok (.iconst 1, 1) := by decide +kernel
theorem dX12_heap_24 : decode cX12_heap 24 = .ok (.invokevirtual 98, 3) := by decide +kernel
theorem dX12_heap_27 : decode cX12_heap 27 = .ok (.ireturn, 1) := by decide +kernel
theorem dX12_pair_0 : decode cX12_pair 0 = .ok (.aload_n 0, 1) := by decide +kernel
theorem dX12_pair_1 : decode cX12_pair 1 = .ok (.iconst 0, 1) := by decide +kernel
theorem dX12_pair_2 : decode cX12_pair 2 = .ok (.putfield 77, 3) := by decide +kernel
theorem dX12_pair_5 : decode cX12_pair 5 = .ok (.aload_n 0, 1) := by decide +kernel
theorem dX12_pair_6 : decode cX12_pair 6 = .ok (.iload_n 1, 1) := by decide +kernel
theorem dX12_pair_7 : decode cX12_pair 7 = .ok (.invokevirtual 94, 3) := by decide +kernel
theorem dX12_pair_10 : decode cX12_pair 10 = .ok (.ifCond .eq 20, 3) := by decide +kernel
theorem dX12_pair_13 : decode cX12_pair 13 = .ok (.aload_n 0, 1) := by decide +kernel
theorem dX12_pair_14 : decode cX12_pair 14 = .ok (.iload_n 2, 1) := by decide +kernel
theorem dX12_pair_15 : decode cX12_pair 15 = .ok (.invokevirtual 94, 3) := by decide +kernel
theorem dX12_pair_18 : decode cX12_pair 18 = .ok (.ifCond .eq 12, 3) := by decide +kernel
theorem dX12_pair_21 : decode cX12_pair 21 = .ok (.iload_n 3, 1) := by decide +kernel
theorem dX12_pair_22 : decode cX12_pair 22 = .ok (.ifCond .lt 8, 3) := by decide +kernel
theorem dX12_pair_25 : decode cX12_pair 25 = .ok (.iload_n 3, 1) := by decide +kernel
theorem dX12_pair_26 : decode cX12_pair 26 = .ok (.iconst 2, 1) := by decide +kernel
theorem dX12_pair_27 : decode cX12_pair 27 = .ok (.if_icmp .le 9, 3) := by decide +kernel
theorem dX12_pair_30 : decode cX12_pair 30 = .ok (.aload_n 0, 1) := by decide +kernel
theorem dX12_pair_31 : decode cX12_pair 31 = .ok (.iconst 1, 1) := by decide +kernel
theorem dX12_pair_32 : decode cX12_pair 32 = .ok (.invokevirtual 98, 3) := by decide +kernel
theorem dX12_pair_35 : decode cX12_pair 35 = .ok (.ireturn, 1) := by decide +kernel
theorem dX12_pair_36 : decode cX12_pair 36 = .ok (.bipush 12, 2) := by decide +kernel
theorem dX12_pair_38 : decode cX12_pair 38 = .ok (.iload_n 1, 1) := by decide +kernel
theorem dX12_pair_39 : decode cX12_pair 39 = .ok (.imul, 1) := by decide +kernel
theorem dX12_pair_40 : decode cX12_pair 40 = .ok (.iload_n 2, 1) := by decide +kernel
theorem dX12_pair_41 : decode cX12_pair 41 = .ok (.iadd, 1) := by decide +kernel
theorem dX12_pair_42 : decode cX12_pair 42 = .ok (.istore 4, 2) := by decide +kernel
theorem dX12_pair_44 : decode cX12_pair 44 = .ok (.iload_n 1, 1) := by decide +kernel
theorem dX12_pair_45 : decode cX12_pair 45 = .ok (.iload_n 2, 1) := by decide +kernel
theorem dX12_pair_46 : decode cX12_pair 46 = .ok (.if_icmp .ne 7, 3) := by decide +kernel
theorem dX12_pair_49 : decode cX12_pair 49 = .ok (.iconst 0, 1) := by decide +kernel
theorem dX12_pair_50 : decode cX12_pair 50 = .ok (.goto 47, 3) := by decide +kernel
theorem dX12_pair_53 : decode cX12_pair 53 = .ok (.iload_n 3, 1) := by decide +kernel
theorem dX12_pair_54 : decode cX12_pair 54 = .ok (.ifCond .ne 13, 3) := by decide +kernel
theorem dX12_pair_57 : decode cX12_pair 57 = .ok (.aload_n 0, 1) := by decide +kernel
theorem dX12_pair_58 : decode cX12_pair 58 = .ok (.getfield 16, 3) := by decide +kernel
theorem dX12_pair_61 : decode cX12_pair 61 = .ok (.iload 4, 2) := by decide +kernel
theorem dX12_pair_63 : decode cX12_pair 63 = .ok (.iaload, 1) := by decide +kernel
theorem dX12_pair_64 : decode cX12_pair 64 = .ok (.goto 33, 3) := by decide +kernel
theorem dX12_pair_67 : decode cX12_pair 67 = .ok (.iload_n 3, 1) := by decide +kernel
theorem dX12_pair_68 : decode cX12_pair 68 = .ok (.iconst 1, 1) := by decide +kernel
theorem dX12_pair_69 : decode cX12_pair 69 = .ok (.if_icmp .ne 13, 3) := by decide +kernel
theorem dX12_pair_72 : decode cX12_pair 72 = .ok (.aload_n 0, 1) := by decide +kernel
theorem dX12_pair_73 : decode cX12_pair 73 = .ok (.getfield 19, 3) := by decide +kernel
theorem dX12_pair_76 : decode cX12_pair 76 = .ok (.iload 4, 2) := by decide +kernel
theorem dX12_pair_78 : decode cX12_pair 78 = .ok (.iaload, 1) := by decide +kernel
theorem dX12_pair_79 : decode cX12_pair 79 = .ok (.goto 18, 3) := by decide +kernel
theorem dX12_pair_82 : decode cX12_pair 82 = .ok (.aload_n 0, 1) := by decide +kernel
theorem dX12_pair_83 : decode cX12_pair 83 = .ok (.getfield 22, 3) := by decide +kernel
theorem dX12_pair_86 : decode cX12_pair 86 = .ok (.iload 4, 2) := by decide +kernel
theorem dX12_pair_88 : decode cX12_pair 88 = .ok (.baload, 1) := by decide +kernel
theorem dX12_pair_89 : decode cX12_pair 89 = .ok (.ifCond .eq 7, 3) := by decide +kernel
theorem dX12_pair_92 : decode cX12_pair 92 = .ok (.iconst 1, 1) := by decide +kernel
theorem dX12_pair_93 : decode cX12_pair 93 = .ok (.goto 4, 3) := by decide +kernel
theorem dX12_pair_96 : decode cX12_pair 96 = .ok (.iconst 0, 1) := by decide +kernel
theorem dX12_pair_97 : decode cX12_pair 97 = .ok (.ireturn, 1) := by decide +kernel
theorem dX12_isGoal_0 : decode cX12_isGoal 0 = .ok (.iload_n 0, 1) := by decide +kernel
theorem dX12_isGoal_1 : decode cX12_isGoal 1 = .ok (.ifCond .lt 12, 3) := by decide +kernel
theorem dX12_isGoal_4 : decode cX12_isGoal 4 = .ok (.iload_n 0, 1) := by decide +kernel
theorem dX12_isGoal_5 : decode cX12_isGoal 5 = .ok (.iconst 4, 1) := by decide +kernel
theorem dX12_isGoal_6 : decode cX12_isGoal 6 = .ok (.if_icmp .ge 7, 3) := by decide +kernel
theorem dX12_isGoal_9 : decode cX12_isGoal 9 = .ok (.iconst 1, 1) := by decide +kernel
theorem dX12_isGoal_10 : decode cX12_isGoal 10 = .ok (.goto 4, 3) := by decide +kernel
theorem dX12_isGoal_13 : decode cX12_isGoal 13 = .ok (.iconst 0, 1) := by decide +kernel
theorem dX12_isGoal_14 : decode cX12_isGoal 14 = .ok (.ireturn, 1) := by decide +kernel
theorem dX12_cost_0 : decode cX12_cost 0 = .ok (.aload_n 0, 1) := by decide +kernel
theorem dX12_cost_1 : decode cX12_cost 1 = .ok (.iconst 0, 1) := by decide +kernel
theorem dX12_cost_2 : decode cX12_cost 2 = .ok (.putfield 77, 3) := by decide +kernel
theorem dX12_cost_5 : decode cX12_cost 5 = .ok (.iload_n 1, 1) := by decide +kernel
theorem dX12_cost_6 : decode cX12_cost 6 = .ok (.invokestatic 157, 3) := by decide +kernel
theorem dX12_cost_9 : decode cX12_cost 9 = .ok (.ifCond .ne 10, 3) := by decide +kernel
theorem dX12_cost_12 : decode cX12_cost 12 = .ok (.aload_n 0, 1) := by decide +kernel
theorem dX12_cost_13 : decode cX12_cost 13 = .ok (.iconst 1, 1) := by decide +kernel
theorem dX12_cost_14 : decode cX12_cost 14 = .ok (.invokevirtual 98, 3) := by decide +kernel
theorem dX12_cost_17 : decode cX12_cost 17 = .ok (.i2l, 1) := by decide +kernel
theorem dX12_cost_18 : decode cX12_cost 18 = .ok (.lreturn, 1) := by decide +kernel
theorem dX12_cost_19 : decode cX12_cost 19 = .ok (.aload_n 0, 1) := by decide +kernel
theorem dX12_cost_20 : decode cX12_cost 20 = .ok (.invokevirtual 160, 3) := by decide +kernel
theorem dX12_cost_23 : decode cX12_cost 23 = .ok (.aload_n 0, 1) := by decide +kernel
theorem dX12_cost_24 : decode cX12_cost 24 = .ok (.aload_n 0, 1) := by decide +kernel
theorem dX12_cost_25 : decode cX12_cost 25 = .ok (.getfield 26, 3) := by decide +kernel
theorem dX12_cost_28 : decode cX12_cost 28 = .ok (.iload_n 1, 1) := by decide +kernel
theorem dX12_cost_29 : decode cX12_cost 29 = .ok (.invokevirtual 163, 3) := by decide +kernel
theorem dX12_cost_32 : decode cX12_cost 32 = .ok (.lreturn, 1) := by decide +kernel
theorem dX12_middle_0 : decode cX12_middle 0 = .ok (.aload_n 0, 1) := by decide +kernel
theorem dX12_middle_1 : decode cX12_middle 1 = .ok (.iconst 0, 1) := by decide +kernel
theorem dX12_middle_2 : decode cX12_middle 2 = .ok (.putfield 77, 3) := by decide +kernel
theorem dX12_middle_5 : decode cX12_middle 5 = .ok (.iload_n 1, 1) := by decide +kernel
theorem dX12_middle_6 : decode cX12_middle 6 = .ok (.ifCond .lt 15, 3) := by decide +kernel
theorem dX12_middle_9 : decode cX12_middle 9 = .ok (.iload_n 1, 1) := by decide +kernel
theorem dX12_middle_10 : decode cX12_middle 10 = .ok (.aload_n 0, 1) := by decide +kernel
theorem dX12_middle_11 : decode cX12_middle 11 = .ok (.aload_n 0, 1) := by decide +kernel
theorem dX12_middle_12 : decode cX12_middle 12 = .ok (.getfield 26, 3) := by decide +kernel
theorem dX12_middle_15 : decode cX12_middle 15 = .ok (.invokevirtual 133, 3) := by decide +kernel
theorem dX12_middle_18 : decode cX12_middle 18 = .ok (.if_icmp .lt 9, 3) := by decide +kernel
theorem dX12_middle_21 : decode cX12_middle 21 = .ok (.aload_n 0, 1) := by decide +kernel
theorem dX12_middle_22 : decode cX12_middle 22 = .ok (.iconst 1, 1) := by decide +kernel
theorem dX12_middle_23 : decode cX12_middle 23 = .ok (.invokevirtual 98, 3) := by decide +kernel
theorem dX12_middle_26 : decode cX12_middle 26 = .ok (.ireturn, 1) := by decide +kernel
theorem dX12_middle_27 : decode cX12_middle 27 = .ok (.aload_n 0, 1) := by decide +kernel
theorem dX12_middle_28 : decode cX12_middle 28 = .ok (.invokevirtual 160, 3) := by decide +kernel
theorem dX12_middle_31 : decode cX12_middle 31 = .ok (.aload_n 0, 1) := by decide +kernel
theorem dX12_middle_32 : decode cX12_middle 32 = .ok (.aload_n 0, 1) := by decide +kernel
theorem dX12_middle_33 : decode cX12_middle 33 = .ok (.getfield 26, 3) := by decide +kernel
theorem dX12_middle_36 : decode cX12_middle 36 = .ok (.iload_n 1, 1) := by decide +kernel
theorem dX12_middle_37 : decode cX12_middle 37 = .ok (.invokevirtual 137, 3) := by decide +kernel
theorem dX12_middle_40 : decode cX12_middle 40 = .ok (.ireturn, 1) := by decide +kernel
theorem dX12_search_0 : decode cX12_search 0 = .ok (.iconst 0, 1) := by decide +kernel
theorem dX12_search_1 : decode cX12_search 1 = .ok (.istore 4, 2) := by decide +kernel
theorem dX12_search_3 : decode cX12_search 3 = .ok (.iload 4, 2) := by decide +kernel
theorem dX12_search_5 : decode cX12_search 5 = .ok (.aload_n 0, 1) := by decide +kernel
theorem dX12_search_6 : decode cX12_search 6 = .ok (.invokevirtual 90, 3) := by decide +kernel
theorem dX12_search_9 : decode cX12_search 9 = .ok (.if_icmp .ge 17, 3) := by decide +kernel
theorem dX12_search_12 : decode cX12_search 12 = .ok (.aload_n 0, 1) := by decide +kernel
theorem dX12_search_13 : decode cX12_search 13 = .ok (.getfield 58, 3) := by decide +kernel
theorem dX12_search_16 : decode cX12_search 16 = .ok (.iload 4, 2) := by decide +kernel
theorem dX12_search_18 : decode cX12_search 18 = .ok (.iconst 0, 1) := by decide +kernel
theorem dX12_search_19 : decode cX12_search 19 = .ok (.iastore, 1) := by decide +kernel
theorem dX12_search_20 : decode cX12_search 20 = .ok (.iinc 4 1, 3) := by decide +kernel
theorem dX12_search_23 : decode cX12_search 23 = .ok (.goto (-20), 3) := by decide +kernel
theorem dX12_search_26 : decode cX12_search 26 = .ok (.ldc2_w 167, 3) := by decide +kernel
theorem dX12_search_29 : decode cX12_search 29 = .ok (.lstore 4, 2) := by decide +kernel
theorem dX12_search_31 : decode cX12_search 31 = .ok (.iconst 1, 1) := by decide +kernel
theorem dX12_search_32 : decode cX12_search 32 = .ok (.istore 6, 2) := by decide +kernel
theorem dX12_search_34 : decode cX12_search 34 = .ok (.iload 6, 2) := by decide +kernel
theorem dX12_search_36 : decode cX12_search 36 = .ok (.ifCond .eq 96, 3) := by decide +kernel
theorem dX12_search_39 : decode cX12_search 39 = .ok (.aload_n 0, 1) := by decide +kernel
theorem dX12_search_40 : decode cX12_search 40 = .ok (.aload_n 0, 1) := by decide +kernel
theorem dX12_search_41 : decode cX12_search 41 = .ok (.getfield 58, 3) := by decide +kernel
theorem dX12_search_44 : decode cX12_search 44 = .ok (.invokevirtual 133, 3) := by decide +kernel
theorem dX12_search_47 : decode cX12_search 47 = .ok (.istore 7, 2) := by decide +kernel
theorem dX12_search_49 : decode cX12_search 49 = .ok (.iload 7, 2) := by decide +kernel
theorem dX12_search_51 : decode cX12_search 51 = .ok (.iload_n 2, 1) := by decide +kernel
theorem dX12_search_52 : decode cX12_search 52 = .ok (.if_icmp .lt 71, 3) := by decide +kernel
theorem dX12_search_55 : decode cX12_search 55 = .ok (.iload 7, 2) := by decide +kernel
theorem dX12_search_57 : decode cX12_search 57 = .ok (.iload_n 3, 1) := by decide +kernel
theorem dX12_search_58 : decode cX12_search 58 = .ok (.if_icmp .gt 65, 3) := by decide +kernel
theorem dX12_search_61 : decode cX12_search 61 = .ok (.aload_n 0, 1) := by decide +kernel
theorem dX12_search_62 : decode cX12_search 62 = .ok (.aload_n 0, 1) := by decide +kernel
theorem dX12_search_63 : decode cX12_search 63 = .ok (.getfield 58, 3) := by decide +kernel
theorem dX12_search_66 : decode cX12_search 66 = .ok (.iload_n 1, 1) := by decide +kernel
theorem dX12_search_67 : decode cX12_search 67 = .ok (.invokevirtual 163, 3) := by decide +kernel
theorem dX12_search_70 : decode cX12_search 70 = .ok (.lstore 8, 2) := by decide +kernel
theorem dX12_search_72 : decode cX12_search 72 = .ok (.lload 4, 2) := by decide +kernel
theorem dX12_search_74 : decode cX12_search 74 = .ok (.lconst 0, 1) := by decide +kernel
theorem dX12_search_75 : decode cX12_search 75 = .ok (.lcmp, 1) := by decide +kernel
theorem dX12_search_76 : decode cX12_search 76 = .ok (.ifCond .lt 11, 3) := by decide +kernel
theorem dX12_search_79 : decode cX12_search 79 = .ok (.lload 8, 2) := by decide +kernel
theorem dX12_search_81 : decode cX12_search 81 = .ok (.lload 4, 2) := by decide +kernel
theorem dX12_search_83 : decode cX12_search 83 = .ok (.lcmp, 1) := by decide +kernel
theorem dX12_search_84 : decode cX12_search 84 = .ok (.ifCond .ge 39, 3) := by decide +kernel
theorem dX12_search_87 : decode cX12_search 87 = .ok (.lload 8, 2) := by decide +kernel
theorem dX12_search_89 : decode cX12_search 89 = .ok (.lstore 4, 2) := by decide +kernel
theorem dX12_search_91 : decode cX12_search 91 = .ok (.iconst 0, 1) := by decide +kernel
theorem dX12_search_92 : decode cX12_search 92 = .ok (.istore 10, 2) := by decide +kernel
theorem dX12_search_94 : decode cX12_search 94 = .ok (.iload 10, 2) := by decide +kernel
theorem dX12_search_96 : decode cX12_search 96 = .ok (.aload_n 0, 1) := by decide +kernel
theorem dX12_search_97 : decode cX12_search 97 = .ok (.invokevirtual 90, 3) := by decide +kernel
theorem dX12_search_100 : decode cX12_search 100 = .ok (.if_icmp .ge 23, 3) := by decide +kernel
theorem dX12_search_103 : decode cX12_search 103 = .ok (.aload_n 0, 1) := by decide +kernel
theorem dX12_search_104 : decode cX12_search 104 = .ok (.getfield 61, 3) := by decide +kernel
theorem dX12_search_107 : decode cX12_search 107 = .ok (.iload 10, 2) := by decide +kernel
theorem dX12_search_109 : decode cX12_search 109 = .ok (.aload_n 0, 1) := by decide +kernel
theorem dX12_search_110 : decode cX12_search 110 = .ok (.getfield 58, 3) := by decide +kernel
theorem dX12_search_113 : decode cX12_search 113 = .ok (.iload 10, 2) := by decide +kernel
theorem dX12_search_115 : decode cX12_search 115 = .ok (.iaload, 1) := by decide +kernel
theorem dX12_search_116 : decode cX12_search 116 = .ok (.iastore, 1) := by decide +kernel
theorem dX12_search_117 : decode cX12_search 117 = .ok (.iinc 10 1, 3) := by decide +kernel
theorem dX12_search_120 : decode cX12_search 120 = .ok (.goto (-26), 3) := by decide +kernel
theorem dX12_search_123 : decode cX12_search 123 = .ok (.aload_n 0, 1) := by decide +kernel
theorem dX12_search_124 : decode cX12_search 124 = .ok (.invokevirtual 169, 3) := by decide +kernel
theorem dX12_search_127 : decode cX12_search 127 = .ok (.istore 6, 2) := by decide +kernel
theorem dX12_search_129 : decode cX12_search 129 = .ok (.goto (-95), 3) := by decide +kernel
theorem dX12_search_132 : decode cX12_search 132 = .ok (.lload 4, 2) := by decide +kernel
theorem dX12_search_134 : decode cX12_search 134 = .ok (.lreturn, 1) := by decide +kernel
theorem dX12_best_0 : decode cX12_best 0 = .ok (.aload_n 0, 1) := by decide +kernel
theorem dX12_best_1 : decode cX12_best 1 = .ok (.iconst 0, 1) := by decide +kernel
theorem dX12_best_2 : decode cX12_best 2 = .ok (.putfield 77, 3) := by decide +kernel
theorem dX12_best_5 : decode cX12_best 5 = .ok (.iload_n 1, 1) := by decide +kernel
theorem dX12_best_6 : decode cX12_best 6 = .ok (.invokestatic 157, 3) := by decide +kernel
theorem dX12_best_9 : decode cX12_best 9 = .ok (.ifCond .eq 15, 3) := by decide +kernel
theorem dX12_best_12 : decode cX12_best 12 = .ok (.iload_n 2, 1) := by decide +kernel
theorem dX12_best_13 : decode cX12_best 13 = .ok (.ifCond .lt 11, 3) := by decide +kernel
theorem dX12_best_16 : decode cX12_best 16 = .ok (.iload_n 2, 1) := by decide +kernel
theorem dX12_best_17 : decode cX12_best 17 = .ok (.aload_n 0, 1) := by decide +kernel
theorem dX12_best_18 : decode cX12_best 18 = .ok (.invokevirtual 90, 3) := by decide +kernel
theorem dX12_best_21 : decode cX12_best 21 = .ok (.if_icmp .le 10, 3) := by decide +kernel
theorem dX12_best_24 : decode cX12_best 24 = .ok (.aload_n 0, 1) := by decide +kernel
theorem dX12_best_25 : decode cX12_best 25 = .ok (.iconst 1, 1) := by decide +kernel
theorem dX12_best_26 : decode cX12_best 26 = .ok (.invokevirtual 98, 3) := by decide +kernel
theorem dX12_best_29 : decode cX12_best 29 = .ok (.i2l, 1) := by decide +kernel
theorem dX12_best_30 : decode cX12_best 30 = .ok (.lreturn, 1) := by decide +kernel
theorem dX12_best_31 : decode cX12_best 31 = .ok (.aload_n 0, 1) := by decide +kernel
theorem dX12_best_32 : decode cX12_best 32 = .ok (.invokevirtual 90, 3) := by decide +kernel
theorem dX12_best_35 : decode cX12_best 35 = .ok (.bipush 9, 2) := by decide +kernel
theorem dX12_best_37 : decode cX12_best 37 = .ok (.if_icmp .le 10, 3) := by decide +kernel
theorem dX12_best_40 : decode cX12_best 40 = .ok (.aload_n 0, 1) := by decide +kernel
theorem dX12_best_41 : decode cX12_best 41 = .ok (.iconst 3, 1) := by decide +kernel
theorem dX12_best_42 : decode cX12_best 42 = .ok (.invokevirtual 98, 3) := by decide +kernel
theorem dX12_best_45 : decode cX12_best 45 = .ok (.i2l, 1) := by decide +kernel
theorem dX12_best_46 : decode cX12_best 46 = .ok (.lreturn, 1) := by decide +kernel
theorem dX12_best_47 : decode cX12_best 47 = .ok (.aload_n 0, 1) := by decide +kernel
theorem dX12_best_48 : decode cX12_best 48 = .ok (.invokevirtual 102, 3) := by decide +kernel
theorem dX12_best_51 : decode cX12_best 51 = .ok (.aload_n 0, 1) := by decide +kernel
theorem dX12_best_52 : decode cX12_best 52 = .ok (.invokevirtual 160, 3) := by decide +kernel
theorem dX12_best_55 : decode cX12_best 55 = .ok (.aload_n 0, 1) := by decide +kernel
theorem dX12_best_56 : decode cX12_best 56 = .ok (.iload_n 1, 1) := by decide +kernel
theorem dX12_best_57 : decode cX12_best 57 = .ok (.iload_n 2, 1) := by decide +kernel
theorem dX12_best_58 : decode cX12_best 58 = .ok (.ifCond .ne 7, 3) := by decide +kernel
theorem dX12_best_61 : decode cX12_best 61 = .ok (.iconst 1, 1) := by decide +kernel
theorem dX12_best_62 : decode cX12_best 62 = .ok (.goto 4, 3) := by decide +kernel
theorem dX12_best_65 : decode cX12_best 65 = .ok (.iload_n 2, 1) := by decide +kernel
theorem dX12_best_66 : decode cX12_best 66 = .ok (.iload_n 2, 1) := by decide +kernel
theorem dX12_best_67 : decode cX12_best 67 = .ok (.ifCond .ne 10, 3) := by decide +kernel
theorem dX12_best_70 : decode cX12_best 70 = .ok (.aload_n 0, 1) := by decide +kernel
theorem dX12_best_71 : decode cX12_best 71 = .ok (.invokevirtual 90, 3) := by decide +kernel
theorem dX12_best_74 : decode cX12_best 74 = .ok (.goto 4, 3) := by decide +kernel
theorem dX12_best_77 : decode cX12_best 77 = .ok (.iload_n 2, 1) := by decide +kernel
theorem dX12_best_78 : decode cX12_best 78 = .ok (.invokevirtual 173, 3) := by decide +kernel
theorem dX12_best_81 : decode cX12_best 81 = .ok (.lstore_n 3, 1) := by decide +kernel
theorem dX12_best_82 : decode cX12_best 82 = .ok (.aload_n 0, 1) := by decide +kernel
theorem dX12_best_83 : decode cX12_best 83 = .ok (.aload_n 0, 1) := by decide +kernel
theorem dX12_best_84 : decode cX12_best 84 = .ok (.getfield 61, 3) := by decide +kernel
theorem dX12_best_87 : decode cX12_best 87 = .ok (.invokevirtual 150, 3) := by decide +kernel
theorem dX12_best_90 : decode cX12_best 90 = .ok (.lload_n 3, 1) := by decide +kernel
theorem dX12_best_91 : decode cX12_best 91 = .ok (.lreturn, 1) := by decide +kernel
theorem dX12_line_0 : decode cX12_line 0 = .ok (.aload_n 0, 1) := by decide +kernel
theorem dX12_line_1 : decode cX12_line 1 = .ok (.iconst 0, 1) := by decide +kernel
theorem dX12_line_2 : decode cX12_line 2 = .ok (.putfield 77, 3) := by decide +kernel
theorem dX12_line_5 : decode cX12_line 5 = .ok (.iload_n 1, 1) := by decide +kernel
theorem dX12_line_6 : decode cX12_line 6 = .ok (.ifCond .lt 21, 3) := by decide +kernel
theorem dX12_line_9 : decode cX12_line 9 = .ok (.iload_n 1, 1) := by decide +kernel
theorem dX12_line_10 : decode cX12_line 10 = .ok (.iconst 2, 1) := by decide +kernel
theorem dX12_line_11 : decode cX12_line 11 = .ok (.if_icmp .gt 16, 3) := by decide +kernel
theorem dX12_line_14 : decode cX12_line 14 = .ok (.iload_n 2, 1) := by decide +kernel
theorem dX12_line_15 : decode cX12_line 15 = .ok (.iconst 1, 1) := by decide +kernel
theorem dX12_line_16 : decode cX12_line 16 = .ok (.if_icmp .lt 11, 3) := by decide +kernel
theorem dX12_line_19 : decode cX12_line 19 = .ok (.iload_n 2, 1) := by decide +kernel
theorem dX12_line_20 : decode cX12_line 20 = .ok (.aload_n 0, 1) := by decide +kernel
theorem dX12_line_21 : decode cX12_line 21 = .ok (.invokevirtual 90, 3) := by decide +kernel
theorem dX12_line_24 : decode cX12_line 24 = .ok (.if_icmp .le 10, 3) := by decide +kernel
theorem dX12_line_27 : decode cX12_line 27 = .ok (.aload_n 0, 1) := by decide +kernel
theorem dX12_line_28 : decode cX12_line 28 = .ok (.iconst 1, 1) := by decide +kernel
theorem dX12_line_29 : decode cX12_line 29 = .ok (.invokevirtual 98, 3) := by decide +kernel
theorem dX12_line_32 : decode cX12_line 32 = .ok (.i2l, 1) := by decide +kernel
theorem dX12_line_33 : decode cX12_line 33 = .ok (.lreturn, 1) := by decide +kernel
theorem dX12_line_34 : decode cX12_line 34 = .ok (.aload_n 0, 1) := by decide +kernel
theorem dX12_line_35 : decode cX12_line 35 = .ok (.invokevirtual 102, 3) := by decide +kernel
theorem dX12_line_38 : decode cX12_line 38 = .ok (.iconst 0, 1) := by decide +kernel
theorem dX12_line_39 : decode cX12_line 39 = .ok (.istore_n 3, 1) := by decide +kernel
theorem dX12_line_40 : decode cX12_line 40 = .ok (.iload_n 3, 1) := by decide +kernel
theorem dX12_line_41 : decode cX12_line 41 = .ok (.aload_n 0, 1) := by decide +kernel
theorem dX12_line_42 : decode cX12_line 42 = .ok (.invokevirtual 90, 3) := by decide +kernel
theorem dX12_line_45 : decode cX12_line 45 = .ok (.if_icmp .ge 60, 3) := by decide +kernel
theorem dX12_line_48 : decode cX12_line 48 = .ok (.iconst 0, 1) := by decide +kernel
theorem dX12_line_49 : decode cX12_line 49 = .ok (.istore 4, 2) := by decide +kernel
theorem dX12_line_51 : decode cX12_line 51 = .ok (.iload 4, 2) := by decide +kernel
theorem dX12_line_53 : decode cX12_line 53 = .ok (.aload_n 0, 1) := by decide +kernel
theorem dX12_line_54 : decode cX12_line 54 = .ok (.invokevirtual 90, 3) := by decide +kernel
theorem dX12_line_57 : decode cX12_line 57 = .ok (.if_icmp .ge 42, 3) := by decide +kernel
theorem dX12_line_60 : decode cX12_line 60 = .ok (.aload_n 0, 1) := by decide +kernel
theorem dX12_line_61 : decode cX12_line 61 = .ok (.getfield 67, 3) := by decide +kernel
theorem dX12_line_64 : decode cX12_line 64 = .ok (.bipush 12, 2) := by decide +kernel
theorem dX12_line_66 : decode cX12_line 66 = .ok (.iload_n 3, 1) := by decide +kernel
theorem dX12_line_67 : decode cX12_line 67 = .ok (.imul, 1) := by decide +kernel
theorem dX12_line_68 : decode cX12_line 68 = .ok (.iload 4, 2) := by decide +kernel
theorem dX12_line_70 : decode cX12_line 70 = .ok (.iadd, 1) := by decide +kernel
theorem dX12_line_71 : decode cX12_line 71 = .ok (.aload_n 0, 1) := by decide +kernel
theorem dX12_line_72 : decode cX12_line 72 = .ok (.getfield 13, 3) := by decide +kernel
theorem dX12_line_75 : decode cX12_line 75 = .ok (.iconst 4, 1) := by decide +kernel
theorem dX12_line_76 : decode cX12_line 76 = .ok (.iload_n 3, 1) := by decide +kernel
theorem dX12_line_77 : decode cX12_line 77 = .ok (.imul, 1) := by decide +kernel
theorem dX12_line_78 : decode cX12_line 78 = .ok (.iaload, 1) := by decide +kernel
theorem dX12_line_79 : decode cX12_line 79 = .ok (.aload_n 0, 1) := by decide +kernel
theorem dX12_line_80 : decode cX12_line 80 = .ok (.getfield 13, 3) := by decide +kernel
theorem dX12_line_83 : decode cX12_line 83 = .ok (.iconst 4, 1) := by decide +kernel
theorem dX12_line_84 : decode cX12_line 84 = .ok (.iload 4, 2) := by decide +kernel
theorem dX12_line_86 : decode cX12_line 86 = .ok (.imul, 1) := by decide +kernel
theorem dX12_line_87 : decode cX12_line 87 = .ok (.iaload, 1) := by decide +kernel
theorem dX12_line_88 : decode cX12_line 88 = .ok (.isub, 1) := by decide +kernel
theorem dX12_line_89 : decode cX12_line 89 = .ok (.invokestatic 120, 3) := by decide +kernel
theorem dX12_line_92 : decode cX12_line 92 = .ok (.iastore, 1) := by decide +kernel
theorem dX12_line_93 : decode cX12_line 93 = .ok (.iinc 4 1, 3) := by decide +kernel
theorem dX12_line_96 : decode cX12_line 96 = .ok (.goto (-45), 3) := by decide +kernel
theorem dX12_line_99 : decode cX12_line 99 = .ok (.iinc 3 1, 3) := by decide +kernel
theorem dX12_line_102 : decode cX12_line 102 = .ok (.goto (-62), 3) := by decide +kernel
theorem dX12_line_105 : decode cX12_line 105 = .ok (.iconst 0, 1) := by decide +kernel
theorem dX12_line_106 : decode cX12_line 106 = .ok (.istore_n 3, 1) := by decide +kernel
theorem dX12_line_107 : decode cX12_line 107 = .ok (.iload_n 3, 1) := by decide +kernel
theorem dX12_line_108 : decode cX12_line 108 = .ok (.aload_n 0, 1) := by decide +kernel
theorem dX12_line_109 : decode cX12_line 109 = .ok (.invokevirtual 90, 3) := by decide +kernel
theorem dX12_line_112 : decode cX12_line 112 = .ok (.if_icmp .ge 74, 3) := by decide +kernel
theorem dX12_line_115 : decode cX12_line 115 = .ok (.iload_n 3, 1) := by decide +kernel
theorem dX12_line_116 : decode cX12_line 116 = .ok (.istore 4, 2) := by decide +kernel
theorem dX12_line_118 : decode cX12_line 118 = .ok (.iload 4, 2) := by decide +kernel
theorem dX12_line_120 : decode cX12_line 120 = .ok (.ifCond .le 52, 3) := by decide +kernel
theorem dX12_line_123 : decode cX12_line 123 = .ok (.aload_n 0, 1) := by decide +kernel
theorem dX12_line_124 : decode cX12_line 124 = .ok (.getfield 13, 3) := by decide +kernel
theorem dX12_line_127 : decode cX12_line 127 = .ok (.iconst 4, 1) := by decide +kernel
theorem dX12_line_128 : decode cX12_line 128 = .ok (.aload_n 0, 1) := by decide +kernel
theorem dX12_line_129 : decode cX12_line 129 = .ok (.getfield 70, 3) := by decide +kernel
theorem dX12_line_132 : decode cX12_line 132 = .ok (.iload 4, 2) := by decide +kernel
theorem dX12_line_134 : decode cX12_line 134 = .ok (.iconst 1, 1) := by decide +kernel
theorem dX12_line_135 : decode cX12_line 135 = .ok (.isub, 1) := by decide +kernel
theorem dX12_line_136 : decode cX12_line 136 = .ok (.iaload, 1) := by decide +kernel
theorem dX12_line_137 : decode cX12_line 137 = .ok (.imul, 1) := by decide +kernel
theorem dX12_line_138 : decode cX12_line 138 = .ok (.iaload, 1) := by decide +kernel
theorem dX12_line_139 : decode cX12_line 139 = .ok (.aload_n 0, 1) := by decide +kernel
theorem dX12_line_140 : decode cX12_line 140 = .ok (.getfield 13, 3) := by decide +kernel
theorem dX12_line_143 : decode cX12_line 143 = .ok (.iconst 4, 1) := by decide +kernel
theorem dX12_line_144 : decode cX12_line 144 = .ok (.iload_n 3, 1) := by decide +kernel
theorem dX12_line_145 : decode cX12_line 145 = .ok (.imul, 1) := by decide +kernel
theorem dX12_line_146 : decode cX12_line 146 = .ok (.iaload, 1) := by decide +kernel
theorem dX12_line_147 : decode cX12_line 147 = .ok (.if_icmp .le 25, 3) := by decide +kernel
theorem dX12_line_150 : decode cX12_line 150 = .ok (.aload_n 0, 1) := by decide +kernel
theorem dX12_line_151 : decode cX12_line 151 = .ok (.getfield 70, 3) := by decide +kernel
theorem dX12_line_154 : decode cX12_line 154 = .ok (.iload 4, 2) := by decide +kernel
theorem dX12_line_156 : decode cX12_line 156 = .ok (.aload_n 0, 1) := by decide +kernel
theorem dX12_line_157 : decode cX12_line 157 = .ok (.getfield 70, 3) := by decide +kernel
theorem dX12_line_160 : decode cX12_line 160 = .ok (.iload 4, 2) := by decide +kernel
theorem dX12_line_162 : decode cX12_line 162 = .ok (.iconst 1, 1) := by decide +kernel
theorem dX12_line_163 : decode cX12_line 163 = .ok (.isub, 1) := by decide +kernel
theorem dX12_line_164 : decode cX12_line 164 = .ok (.iaload, 1) := by decide +kernel
theorem dX12_line_165 : decode cX12_line 165 = .ok (.iastore, 1) := by decide +kernel
theorem dX12_line_166 : decode cX12_line 166 = .ok (.iinc 4 (-1), 3) := by decide +kernel
theorem dX12_line_169 : decode cX12_line 169 = .ok (.goto (-51), 3) := by decide +kernel
theorem dX12_line_172 : decode cX12_line 172 = .ok (.aload_n 0, 1) := by decide +kernel
theorem dX12_line_173 : decode cX12_line 173 = .ok (.getfield 70, 3) := by decide +kernel
theorem dX12_line_176 : decode cX12_line 176 = .ok (.iload 4, 2) := by decide +kernel
theorem dX12_line_178 : decode cX12_line 178 = .ok (.iload_n 3, 1) := by decide +kernel
theorem dX12_line_179 : decode cX12_line 179 = .ok (.iastore, 1) := by decide +kernel
theorem dX12_line_180 : decode cX12_line 180 = .ok (.iinc 3 1, 3) := by decide +kernel
theorem dX12_line_183 : decode cX12_line 183 = .ok (.goto (-76), 3) := by decide +kernel
theorem dX12_line_186 : decode cX12_line 186 = .ok (.ldc2_w 167, 3) := by decide +kernel
theorem dX12_line_189 : decode cX12_line 189 = .ok (.lstore_n 3, 1) := by decide +kernel
theorem dX12_line_190 : decode cX12_line 190 = .ok (.iconst 0, 1) := by decide +kernel
theorem dX12_line_191 : decode cX12_line 191 = .ok (.istore 5, 2) := by decide +kernel
theorem dX12_line_193 : decode cX12_line 193 = .ok (.iload 5, 2) := by decide +kernel
theorem dX12_line_195 : decode cX12_line 195 = .ok (.iconst 1, 1) := by decide +kernel
theorem dX12_line_196 : decode cX12_line 196 = .ok (.aload_n 0, 1) := by decide +kernel
theorem dX12_line_197 : decode cX12_line 197 = .ok (.invokevirtual 90, 3) := by decide +kernel
theorem dX12_line_200 : decode cX12_line 200 = .ok (.iconst 1, 1) := by decide +kernel
theorem dX12_line_201 : decode cX12_line 201 = .ok (.isub, 1) := by decide +kernel
theorem dX12_line_202 : decode cX12_line 202 = .ok (.ishl, 1) := by decide +kernel
theorem dX12_line_203 : decode cX12_line 203 = .ok (.if_icmp .ge 173, 3) := by decide +kernel
theorem dX12_line_206 : decode cX12_line 206 = .ok (.iload 5, 2) := by decide +kernel
theorem dX12_line_208 : decode cX12_line 208 = .ok (.invokestatic 177, 3) := by decide +kernel
theorem dX12_line_211 : decode cX12_line 211 = .ok (.iload_n 2, 1) := by decide +kernel
theorem dX12_line_212 : decode cX12_line 212 = .ok (.iconst 1, 1) := by decide +kernel
theorem dX12_line_213 : decode cX12_line 213 = .ok (.isub, 1) := by decide +kernel
theorem dX12_line_214 : decode cX12_line 214 = .ok (.if_icmp .eq 6, 3) := by decide +kernel
theorem dX12_line_217 : decode cX12_line 217 = .ok (.goto 153, 3) := by decide +kernel
theorem dX12_line_220 : decode cX12_line 220 = .ok (.iconst 0, 1) := by decide +kernel
theorem dX12_line_221 : decode cX12_line 221 = .ok (.istore 6, 2) := by decide +kernel
theorem dX12_line_223 : decode cX12_line 223 = .ok (.iconst 0, 1) := by decide +kernel
theorem dX12_line_224 : decode cX12_line 224 = .ok (.istore 7, 2) := by decide +kernel
theorem dX12_line_226 : decode cX12_line 226 = .ok (.iload 7, 2) := by decide +kernel
theorem dX12_line_228 : decode cX12_line 228 = .ok (.aload_n 0, 1) := by decide +kernel
theorem dX12_line_229 : decode cX12_line 229 = .ok (.invokevirtual 90, 3) := by decide +kernel
theorem dX12_line_232 : decode cX12_line 232 = .ok (.if_icmp .ge 48, 3) := by decide +kernel
theorem dX12_line_235 : decode cX12_line 235 = .ok (.aload_n 0, 1) := by decide +kernel
theorem dX12_line_236 : decode cX12_line 236 = .ok (.getfield 58, 3) := by decide +kernel
theorem dX12_line_239 : decode cX12_line 239 = .ok (.aload_n 0, 1) := by decide +kernel
theorem dX12_line_240 : decode cX12_line 240 = .ok (.getfield 70, 3) := by decide +kernel
theorem dX12_line_243 : decode cX12_line 243 = .ok (.iload 7, 2) := by decide +kernel
theorem dX12_line_245 : decode cX12_line 245 = .ok (.iaload, 1) := by decide +kernel
theorem dX12_line_246 : decode cX12_line 246 = .ok (.iload 6, 2) := by decide +kernel
theorem dX12_line_248 : decode cX12_line 248 = .ok (.iastore, 1) := by decide +kernel
theorem dX12_line_249 : decode cX12_line 249 = .ok (.iload 7, 2) := by decide +kernel
theorem dX12_line_251 : decode cX12_line 251 = .ok (.aload_n 0, 1) := by decide +kernel
theorem dX12_line_252 : decode cX12_line 252 = .ok (.invokevirtual 90, 3) := by decide +kernel
theorem dX12_line_255 : decode cX12_line 255 = .ok (.iconst 1, 1) := by decide +kernel
theorem dX12_line_256 : decode cX12_line 256 = .ok (.isub, 1) := by decide +kernel
theorem dX12_line_257 : decode cX12_line 257 = .ok (.if_icmp .ge 17, 3) := by decide +kernel
theorem dX12_line_260 : decode cX12_line 260 = .ok (.iload 5, 2) := by decide +kernel
theorem dX12_line_262 : decode cX12_line 262 = .ok (.iload 7, 2) := by decide +kernel
theorem dX12_line_264 : decode cX12_line 264 = .ok (.ishr, 1) := by decide +kernel
theorem dX12_line_265 : decode cX12_line 265 = .ok (.iconst 1, 1) := by decide +kernel
theorem dX12_line_266 : decode cX12_line 266 = .ok (.iand, 1) := by decide +kernel
theorem dX12_line_267 : decode cX12_line 267 = .ok (.iconst 1, 1) := by decide +kernel
theorem dX12_line_268 : decode cX12_line 268 = .ok (.if_icmp .ne 6, 3) := by decide +kernel
theorem dX12_line_271 : decode cX12_line 271 = .ok (.iinc 6 1, 3) := by decide +kernel
theorem dX12_line_274 : decode cX12_line 274 = .ok (.iinc 7 1, 3) := by decide +kernel
theorem dX12_line_277 : decode cX12_line 277 = .ok (.goto (-51), 3) := by decide +kernel
theorem dX12_line_280 : decode cX12_line 280 = .ok (.aload_n 0, 1) := by decide +kernel
theorem dX12_line_281 : decode cX12_line 281 = .ok (.aload_n 0, 1) := by decide +kernel
theorem dX12_line_282 : decode cX12_line 282 = .ok (.getfield 58, 3) := by decide +kernel
theorem dX12_line_285 : decode cX12_line 285 = .ok (.invokevirtual 147, 3) := by decide +kernel
theorem dX12_line_288 : decode cX12_line 288 = .ok (.pop, 1) := by decide +kernel
theorem dX12_line_289 : decode cX12_line 289 = .ok (.aload_n 0, 1) := by decide +kernel
theorem dX12_line_290 : decode cX12_line 290 = .ok (.aload_n 0, 1) := by decide +kernel
theorem dX12_line_291 : decode cX12_line 291 = .ok (.getfield 58, 3) := by decide +kernel
theorem dX12_line_294 : decode cX12_line 294 = .ok (.iload_n 1, 1) := by decide +kernel
theorem dX12_line_295 : decode cX12_line 295 = .ok (.invokevirtual 163, 3) := by decide +kernel
theorem dX12_line_298 : decode cX12_line 298 = .ok (.lstore 7, 2) := by decide +kernel
theorem dX12_line_300 : decode cX12_line 300 = .ok (.lload_n 3, 1) := by decide +kernel
theorem dX12_line_301 : decode cX12_line 301 = .ok (.lconst 0, 1) := by decide +kernel
theorem dX12_line_302 : decode cX12_line 302 = .ok (.lcmp, 1) := by decide +kernel
theorem dX12_line_303 : decode cX12_line 303 = .ok (.ifCond .lt 32, 3) := by decide +kernel
theorem dX12_line_306 : decode cX12_line 306 = .ok (.lload 7, 2) := by decide +kernel
theorem dX12_line_308 : decode cX12_line 308 = .ok (.lload_n 3, 1) := by decide +kernel
theorem dX12_line_309 : decode cX12_line 309 = .ok (.lcmp, 1) := by decide +kernel
theorem dX12_line_310 : decode cX12_line 310 = .ok (.ifCond .lt 25, 3) := by decide +kernel
theorem dX12_line_313 : decode cX12_line 313 = .ok (.lload 7, 2) := by decide +kernel
theorem dX12_line_315 : decode cX12_line 315 = .ok (.lload_n 3, 1) := by decide +kernel
theorem dX12_line_316 : decode cX12_line 316 = .ok (.lcmp, 1) := by decide +kernel
theorem dX12_line_317 : decode cX12_line 317 = .ok (.ifCond .ne 53, 3) := by decide +kernel
theorem dX12_line_320 : decode cX12_line 320 = .ok (.aload_n 0, 1) := by decide +kernel
theorem dX12_line_321 : decode cX12_line 321 = .ok (.aload_n 0, 1) := by decide +kernel
theorem dX12_line_322 : decode cX12_line 322 = .ok (.getfield 58, 3) := by decide +kernel
theorem dX12_line_325 : decode cX12_line 325 = .ok (.aload_n 0, 1) := by decide +kernel
theorem dX12_line_326 : decode cX12_line 326 = .ok (.getfield 61, 3) := by decide +kernel
theorem dX12_line_329 : decode cX12_line 329 = .ok (.invokevirtual 182, 3) := by decide +kernel
theorem dX12_line_332 : decode cX12_line 332 = .ok (.ifCond .eq 38, 3) := by decide +kernel
theorem dX12_line_335 : decode cX12_line 335 = .ok (.lload 7, 2) := by decide +kernel
theorem dX12_line_337 : decode cX12_line 337 = .ok (.lstore_n 3, 1) := by decide +kernel
theorem dX12_line_338 : decode cX12_line 338 = .ok (.iconst 0, 1) := by decide +kernel
theorem dX12_line_339 : decode cX12_line 339 = .ok (.istore 9, 2) := by decide +kernel
theorem dX12_line_341 : decode cX12_line 341 = .ok (.iload 9, 2) := by decide +kernel
theorem dX12_line_343 : decode cX12_line 343 = .ok (.aload_n 0, 1) := by decide +kernel
theorem dX12_line_344 : decode cX12_line 344 = .ok (.invokevirtual 90, 3) := by decide +kernel
theorem dX12_line_347 : decode cX12_line 347 = .ok (.if_icmp .ge 23, 3) := by decide +kernel
theorem dX12_line_350 : decode cX12_line 350 = .ok (.aload_n 0, 1) := by decide +kernel
theorem dX12_line_351 : decode cX12_line 351 = .ok (.getfield 61, 3) := by decide +kernel
theorem dX12_line_354 : decode cX12_line 354 = .ok (.iload 9, 2) := by decide +kernel
theorem dX12_line_356 : decode cX12_line 356 = .ok (.aload_n 0, 1) := by decide +kernel
theorem dX12_line_357 : decode cX12_line 357 = .ok (.getfield 58, 3) := by decide +kernel
theorem dX12_line_360 : decode cX12_line 360 = .ok (.iload 9, 2) := by decide +kernel
theorem dX12_line_362 : decode cX12_line 362 = .ok (.iaload, 1) := by decide +kernel
theorem dX12_line_363 : decode cX12_line 363 = .ok (.iastore, 1) := by decide +kernel
theorem dX12_line_364 : decode cX12_line 364 = .ok (.iinc 9 1, 3) := by decide +kernel
theorem dX12_line_367 : decode cX12_line 367 = .ok (.goto (-26), 3) := by decide +kernel
theorem dX12_line_370 : decode cX12_line 370 = .ok (.iinc 5 1, 3) := by decide +kernel
theorem dX12_line_373 : decode cX12_line 373 = .ok (.goto (-180), 3) := by decide +kernel
theorem dX12_line_376 : decode cX12_line 376 = .ok (.aload_n 0, 1) := by decide +kernel
theorem dX12_line_377 : decode cX12_line 377 = .ok (.aload_n 0, 1) := by decide +kernel
theorem dX12_line_378 : decode cX12_line 378 = .ok (.getfield 61, 3) := by decide +kernel
theorem dX12_line_381 : decode cX12_line 381 = .ok (.invokevirtual 150, 3) := by decide +kernel
theorem dX12_line_384 : decode cX12_line 384 = .ok (.lload_n 3, 1) := by decide +kernel
theorem dX12_line_385 : decode cX12_line 385 = .ok (.lreturn, 1) := by decide +kernel
theorem dX12_better_0 : decode cX12_better 0 = .ok (.aload_n 0, 1) := by decide +kernel
theorem dX12_better_1 : decode cX12_better 1 = .ok (.iconst 0, 1) := by decide +kernel
theorem dX12_better_2 : decode cX12_better 2 = .ok (.putfield 77, 3) := by decide +kernel
theorem dX12_better_5 : decode cX12_better 5 = .ok (.iload_n 1, 1) := by decide +kernel
theorem dX12_better_6 : decode cX12_better 6 = .ok (.invokestatic 157, 3) := by decide +kernel
theorem dX12_better_9 : decode cX12_better 9 = .ok (.ifCond .ne 9, 3) := by decide +kernel
theorem dX12_better_12 : decode cX12_better 12 = .ok (.aload_n 0, 1) := by decide +kernel
theorem dX12_better_13 : decode cX12_better 13 = .ok (.iconst 1, 1) := by decide +kernel
theorem dX12_better_14 : decode cX12_better 14 = .ok (.invokevirtual 98, 3) := by decide +kernel
theorem dX12_better_17 : decode cX12_better 17 = .ok (.ireturn, 1) := by decide +kernel
theorem dX12_better_18 : decode cX12_better 18 = .ok (.aload_n 0, 1) := by decide +kernel
theorem dX12_better_19 : decode cX12_better 19 = .ok (.invokevirtual 102, 3) := by decide +kernel
theorem dX12_better_22 : decode cX12_better 22 = .ok (.aload_n 0, 1) := by decide +kernel
theorem dX12_better_23 : decode cX12_better 23 = .ok (.invokevirtual 160, 3) := by decide +kernel
theorem dX12_better_26 : decode cX12_better 26 = .ok (.iconst 0, 1) := by decide +kernel
theorem dX12_better_27 : decode cX12_better 27 = .ok (.istore_n 2, 1) := by decide +kernel
theorem dX12_better_28 : decode cX12_better 28 = .ok (.iconst 1, 1) := by decide +kernel
theorem dX12_better_29 : decode cX12_better 29 = .ok (.istore_n 3, 1) := by decide +kernel
theorem dX12_better_30 : decode cX12_better 30 = .ok (.iload_n 3, 1) := by decide +kernel
theorem dX12_better_31 : decode cX12_better 31 = .ok (.ifCond .eq 258, 3) := by decide +kernel
theorem dX12_better_34 : decode cX12_better 34 = .ok (.aload_n 0, 1) := by decide +kernel
theorem dX12_better_35 : decode cX12_better 35 = .ok (.aload_n 0, 1) := by decide +kernel
theorem dX12_better_36 : decode cX12_better 36 = .ok (.getfield 26, 3) := by decide +kernel
theorem dX12_better_39 : decode cX12_better 39 = .ok (.iload_n 1, 1) := by decide +kernel
theorem dX12_better_40 : decode cX12_better 40 = .ok (.invokevirtual 163, 3) := by decide +kernel
theorem dX12_better_43 : decode cX12_better 43 = .ok (.lstore 4, 2) := by decide +kernel
theorem dX12_better_45 : decode cX12_better 45 = .ok (.lload 4, 2) := by decide +kernel
theorem dX12_better_47 : decode cX12_better 47 = .ok (.lstore 6, 2) := by decide +kernel
theorem dX12_better_49 : decode cX12_better 49 = .ok (.aload_n 0, 1) := by decide +kernel
theorem dX12_better_50 : decode cX12_better 50 = .ok (.aload_n 0, 1) := by decide +kernel
theorem dX12_better_51 : decode cX12_better 51 = .ok (.getfield 26, 3) := by decide +kernel
theorem dX12_better_54 : decode cX12_better 54 = .ok (.invokevirtual 133, 3) := by decide +kernel
theorem dX12_better_57 : decode cX12_better 57 = .ok (.istore 8, 2) := by decide +kernel
theorem dX12_better_59 : decode cX12_better 59 = .ok (.iconst 0, 1) := by decide +kernel
theorem dX12_better_60 : decode cX12_better 60 = .ok (.istore 9, 2) := by decide +kernel
theorem dX12_better_62 : decode cX12_better 62 = .ok (.iload 9, 2) := by decide +kernel
theorem dX12_better_64 : decode cX12_better 64 = .ok (.aload_n 0, 1) := by decide +kernel
theorem dX12_better_65 : decode cX12_better 65 = .ok (.invokevirtual 90, 3) := by decide +kernel
theorem dX12_better_68 : decode cX12_better 68 = .ok (.if_icmp .ge 189, 3) := by decide +kernel
theorem dX12_better_71 : decode cX12_better 71 = .ok (.iconst 1, 1) := by decide +kernel
theorem dX12_better_72 : decode cX12_better 72 = .ok (.istore 10, 2) := by decide +kernel
theorem dX12_better_74 : decode cX12_better 74 = .ok (.iconst 0, 1) := by decide +kernel
theorem dX12_better_75 : decode cX12_better 75 = .ok (.istore 11, 2) := by decide +kernel
theorem dX12_better_77 : decode cX12_better 77 = .ok (.iload 11, 2) := by decide +kernel
theorem dX12_better_79 : decode cX12_better 79 = .ok (.aload_n 0, 1) := by decide +kernel
theorem dX12_better_80 : decode cX12_better 80 = .ok (.invokevirtual 90, 3) := by decide +kernel
theorem dX12_better_83 : decode cX12_better 83 = .ok (.if_icmp .ge 45, 3) := by decide +kernel
theorem dX12_better_86 : decode cX12_better 86 = .ok (.iload 10, 2) := by decide +kernel
theorem dX12_better_88 : decode cX12_better 88 = .ok (.ifCond .eq 31, 3) := by decide +kernel
theorem dX12_better_91 : decode cX12_better 91 = .ok (.iload 11, 2) := by decide +kernel
theorem dX12_better_93 : decode cX12_better 93 = .ok (.iload 9, 2) := by decide +kernel
theorem dX12_better_95 : decode cX12_better 95 = .ok (.if_icmp .eq 20, 3) := by decide +kernel
theorem dX12_better_98 : decode cX12_better 98 = .ok (.aload_n 0, 1) := by decide +kernel
theorem dX12_better_99 : decode cX12_better 99 = .ok (.getfield 26, 3) := by decide +kernel
theorem dX12_better_102 : decode cX12_better 102 = .ok (.iload 11, 2) := by decide +kernel
theorem dX12_better_104 : decode cX12_better 104 = .ok (.iaload, 1) := by decide +kernel
theorem dX12_better_105 : decode cX12_better 105 = .ok (.aload_n 0, 1) := by decide +kernel
theorem dX12_better_106 : decode cX12_better 106 = .ok (.getfield 26, 3) := by decide +kernel
theorem dX12_better_109 : decode cX12_better 109 = .ok (.iload 9, 2) := by decide +kernel
theorem dX12_better_111 : decode cX12_better 111 = .ok (.iaload, 1) := by decide +kernel
theorem dX12_better_112 : decode cX12_better 112 = .ok (.if_icmp .eq 7, 3) := by decide +kernel
theorem dX12_better_115 : decode cX12_better 115 = .ok (.iconst 1, 1) := by decide +kernel
theorem dX12_better_116 : decode cX12_better 116 = .ok (.goto 4, 3) := by decide +kernel
theorem dX12_better_119 : decode cX12_better 119 = .ok (.iconst 0, 1) := by decide +kernel
theorem dX12_better_120 : decode cX12_better 120 = .ok (.istore 10, 2) := by decide +kernel
theorem dX12_better_122 : decode cX12_better 122 = .ok (.iinc 11 1, 3) := by decide +kernel
theorem dX12_better_125 : decode cX12_better 125 = .ok (.goto (-48), 3) := by decide +kernel
theorem dX12_better_128 : decode cX12_better 128 = .ok (.iconst 0, 1) := by decide +kernel
theorem dX12_better_129 : decode cX12_better 129 = .ok (.istore 11, 2) := by decide +kernel
theorem dX12_better_131 : decode cX12_better 131 = .ok (.iload 11, 2) := by decide +kernel
theorem dX12_better_133 : decode cX12_better 133 = .ok (.iload 8, 2) := by decide +kernel
theorem dX12_better_135 : decode cX12_better 135 = .ok (.if_icmp .gt 116, 3) := by decide +kernel
theorem dX12_better_138 : decode cX12_better 138 = .ok (.iload 11, 2) := by decide +kernel
theorem dX12_better_140 : decode cX12_better 140 = .ok (.aload_n 0, 1) := by decide +kernel
theorem dX12_better_141 : decode cX12_better 141 = .ok (.getfield 26, 3) := by decide +kernel
theorem dX12_better_144 : decode cX12_better 144 = .ok (.iload 9, 2) := by decide +kernel
theorem dX12_better_146 : decode cX12_better 146 = .ok (.iaload, 1) := by decide +kernel
theorem dX12_better_147 : decode cX12_better 147 = .ok (.if_icmp .eq 98, 3) := by decide +kernel
theorem dX12_better_150 : decode cX12_better 150 = .ok (.iload 11, 2) := by decide +kernel
theorem dX12_better_152 : decode cX12_better 152 = .ok (.iload 8, 2) := by decide +kernel
theorem dX12_better_154 : decode cX12_better 154 = .ok (.if_icmp .ne 11, 3) := by decide +kernel
theorem dX12_better_157 : decode cX12_better 157 = .ok (.iload 10, 2) := by decide +kernel
theorem dX12_better_159 : decode cX12_better 159 = .ok (.ifCond .eq 6, 3) := by decide +kernel
theorem dX12_better_162 : decode cX12_better 162 = .ok (.goto 83, 3) := by decide +kernel
theorem dX12_better_165 : decode cX12_better 165 = .ok (.aload_n 0, 1) := by decide +kernel
theorem dX12_better_166 : decode cX12_better 166 = .ok (.invokevirtual 144, 3) := by decide +kernel
theorem dX12_better_169 : decode cX12_better 169 = .ok (.aload_n 0, 1) := by decide +kernel
theorem dX12_better_170 : decode cX12_better 170 = .ok (.getfield 58, 3) := by decide +kernel
theorem dX12_better_173 : decode cX12_better 173 = .ok (.iload 9, 2) := by decide +kernel
theorem dX12_better_175 : decode cX12_better 175 = .ok (.iload 11, 2) := by decide +kernel
theorem dX12_better_177 : decode cX12_better 177 = .ok (.iastore, 1) := by decide +kernel
theorem dX12_better_178 : decode cX12_better 178 = .ok (.aload_n 0, 1) := by decide +kernel
theorem dX12_better_179 : decode cX12_better 179 = .ok (.aload_n 0, 1) := by decide +kernel
theorem dX12_better_180 : decode cX12_better 180 = .ok (.getfield 58, 3) := by decide +kernel
theorem dX12_better_183 : decode cX12_better 183 = .ok (.invokevirtual 147, 3) := by decide +kernel
theorem dX12_better_186 : decode cX12_better 186 = .ok (.pop, 1) := by decide +kernel
theorem dX12_better_187 : decode cX12_better 187 = .ok (.aload_n 0, 1) := by decide +kernel
theorem dX12_better_188 : decode cX12_better 188 = .ok (.aload_n 0, 1) := by decide +kernel
theorem dX12_better_189 : decode cX12_better 189 = .ok (.getfield 58, 3) := by decide +kernel
theorem dX12_better_192 : decode cX12_better 192 = .ok (.iload_n 1, 1) := by decide +kernel
theorem dX12_better_193 : decode cX12_better 193 = .ok (.invokevirtual 163, 3) := by decide +kernel
theorem dX12_better_196 : decode cX12_better 196 = .ok (.lstore 12, 2) := by decide +kernel
theorem dX12_better_198 : decode cX12_better 198 = .ok (.lload 12, 2) := by decide +kernel
theorem dX12_better_200 : decode cX12_better 200 = .ok (.lload 6, 2) := by decide +kernel
theorem dX12_better_202 : decode cX12_better 202 = .ok (.lcmp, 1) := by decide +kernel
theorem dX12_better_203 : decode cX12_better 203 = .ok (.ifCond .lt 6, 3) := by decide +kernel
theorem dX12_better_206 : decode cX12_better 206 = .ok (.goto 39, 3) := by decide +kernel
theorem dX12_better_209 : decode cX12_better 209 = .ok (.lload 12, 2) := by decide +kernel
theorem dX12_better_211 : decode cX12_better 211 = .ok (.lstore 6, 2) := by decide +kernel
theorem dX12_better_213 : decode cX12_better 213 = .ok (.iconst 0, 1) := by decide +kernel
theorem dX12_better_214 : decode cX12_better 214 = .ok (.istore 14, 2) := by decide +kernel
theorem dX12_better_216 : decode cX12_better 216 = .ok (.iload 14, 2) := by decide +kernel
theorem dX12_better_218 : decode cX12_better 218 = .ok (.aload_n 0, 1) := by decide +kernel
theorem dX12_better_219 : decode cX12_better 219 = .ok (.invokevirtual 90, 3) := by decide +kernel
theorem dX12_better_222 : decode cX12_better 222 = .ok (.if_icmp .ge 23, 3) := by decide +kernel
theorem dX12_better_225 : decode cX12_better 225 = .ok (.aload_n 0, 1) := by decide +kernel
theorem dX12_better_226 : decode cX12_better 226 = .ok (.getfield 61, 3) := by decide +kernel
theorem dX12_better_229 : decode cX12_better 229 = .ok (.iload 14, 2) := by decide +kernel
theorem dX12_better_231 : decode cX12_better 231 = .ok (.aload_n 0, 1) := by decide +kernel
theorem dX12_better_232 : decode cX12_better 232 = .ok (.getfield 58, 3) := by decide +kernel
theorem dX12_better_235 : decode cX12_better 235 = .ok (.iload 14, 2) := by decide +kernel
theorem dX12_better_237 : decode cX12_better 237 = .ok (.iaload, 1) := by decide +kernel
theorem dX12_better_238 : decode cX12_better 238 = .ok (.iastore, 1) := by decide +kernel
theorem dX12_better_239 : decode cX12_better 239 = .ok (.iinc 14 1, 3) := by decide +kernel
theorem dX12_better_242 : decode cX12_better 242 = .ok (.goto (-26), 3) := by decide +kernel
theorem dX12_better_245 : decode cX12_better 245 = .ok (.iinc 11 1, 3) := by decide +kernel
theorem dX12_better_248 : decode cX12_better 248 = .ok (.goto (-117), 3) := by decide +kernel
theorem dX12_better_251 : decode cX12_better 251 = .ok (.iinc 9 1, 3) := by decide +kernel
theorem dX12_better_254 : decode cX12_better 254 = .ok (.goto (-192), 3) := by decide +kernel
theorem dX12_better_257 : decode cX12_better 257 = .ok (.lload 6, 2) := by decide +kernel
theorem dX12_better_259 : decode cX12_better 259 = .ok (.lload 4, 2) := by decide +kernel
theorem dX12_better_261 : decode cX12_better 261 = .ok (.lcmp, 1) := by decide +kernel
theorem dX12_better_262 : decode cX12_better 262 = .ok (.ifCond .ge 7, 3) := by decide +kernel
theorem dX12_better_265 : decode cX12_better 265 = .ok (.iconst 1, 1) := by decide +kernel
theorem dX12_better_266 : decode cX12_better 266 = .ok (.goto 4, 3) := by decide +kernel
theorem dX12_better_269 : decode cX12_better 269 = .ok (.iconst 0, 1) := by decide +kernel
theorem dX12_better_270 : decode cX12_better 270 = .ok (.istore_n 3, 1) := by decide +kernel
theorem dX12_better_271 : decode cX12_better 271 = .ok (.iload_n 3, 1) := by decide +kernel
theorem dX12_better_272 : decode cX12_better 272 = .ok (.ifCond .eq 14, 3) := by decide +kernel
theorem dX12_better_275 : decode cX12_better 275 = .ok (.aload_n 0, 1) := by decide +kernel
theorem dX12_better_276 : decode cX12_better 276 = .ok (.aload_n 0, 1) := by decide +kernel
theorem dX12_better_277 : decode cX12_better 277 = .ok (.getfield 61, 3) := by decide +kernel
theorem dX12_better_280 : decode cX12_better 280 = .ok (.invokevirtual 150, 3) := by decide +kernel
theorem dX12_better_283 : decode cX12_better 283 = .ok (.iinc 2 1, 3) := by decide +kernel
theorem dX12_better_286 : decode cX12_better 286 = .ok (.goto (-256), 3) := by decide +kernel
theorem dX12_better_289 : decode cX12_better 289 = .ok (.iload_n 2, 1) := by decide +kernel
theorem dX12_better_290 : decode cX12_better 290 = .ok (.ireturn, 1) := by decide +kernel
theorem dX12_two_0 : decode cX12_two 0 = .ok (.aload_n 0, 1) := by decide +kernel
theorem dX12_two_1 : decode cX12_two 1 = .ok (.iconst 0, 1) := by decide +kernel
theorem dX12_two_2 : decode cX12_two 2 = .ok (.putfield 77, 3) := by decide +kernel
theorem dX12_two_5 : decode cX12_two 5 = .ok (.aload_n 0, 1) := by decide +kernel
theorem dX12_two_6 : decode cX12_two 6 = .ok (.invokevirtual 102, 3) := by decide +kernel
theorem dX12_two_9 : decode cX12_two 9 = .ok (.aload_n 0, 1) := by decide +kernel
theorem dX12_two_10 : decode cX12_two 10 = .ok (.invokevirtual 160, 3) := by decide +kernel
theorem dX12_two_13 : decode cX12_two 13 = .ok (.iconst (-1), 1) := by decide +kernel
theorem dX12_two_14 : decode cX12_two 14 = .ok (.istore_n 1, 1) := by decide +kernel
theorem dX12_two_15 : decode cX12_two 15 = .ok (.iconst 0, 1) := by decide +kernel
theorem dX12_two_16 : decode cX12_two 16 = .ok (.istore_n 2, 1) := by decide +kernel
theorem dX12_two_17 : decode cX12_two 17 = .ok (.iload_n 2, 1) := by decide +kernel
theorem dX12_two_18 : decode cX12_two 18 = .ok (.iconst 1, 1) := by decide +kernel
theorem dX12_two_19 : decode cX12_two 19 = .ok (.aload_n 0, 1) := by decide +kernel
theorem dX12_two_20 : decode cX12_two 20 = .ok (.invokevirtual 90, 3) := by decide +kernel
theorem dX12_two_23 : decode cX12_two 23 = .ok (.iconst 1, 1) := by decide +kernel
theorem dX12_two_24 : decode cX12_two 24 = .ok (.isub, 1) := by decide +kernel
theorem dX12_two_25 : decode cX12_two 25 = .ok (.ishl, 1) := by decide +kernel
theorem dX12_two_26 : decode cX12_two 26 = .ok (.if_icmp .ge 108, 3) := by decide +kernel
theorem dX12_two_29 : decode cX12_two 29 = .ok (.aload_n 0, 1) := by decide +kernel
theorem dX12_two_30 : decode cX12_two 30 = .ok (.getfield 58, 3) := by decide +kernel
theorem dX12_two_33 : decode cX12_two 33 = .ok (.iconst 0, 1) := by decide +kernel
theorem dX12_two_34 : decode cX12_two 34 = .ok (.iconst 0, 1) := by decide +kernel
theorem dX12_two_35 : decode cX12_two 35 = .ok (.iastore, 1) := by decide +kernel
theorem dX12_two_36 : decode cX12_two 36 = .ok (.iconst 1, 1) := by decide +kernel
theorem dX12_two_37 : decode cX12_two 37 = .ok (.istore_n 3, 1) := by decide +kernel
theorem dX12_two_38 : decode cX12_two 38 = .ok (.iload_n 3, 1) := by decide +kernel
theorem dX12_two_39 : decode cX12_two 39 = .ok (.aload_n 0, 1) := by decide +kernel
theorem dX12_two_40 : decode cX12_two 40 = .ok (.invokevirtual 90, 3) := by decide +kernel
theorem dX12_two_43 : decode cX12_two 43 = .ok (.if_icmp .ge 27, 3) := by decide +kernel
theorem dX12_two_46 : decode cX12_two 46 = .ok (.aload_n 0, 1) := by decide +kernel
theorem dX12_two_47 : decode cX12_two 47 = .ok (.getfield 58, 3) := by decide +kernel
theorem dX12_two_50 : decode cX12_two 50 = .ok (.iload_n 3, 1) := by decide +kernel
theorem dX12_two_51 : decode cX12_two 51 = .ok (.iload_n 2, 1) := by decide +kernel
theorem dX12_two_52 : decode cX12_two 52 = .ok (.aload_n 0, 1) := by decide +kernel
theorem dX12_two_53 : decode cX12_two 53 = .ok (.invokevirtual 90, 3) := by decide +kernel
theorem dX12_two_56 : decode cX12_two 56 = .ok (.iconst 1, 1) := by decide +kernel
theorem dX12_two_57 : decode cX12_two 57 = .ok (.isub, 1) := by decide +kernel
theorem dX12_two_58 : decode cX12_two 58 = .ok (.iload_n 3, 1) := by decide +kernel
theorem dX12_two_59 : decode cX12_two 59 = .ok (.isub, 1) := by decide +kernel
theorem dX12_two_60 : decode cX12_two 60 = .ok (.ishr, 1) := by decide +kernel
theorem dX12_two_61 : decode cX12_two 61 = .ok (.iconst 1, 1) := by decide +kernel
theorem dX12_two_62 : decode cX12_two 62 = .ok (.iand, 1) := by decide +kernel
theorem dX12_two_63 : decode cX12_two 63 = .ok (.iastore, 1) := by decide +kernel
theorem dX12_two_64 : decode cX12_two 64 = .ok (.iinc 3 1, 3) := by decide +kernel
theorem dX12_two_67 : decode cX12_two 67 = .ok (.goto (-29), 3) := by decide +kernel
theorem dX12_two_70 : decode cX12_two 70 = .ok (.aload_n 0, 1) := by decide +kernel
theorem dX12_two_71 : decode cX12_two 71 = .ok (.aload_n 0, 1) := by decide +kernel
theorem dX12_two_72 : decode cX12_two 72 = .ok (.getfield 58, 3) := by decide +kernel
theorem dX12_two_75 : decode cX12_two 75 = .ok (.iconst 2, 1) := by decide +kernel
theorem dX12_two_76 : decode cX12_two 76 = .ok (.invokevirtual 163, 3) := by decide +kernel
theorem dX12_two_79 : decode cX12_two 79 = .ok (.l2i, 1) := by decide +kernel
theorem dX12_two_80 : decode cX12_two 80 = .ok (.istore_n 3, 1) := by decide +kernel
theorem dX12_two_81 : decode cX12_two 81 = .ok (.iload_n 1, 1) := by decide +kernel
theorem dX12_two_82 : decode cX12_two 82 = .ok (.iconst (-1), 1) := by decide +kernel
theorem dX12_two_83 : decode cX12_two 83 = .ok (.if_icmp .eq 11, 3) := by decide +kernel
theorem dX12_two_86 : decode cX12_two 86 = .ok (.iload_n 3, 1) := by decide +kernel
theorem dX12_two_87 : decode cX12_two 87 = .ok (.iload_n 1, 1) := by decide +kernel
theorem dX12_two_88 : decode cX12_two 88 = .ok (.if_icmp .lt 6, 3) := by decide +kernel
theorem dX12_two_91 : decode cX12_two 91 = .ok (.goto 37, 3) := by decide +kernel
theorem dX12_two_94 : decode cX12_two 94 = .ok (.iload_n 3, 1) := by decide +kernel
theorem dX12_two_95 : decode cX12_two 95 = .ok (.istore_n 1, 1) := by decide +kernel
theorem dX12_two_96 : decode cX12_two 96 = .ok (.iconst 0, 1) := by decide +kernel
theorem dX12_two_97 : decode cX12_two 97 = .ok (.istore 4, 2) := by decide +kernel
theorem dX12_two_99 : decode cX12_two 99 = .ok (.iload 4, 2) := by decide +kernel
theorem dX12_two_101 : decode cX12_two 101 = .ok (.aload_n 0, 1) := by decide +kernel
theorem dX12_two_102 : decode cX12_two 102 = .ok (.invokevirtual 90, 3) := by decide +kernel
theorem dX12_two_105 : decode cX12_two 105 = .ok (.if_icmp .ge 23, 3) := by decide +kernel
theorem dX12_two_108 : decode cX12_two 108 = .ok (.aload_n 0, 1) := by decide +kernel
theorem dX12_two_109 : decode cX12_two 109 = .ok (.getfield 61, 3) := by decide +kernel
theorem dX12_two_112 : decode cX12_two 112 = .ok (.iload 4, 2) := by decide +kernel
theorem dX12_two_114 : decode cX12_two 114 = .ok (.aload_n 0, 1) := by decide +kernel
theorem dX12_two_115 : decode cX12_two 115 = .ok (.getfield 58, 3) := by decide +kernel
theorem dX12_two_118 : decode cX12_two 118 = .ok (.iload 4, 2) := by decide +kernel
theorem dX12_two_120 : decode cX12_two 120 = .ok (.iaload, 1) := by decide +kernel
theorem dX12_two_121 : decode cX12_two 121 = .ok (.iastore, 1) := by decide +kernel
theorem dX12_two_122 : decode cX12_two 122 = .ok (.iinc 4 1, 3) := by decide +kernel
theorem dX12_two_125 : decode cX12_two 125 = .ok (.goto (-26), 3) := by decide +kernel
theorem dX12_two_128 : decode cX12_two 128 = .ok (.iinc 2 1, 3) := by decide +kernel
theorem dX12_two_131 : decode cX12_two 131 = .ok (.goto (-114), 3) := by decide +kernel
theorem dX12_two_134 : decode cX12_two 134 = .ok (.aload_n 0, 1) := by decide +kernel
theorem dX12_two_135 : decode cX12_two 135 = .ok (.aload_n 0, 1) := by decide +kernel
theorem dX12_two_136 : decode cX12_two 136 = .ok (.getfield 61, 3) := by decide +kernel
theorem dX12_two_139 : decode cX12_two 139 = .ok (.invokevirtual 150, 3) := by decide +kernel
theorem dX12_two_142 : decode cX12_two 142 = .ok (.iload_n 1, 1) := by decide +kernel
theorem dX12_two_143 : decode cX12_two 143 = .ok (.ireturn, 1) := by decide +kernel
theorem dX12_nearest_0 : decode cX12_nearest 0 = .ok (.iconst 0, 1) := by decide +kernel
theorem dX12_nearest_1 : decode cX12_nearest 1 = .ok (.istore_n 3, 1) := by decide +kernel
theorem dX12_nearest_2 : decode cX12_nearest 2 = .ok (.iconst 1, 1) := by decide +kernel
theorem dX12_nearest_3 : decode cX12_nearest 3 = .ok (.istore 4, 2) := by decide +kernel
theorem dX12_nearest_5 : decode cX12_nearest 5 = .ok (.iload 4, 2) := by decide +kernel
theorem dX12_nearest_7 : decode cX12_nearest 7 = .ok (.iload_n 2, 1) := by decide +kernel
theorem dX12_nearest_8 : decode cX12_nearest 8 = .ok (.if_icmp .ge 48, 3) := by decide +kernel
theorem dX12_nearest_11 : decode cX12_nearest 11 = .ok (.aload_n 0, 1) := by decide +kernel
theorem dX12_nearest_12 : decode cX12_nearest 12 = .ok (.getfield 16, 3) := by decide +kernel
theorem dX12_nearest_15 : decode cX12_nearest 15 = .ok (.bipush 12, 2) := by decide +kernel
theorem dX12_nearest_17 : decode cX12_nearest 17 = .ok (.iload_n 1, 1) := by decide +kernel
theorem dX12_nearest_18 : decode cX12_nearest 18 = .ok (.imul, 1) := by decide +kernel
theorem dX12_nearest_19 : decode cX12_nearest 19 = .ok (.aload_n 0, 1) := by decide +kernel
theorem dX12_nearest_20 : decode cX12_nearest 20 = .ok (.getfield 70, 3) := by decide +kernel
theorem dX12_nearest_23 : decode cX12_nearest 23 = .ok (.iload 4, 2) := by decide +kernel
theorem dX12_nearest_25 : decode cX12_nearest 25 = .ok (.iaload, 1) := by decide +kernel
theorem dX12_nearest_26 : decode cX12_nearest 26 = .ok (.iadd, 1) := by decide +kernel
theorem dX12_nearest_27 : decode cX12_nearest 27 = .ok (.iaload, 1) := by decide +kernel
theorem dX12_nearest_28 : decode cX12_nearest 28 = .ok (.aload_n 0, 1) := by decide +kernel
theorem dX12_nearest_29 : decode cX12_nearest 29 = .ok (.getfield 16, 3) := by decide +kernel
theorem dX12_nearest_32 : decode cX12_nearest 32 = .ok (.bipush 12, 2) := by decide +kernel
theorem dX12_nearest_34 : decode cX12_nearest 34 = .ok (.iload_n 1, 1) := by decide +kernel
theorem dX12_nearest_35 : decode cX12_nearest 35 = .ok (.imul, 1) := by decide +kernel
theorem dX12_nearest_36 : decode cX12_nearest 36 = .ok (.aload_n 0, 1) := by decide +kernel
theorem dX12_nearest_37 : decode cX12_nearest 37 = .ok (.getfield 70, 3) := by decide +kernel
theorem dX12_nearest_40 : decode cX12_nearest 40 = .ok (.iload_n 3, 1) := by decide +kernel
theorem dX12_nearest_41 : decode cX12_nearest 41 = .ok (.iaload, 1) := by decide +kernel
theorem dX12_nearest_42 : decode cX12_nearest 42 = .ok (.iadd, 1) := by decide +kernel
theorem dX12_nearest_43 : decode cX12_nearest 43 = .ok (.iaload, 1) := by decide +kernel
theorem dX12_nearest_44 : decode cX12_nearest 44 = .ok (.if_icmp .ge 6, 3) := by decide +kernel
theorem dX12_nearest_47 : decode cX12_nearest 47 = .ok (.iload 4, 2) := by decide +kernel
theorem dX12_nearest_49 : decode cX12_nearest 49 = .ok (.istore_n 3, 1) := by decide +kernel
theorem dX12_nearest_50 : decode cX12_nearest 50 = .ok (.iinc 4 1, 3) := by decide +kernel
theorem dX12_nearest_53 : decode cX12_nearest 53 = .ok (.goto (-48), 3) := by decide +kernel
theorem dX12_nearest_56 : decode cX12_nearest 56 = .ok (.iload_n 3, 1) := by decide +kernel
theorem dX12_nearest_57 : decode cX12_nearest 57 = .ok (.ireturn, 1) := by decide +kernel
theorem dX12_centres_0 : decode cX12_centres 0 = .ok (.aload_n 0, 1) := by decide +kernel
theorem dX12_centres_1 : decode cX12_centres 1 = .ok (.iconst 0, 1) := by decide +kernel
theorem dX12_centres_2 : decode cX12_centres 2 = .ok (.putfield 77, 3) := by decide +kernel
theorem dX12_centres_5 : decode cX12_centres 5 = .ok (.iload_n 1, 1) := by decide +kernel
theorem dX12_centres_6 : decode cX12_centres 6 = .ok (.iconst 1, 1) := by decide +kernel
theorem dX12_centres_7 : decode cX12_centres 7 = .ok (.if_icmp .lt 11, 3) := by decide +kernel
theorem dX12_centres_10 : decode cX12_centres 10 = .ok (.iload_n 1, 1) := by decide +kernel
theorem dX12_centres_11 : decode cX12_centres 11 = .ok (.aload_n 0, 1) := by decide +kernel
theorem dX12_centres_12 : decode cX12_centres 12 = .ok (.invokevirtual 90, 3) := by decide +kernel
theorem dX12_centres_15 : decode cX12_centres 15 = .ok (.if_icmp .le 9, 3) := by decide +kernel
theorem dX12_centres_18 : decode cX12_centres 18 = .ok (.aload_n 0, 1) := by decide +kernel
theorem dX12_centres_19 : decode cX12_centres 19 = .ok (.iconst 1, 1) := by decide +kernel
theorem dX12_centres_20 : decode cX12_centres 20 = .ok (.invokevirtual 98, 3) := by decide +kernel
theorem dX12_centres_23 : decode cX12_centres 23 = .ok (.ireturn, 1) := by decide +kernel
theorem dX12_centres_24 : decode cX12_centres 24 = .ok (.aload_n 0, 1) := by decide +kernel
theorem dX12_centres_25 : decode cX12_centres 25 = .ok (.invokevirtual 102, 3) := by decide +kernel
theorem dX12_centres_28 : decode cX12_centres 28 = .ok (.aload_n 0, 1) := by decide +kernel
theorem dX12_centres_29 : decode cX12_centres 29 = .ok (.getfield 70, 3) := by decide +kernel
theorem dX12_centres_32 : decode cX12_centres 32 = .ok (.iconst 0, 1) := by decide +kernel
theorem dX12_centres_33 : decode cX12_centres 33 = .ok (.iconst 0, 1) := by decide +kernel
theorem dX12_centres_34 : decode cX12_centres 34 = .ok (.iastore, 1) := by decide +kernel
theorem dX12_centres_35 : decode cX12_centres 35 = .ok (.iconst 1, 1) := by decide +kernel
theorem dX12_centres_36 : decode cX12_centres 36 = .ok (.istore_n 2, 1) := by decide +kernel
theorem dX12_centres_37 : decode cX12_centres 37 = .ok (.iload_n 2, 1) := by decide +kernel
theorem dX12_centres_38 : decode cX12_centres 38 = .ok (.iload_n 1, 1) := by decide +kernel
theorem dX12_centres_39 : decode cX12_centres 39 = .ok (.if_icmp .ge 81, 3) := by decide +kernel
theorem dX12_centres_42 : decode cX12_centres 42 = .ok (.iconst 0, 1) := by decide +kernel
theorem dX12_centres_43 : decode cX12_centres 43 = .ok (.istore_n 3, 1) := by decide +kernel
theorem dX12_centres_44 : decode cX12_centres 44 = .ok (.iconst (-1), 1) := by decide +kernel
theorem dX12_centres_45 : decode cX12_centres 45 = .ok (.istore 4, 2) := by decide +kernel
theorem dX12_centres_47 : decode cX12_centres 47 = .ok (.iconst 0, 1) := by decide +kernel
theorem dX12_centres_48 : decode cX12_centres 48 = .ok (.istore 5, 2) := by decide +kernel
theorem dX12_centres_50 : decode cX12_centres 50 = .ok (.iload 5, 2) := by decide +kernel
theorem dX12_centres_52 : decode cX12_centres 52 = .ok (.aload_n 0, 1) := by decide +kernel
theorem dX12_centres_53 : decode cX12_centres 53 = .ok (.invokevirtual 90, 3) := by decide +kernel
theorem dX12_centres_56 : decode cX12_centres 56 = .ok (.if_icmp .ge 51, 3) := by decide +kernel
theorem dX12_centres_59 : decode cX12_centres 59 = .ok (.aload_n 0, 1) := by decide +kernel
theorem dX12_centres_60 : decode cX12_centres 60 = .ok (.getfield 16, 3) := by decide +kernel
theorem dX12_centres_63 : decode cX12_centres 63 = .ok (.bipush 12, 2) := by decide +kernel
theorem dX12_centres_65 : decode cX12_centres 65 = .ok (.iload 5, 2) := by decide +kernel
theorem dX12_centres_67 : decode cX12_centres 67 = .ok (.imul, 1) := by decide +kernel
theorem dX12_centres_68 : decode cX12_centres 68 = .ok (.aload_n 0, 1) := by decide +kernel
theorem dX12_centres_69 : decode cX12_centres 69 = .ok (.getfield 70, 3) := by decide +kernel
theorem dX12_centres_72 : decode cX12_centres 72 = .ok (.aload_n 0, 1) := by decide +kernel
theorem dX12_centres_73 : decode cX12_centres 73 = .ok (.iload 5, 2) := by decide +kernel
theorem dX12_centres_75 : decode cX12_centres 75 = .ok (.iload_n 2, 1) := by decide +kernel
theorem dX12_centres_76 : decode cX12_centres 76 = .ok (.invokevirtual 186, 3) := by decide +kernel
theorem dX12_centres_79 : decode cX12_centres 79 = .ok (.iaload, 1) := by decide +kernel
theorem dX12_centres_80 : decode cX12_centres 80 = .ok (.iadd, 1) := by decide +kernel
theorem dX12_centres_81 : decode cX12_centres 81 = .ok (.iaload, 1) := by decide +kernel
theorem dX12_centres_82 : decode cX12_centres 82 = .ok (.istore 6, 2) := by decide +kernel
theorem dX12_centres_84 : decode cX12_centres 84 = .ok (.iload 6, 2) := by decide +kernel
theorem dX12_centres_86 : decode cX12_centres 86 = .ok (.iload 4, 2) := by decide +kernel
theorem dX12_centres_88 : decode cX12_centres 88 = .ok (.if_icmp .gt 6, 3) := by decide +kernel
theorem dX12_centres_91 : decode cX12_centres 91 = .ok (.goto 10, 3) := by decide +kernel
theorem dX12_centres_94 : decode cX12_centres 94 = .ok (.iload 6, 2) := by decide +kernel
theorem dX12_centres_96 : decode cX12_centres 96 = .ok (.istore 4, 2) := by decide +kernel
theorem dX12_centres_98 : decode cX12_centres 98 = .ok (.iload 5, 2) := by decide +kernel
theorem dX12_centres_100 : decode cX12_centres 100 = .ok (.istore_n 3, 1) := by decide +kernel
theorem dX12_centres_101 : decode cX12_centres 101 = .ok (.iinc 5 1, 3) := by decide +kernel
theorem dX12_centres_104 : decode cX12_centres 104 = .ok (.goto (-54), 3) := by decide +kernel
theorem dX12_centres_107 : decode cX12_centres 107 = .ok (.aload_n 0, 1) := by decide +kernel
theorem dX12_centres_108 : decode cX12_centres 108 = .ok (.getfield 70, 3) := by decide +kernel
theorem dX12_centres_111 : decode cX12_centres 111 = .ok (.iload_n 2, 1) := by decide +kernel
theorem dX12_centres_112 : decode cX12_centres 112 = .ok (.iload_n 3, 1) := by decide +kernel
theorem dX12_centres_113 : decode cX12_centres 113 = .ok (.iastore, 1) := by decide +kernel
theorem dX12_centres_114 : decode cX12_centres 114 = .ok (.iinc 2 1, 3) := by decide +kernel
theorem dX12_centres_117 : decode cX12_centres 117 = .ok (.goto (-80), 3) := by decide +kernel
theorem dX12_centres_120 : decode cX12_centres 120 = .ok (.iconst 0, 1) := by decide +kernel
theorem dX12_centres_121 : decode cX12_centres 121 = .ok (.istore_n 2, 1) := by decide +kernel
theorem dX12_centres_122 : decode cX12_centres 122 = .ok (.iconst 0, 1) := by decide +kernel
theorem dX12_centres_123 : decode cX12_centres 123 = .ok (.istore_n 3, 1) := by decide +kernel
theorem dX12_centres_124 : decode cX12_centres 124 = .ok (.iload_n 3, 1) := by decide +kernel
theorem dX12_centres_125 : decode cX12_centres 125 = .ok (.aload_n 0, 1) := by decide +kernel
theorem dX12_centres_126 : decode cX12_centres 126 = .ok (.invokevirtual 90, 3) := by decide +kernel
theorem dX12_centres_129 : decode cX12_centres 129 = .ok (.if_icmp .ge 47, 3) := by decide +kernel
theorem dX12_centres_132 : decode cX12_centres 132 = .ok (.aload_n 0, 1) := by decide +kernel
theorem dX12_centres_133 : decode cX12_centres 133 = .ok (.getfield 58, 3) := by decide +kernel
theorem dX12_centres_136 : decode cX12_centres 136 = .ok (.iload_n 3, 1) := by decide +kernel
theorem dX12_centres_137 : decode cX12_centres 137 = .ok (.aload_n 0, 1) := by decide +kernel
theorem dX12_centres_138 : decode cX12_centres 138 = .ok (.iload_n 3, 1) := by decide +kernel
theorem dX12_centres_139 : decode cX12_centres 139 = .ok (.iload_n 1, 1) := by decide +kernel
theorem dX12_centres_140 : decode cX12_centres 140 = .ok (.invokevirtual 186, 3) := by decide +kernel
theorem dX12_centres_143 : decode cX12_centres 143 = .ok (.iastore, 1) := by decide +kernel
theorem dX12_centres_144 : decode cX12_centres 144 = .ok (.iload_n 2, 1) := by decide +kernel
theorem dX12_centres_145 : decode cX12_centres 145 = .ok (.aload_n 0, 1) := by decide +kernel
theorem dX12_centres_146 : decode cX12_centres 146 = .ok (.getfield 16, 3) := by decide +kernel
theorem dX12_centres_149 : decode cX12_centres 149 = .ok (.bipush 12, 2) := by decide +kernel
theorem dX12_centres_151 : decode cX12_centres 151 = .ok (.iload_n 3, 1) := by decide +kernel
theorem dX12_centres_152 : decode cX12_centres 152 = .ok (.imul, 1) := by decide +kernel
theorem dX12_centres_153 : decode cX12_centres 153 = .ok (.aload_n 0, 1) := by decide +kernel
theorem dX12_centres_154 : decode cX12_centres 154 = .ok (.getfield 70, 3) := by decide +kernel
theorem dX12_centres_157 : decode cX12_centres 157 = .ok (.aload_n 0, 1) := by decide +kernel
theorem dX12_centres_158 : decode cX12_centres 158 = .ok (.getfield 58, 3) := by decide +kernel
theorem dX12_centres_161 : decode cX12_centres 161 = .ok (.iload_n 3, 1) := by decide +kernel
theorem dX12_centres_162 : decode cX12_centres 162 = .ok (.iaload, 1) := by decide +kernel
theorem dX12_centres_163 : decode cX12_centres 163 = .ok (.iaload, 1) := by decide +kernel
theorem dX12_centres_164 : decode cX12_centres 164 = .ok (.iadd, 1) := by decide +kernel
theorem dX12_centres_165 : decode cX12_centres 165 = .ok (.iaload, 1) := by decide +kernel
theorem dX12_centres_166 : decode cX12_centres 166 = .ok (.invokestatic 125, 3) := by decide +kernel
theorem dX12_centres_169 : decode cX12_centres 169 = .ok (.istore_n 2, 1) := by decide +kernel
theorem dX12_centres_170 : decode cX12_centres 170 = .ok (.iinc 3 1, 3) := by decide +kernel
theorem dX12_centres_173 : decode cX12_centres 173 = .ok (.goto (-49), 3) := by decide +kernel
theorem dX12_centres_176 : decode cX12_centres 176 = .ok (.aload_n 0, 1) := by decide +kernel
theorem dX12_centres_177 : decode cX12_centres 177 = .ok (.aload_n 0, 1) := by decide +kernel
theorem dX12_centres_178 : decode cX12_centres 178 = .ok (.getfield 58, 3) := by decide +kernel
theorem dX12_centres_181 : decode cX12_centres 181 = .ok (.invokevirtual 147, 3) := by decide +kernel
theorem dX12_centres_184 : decode cX12_centres 184 = .ok (.pop, 1) := by decide +kernel
theorem dX12_centres_185 : decode cX12_centres 185 = .ok (.aload_n 0, 1) := by decide +kernel
theorem dX12_centres_186 : decode cX12_centres 186 = .ok (.aload_n 0, 1) := by decide +kernel
theorem dX12_centres_187 : decode cX12_centres 187 = .ok (.getfield 58, 3) := by decide +kernel
theorem dX12_centres_190 : decode cX12_centres 190 = .ok (.invokevirtual 150, 3) := by decide +kernel
theorem dX12_centres_193 : decode cX12_centres 193 = .ok (.iload_n 2, 1) := by decide +kernel
theorem dX12_centres_194 : decode cX12_centres 194 = .ok (.ireturn, 1) := by decide +kernel
theorem dX12_like_0 : decode cX12_like 0 = .ok (.bipush 12, 2) := by decide +kernel
theorem dX12_like_2 : decode cX12_like 2 = .ok (.iload_n 1, 1) := by decide +kernel
theorem dX12_like_3 : decode cX12_like 3 = .ok (.imul, 1) := by decide +kernel
theorem dX12_like_4 : decode cX12_like 4 = .ok (.iload_n 2, 1) := by decide +kernel
theorem dX12_like_5 : decode cX12_like 5 = .ok (.iadd, 1) := by decide +kernel
theorem dX12_like_6 : decode cX12_like 6 = .ok (.istore_n 3, 1) := by decide +kernel
theorem dX12_like_7 : decode cX12_like 7 = .ok (.aload_n 0, 1) := by decide +kernel
theorem dX12_like_8 : decode cX12_like 8 = .ok (.getfield 19, 3) := by decide +kernel
theorem dX12_like_11 : decode cX12_like 11 = .ok (.iload_n 3, 1) := by decide +kernel
theorem dX12_like_12 : decode cX12_like 12 = .ok (.iaload, 1) := by decide +kernel
theorem dX12_like_13 : decode cX12_like 13 = .ok (.ifCond .le 16, 3) := by decide +kernel
theorem dX12_like_16 : decode cX12_like 16 = .ok (.aload_n 0, 1) := by decide +kernel
theorem dX12_like_17 : decode cX12_like 17 = .ok (.getfield 22, 3) := by decide +kernel
theorem dX12_like_20 : decode cX12_like 20 = .ok (.iload_n 3, 1) := by decide +kernel
theorem dX12_like_21 : decode cX12_like 21 = .ok (.baload, 1) := by decide +kernel
theorem dX12_like_22 : decode cX12_like 22 = .ok (.ifCond .eq 7, 3) := by decide +kernel
theorem dX12_like_25 : decode cX12_like 25 = .ok (.iconst 1, 1) := by decide +kernel
theorem dX12_like_26 : decode cX12_like 26 = .ok (.goto 4, 3) := by decide +kernel
theorem dX12_like_29 : decode cX12_like 29 = .ok (.iconst 0, 1) := by decide +kernel
theorem dX12_like_30 : decode cX12_like 30 = .ok (.ireturn, 1) := by decide +kernel
theorem dX12_gather_0 : decode cX12_gather 0 = .ok (.iconst 0, 1) := by decide +kernel
theorem dX12_gather_1 : decode cX12_gather 1 = .ok (.istore_n 2, 1) := by decide +kernel
theorem dX12_gather_2 : decode cX12_gather 2 = .ok (.iload_n 2, 1) := by decide +kernel
theorem dX12_gather_3 : decode cX12_gather 3 = .ok (.aload_n 0, 1) := by decide +kernel
theorem dX12_gather_4 : decode cX12_gather 4 = .ok (.invokevirtual 90, 3) := by decide +kernel
theorem dX12_gather_7 : decode cX12_gather 7 = .ok (.if_icmp .ge 16, 3) := by decide +kernel
theorem dX12_gather_10 : decode cX12_gather 10 = .ok (.aload_n 0, 1) := by decide +kernel
theorem dX12_gather_11 : decode cX12_gather 11 = .ok (.getfield 58, 3) := by decide +kernel
theorem dX12_gather_14 : decode cX12_gather 14 = .ok (.iload_n 2, 1) := by decide +kernel
theorem dX12_gather_15 : decode cX12_gather 15 = .ok (.iconst (-1), 1) := by decide +kernel
theorem dX12_gather_16 : decode cX12_gather 16 = .ok (.iastore, 1) := by decide +kernel
theorem dX12_gather_17 : decode cX12_gather 17 = .ok (.iinc 2 1, 3) := by decide +kernel
theorem dX12_gather_20 : decode cX12_gather 20 = .ok (.goto (-18), 3) := by decide +kernel
theorem dX12_gather_23 : decode cX12_gather 23 = .ok (.iconst 0, 1) := by decide +kernel
theorem dX12_gather_24 : decode cX12_gather 24 = .ok (.istore_n 2, 1) := by decide +kernel
theorem dX12_gather_25 : decode cX12_gather 25 = .ok (.iconst 0, 1) := by decide +kernel
theorem dX12_gather_26 : decode cX12_gather 26 = .ok (.istore_n 3, 1) := by decide +kernel
theorem dX12_gather_27 : decode cX12_gather 27 = .ok (.iload_n 3, 1) := by decide +kernel
theorem dX12_gather_28 : decode cX12_gather 28 = .ok (.aload_n 0, 1) := by decide +kernel
theorem dX12_gather_29 : decode cX12_gather 29 = .ok (.invokevirtual 90, 3) := by decide +kernel
theorem dX12_gather_32 : decode cX12_gather 32 = .ok (.if_icmp .ge 86, 3) := by decide +kernel
theorem dX12_gather_35 : decode cX12_gather 35 = .ok (.aload_n 1, 1) := by decide +kernel
theorem dX12_gather_36 : decode cX12_gather 36 = .ok (.iload_n 3, 1) := by decide +kernel
theorem dX12_gather_37 : decode cX12_gather 37 = .ok (.iaload, 1) := by decide +kernel
theorem dX12_gather_38 : decode cX12_gather 38 = .ok (.istore 4, 2) := by decide +kernel
theorem dX12_gather_40 : decode cX12_gather 40 = .ok (.aload_n 0, 1) := by decide +kernel
theorem dX12_gather_41 : decode cX12_gather 41 = .ok (.getfield 58, 3) := by decide +kernel
theorem dX12_gather_44 : decode cX12_gather 44 = .ok (.iload 4, 2) := by decide +kernel
theorem dX12_gather_46 : decode cX12_gather 46 = .ok (.iaload, 1) := by decide +kernel
theorem dX12_gather_47 : decode cX12_gather 47 = .ok (.iconst (-1), 1) := by decide +kernel
theorem dX12_gather_48 : decode cX12_gather 48 = .ok (.if_icmp .eq 6, 3) := by decide +kernel
theorem dX12_gather_51 : decode cX12_gather 51 = .ok (.goto 61, 3) := by decide +kernel
theorem dX12_gather_54 : decode cX12_gather 54 = .ok (.iconst 0, 1) := by decide +kernel
theorem dX12_gather_55 : decode cX12_gather 55 = .ok (.istore 5, 2) := by decide +kernel
theorem dX12_gather_57 : decode cX12_gather 57 = .ok (.iload 5, 2) := by decide +kernel
theorem dX12_gather_59 : decode cX12_gather 59 = .ok (.aload_n 0, 1) := by decide +kernel
theorem dX12_gather_60 : decode cX12_gather 60 = .ok (.invokevirtual 90, 3) := by decide +kernel
theorem dX12_gather_63 : decode cX12_gather 63 = .ok (.if_icmp .ge 46, 3) := by decide +kernel
theorem dX12_gather_66 : decode cX12_gather 66 = .ok (.aload_n 0, 1) := by decide +kernel
theorem dX12_gather_67 : decode cX12_gather 67 = .ok (.getfield 58, 3) := by decide +kernel
theorem dX12_gather_70 : decode cX12_gather 70 = .ok (.iload 5, 2) := by decide +kernel
theorem dX12_gather_72 : decode cX12_gather 72 = .ok (.iaload, 1) := by decide +kernel
theorem dX12_gather_73 : decode cX12_gather 73 = .ok (.iconst (-1), 1) := by decide +kernel
theorem dX12_gather_74 : decode cX12_gather 74 = .ok (.if_icmp .ne 29, 3) := by decide +kernel
theorem dX12_gather_77 : decode cX12_gather 77 = .ok (.iload 5, 2) := by decide +kernel
theorem dX12_gather_79 : decode cX12_gather 79 = .ok (.iload 4, 2) := by decide +kernel
theorem dX12_gather_81 : decode cX12_gather 81 = .ok (.if_icmp .eq 14, 3) := by decide +kernel
theorem dX12_gather_84 : decode cX12_gather 84 = .ok (.aload_n 0, 1) := by decide +kernel
theorem dX12_gather_85 : decode cX12_gather 85 = .ok (.iload 4, 2) := by decide +kernel
theorem dX12_gather_87 : decode cX12_gather 87 = .ok (.iload 5, 2) := by decide +kernel
theorem dX12_gather_89 : decode cX12_gather 89 = .ok (.invokevirtual 189, 3) := by decide +kernel
theorem dX12_gather_92 : decode cX12_gather 92 = .ok (.ifCond .eq 11, 3) := by decide +kernel
theorem dX12_gather_95 : decode cX12_gather 95 = .ok (.aload_n 0, 1) := by decide +kernel
theorem dX12_gather_96 : decode cX12_gather 96 = .ok (.getfield 58, 3) := by decide +kernel
theorem dX12_gather_99 : decode cX12_gather 99 = .ok (.iload 5, 2) := by decide +kernel
theorem dX12_gather_101 : decode cX12_gather 101 = .ok (.iload_n 2, 1) := by decide +kernel
theorem dX12_gather_102 : decode cX12_gather 102 = .ok (.iastore, 1) := by decide +kernel
theorem dX12_gather_103 : decode cX12_gather 103 = .ok (.iinc 5 1, 3) := by decide +kernel
theorem dX12_gather_106 : decode cX12_gather 106 = .ok (.goto (-49), 3) := by decide +kernel
theorem dX12_gather_109 : decode cX12_gather 109 = .ok (.iinc 2 1, 3) := by decide +kernel
theorem dX12_gather_112 : decode cX12_gather 112 = .ok (.iinc 3 1, 3) := by decide +kernel
theorem dX12_gather_115 : decode cX12_gather 115 = .ok (.goto (-88), 3) := by decide +kernel
theorem dX12_gather_118 : decode cX12_gather 118 = .ok (.aload_n 0, 1) := by decide +kernel
theorem dX12_gather_119 : decode cX12_gather 119 = .ok (.aload_n 0, 1) := by decide +kernel
theorem dX12_gather_120 : decode cX12_gather 120 = .ok (.getfield 58, 3) := by decide +kernel
theorem dX12_gather_123 : decode cX12_gather 123 = .ok (.invokevirtual 147, 3) := by decide +kernel
theorem dX12_gather_126 : decode cX12_gather 126 = .ok (.pop, 1) := by decide +kernel
theorem dX12_gather_127 : decode cX12_gather 127 = .ok (.aload_n 0, 1) := by decide +kernel
theorem dX12_gather_128 : decode cX12_gather 128 = .ok (.aload_n 0, 1) := by decide +kernel
theorem dX12_gather_129 : decode cX12_gather 129 = .ok (.getfield 58, 3) := by decide +kernel
theorem dX12_gather_132 : decode cX12_gather 132 = .ok (.iconst 3, 1) := by decide +kernel
theorem dX12_gather_133 : decode cX12_gather 133 = .ok (.invokevirtual 163, 3) := by decide +kernel
theorem dX12_gather_136 : decode cX12_gather 136 = .ok (.lreturn, 1) := by decide +kernel
theorem dX12_third_0 : decode cX12_third 0 = .ok (.aload_n 0, 1) := by decide +kernel
theorem dX12_third_1 : decode cX12_third 1 = .ok (.iconst 0, 1) := by decide +kernel
theorem dX12_third_2 : decode cX12_third 2 = .ok (.putfield 77, 3) := by decide +kernel
theorem dX12_third_5 : decode cX12_third 5 = .ok (.aload_n 0, 1) := by decide +kernel
theorem dX12_third_6 : decode cX12_third 6 = .ok (.invokevirtual 102, 3) := by decide +kernel
theorem dX12_third_9 : decode cX12_third 9 = .ok (.iconst 0, 1) := by decide +kernel
theorem dX12_third_10 : decode cX12_third 10 = .ok (.istore_n 2, 1) := by decide +kernel
theorem dX12_third_11 : decode cX12_third 11 = .ok (.iload_n 2, 1) := by decide +kernel
theorem dX12_third_12 : decode cX12_third 12 = .ok (.aload_n 0, 1) := by decide +kernel
theorem dX12_third_13 : decode cX12_third 13 = .ok (.invokevirtual 90, 3) := by decide +kernel
theorem dX12_third_16 : decode cX12_third 16 = .ok (.if_icmp .ge 16, 3) := by decide +kernel
theorem dX12_third_19 : decode cX12_third 19 = .ok (.aload_n 0, 1) := by decide +kernel
theorem dX12_third_20 : decode cX12_third 20 = .ok (.getfield 70, 3) := by decide +kernel
theorem dX12_third_23 : decode cX12_third 23 = .ok (.iload_n 2, 1) := by decide +kernel
theorem dX12_third_24 : decode cX12_third 24 = .ok (.iload_n 2, 1) := by decide +kernel
theorem dX12_third_25 : decode cX12_third 25 = .ok (.iastore, 1) := by decide +kernel
theorem dX12_third_26 : decode cX12_third 26 = .ok (.iinc 2 1, 3) := by decide +kernel
theorem dX12_third_29 : decode cX12_third 29 = .ok (.goto (-18), 3) := by decide +kernel
theorem dX12_third_32 : decode cX12_third 32 = .ok (.iload_n 1, 1) := by decide +kernel
theorem dX12_third_33 : decode cX12_third 33 = .ok (.istore_n 2, 1) := by decide +kernel
theorem dX12_third_34 : decode cX12_third 34 = .ok (.aload_n 0, 1) := by decide +kernel
theorem dX12_third_35 : decode cX12_third 35 = .ok (.invokevirtual 90, 3) := by decide +kernel
theorem dX12_third_38 : decode cX12_third 38 = .ok (.iconst 1, 1) := by decide +kernel
theorem dX12_third_39 : decode cX12_third 39 = .ok (.isub, 1) := by decide +kernel
theorem dX12_third_40 : decode cX12_third 40 = .ok (.istore_n 3, 1) := by decide +kernel
theorem dX12_third_41 : decode cX12_third 41 = .ok (.iload_n 3, 1) := by decide +kernel
theorem dX12_third_42 : decode cX12_third 42 = .ok (.ifCond .le 58, 3) := by decide +kernel
theorem dX12_third_45 : decode cX12_third 45 = .ok (.iload_n 2, 1) := by decide +kernel
theorem dX12_third_46 : decode cX12_third 46 = .ok (.ldc 192, 2) := by decide +kernel
theorem dX12_third_48 : decode cX12_third 48 = .ok (.imul, 1) := by decide +kernel
theorem dX12_third_49 : decode cX12_third 49 = .ok (.sipush 12345, 3) := by decide +kernel
theorem dX12_third_52 : decode cX12_third 52 = .ok (.iadd, 1) := by decide +kernel
theorem dX12_third_53 : decode cX12_third 53 = .ok (.istore_n 2, 1) := by decide +kernel
theorem dX12_third_54 : decode cX12_third 54 = .ok (.iload_n 2, 1) := by decide +kernel
theorem dX12_third_55 : decode cX12_third 55 = .ok (.bipush 16, 2) := by decide +kernel
theorem dX12_third_57 : decode cX12_third 57 = .ok (.iushr, 1) := by decide +kernel
theorem dX12_third_58 : decode cX12_third 58 = .ok (.iload_n 3, 1) := by decide +kernel
theorem dX12_third_59 : decode cX12_third 59 = .ok (.iconst 1, 1) := by decide +kernel
theorem dX12_third_60 : decode cX12_third 60 = .ok (.iadd, 1) := by decide +kernel
theorem dX12_third_61 : decode cX12_third 61 = .ok (.irem, 1) := by decide +kernel
theorem dX12_third_62 : decode cX12_third 62 = .ok (.istore 4, 2) := by decide +kernel
theorem dX12_third_64 : decode cX12_third 64 = .ok (.aload_n 0, 1) := by decide +kernel
theorem dX12_third_65 : decode cX12_third 65 = .ok (.getfield 70, 3) := by decide +kernel
theorem dX12_third_68 : decode cX12_third 68 = .ok (.iload_n 3, 1) := by decide +kernel
theorem dX12_third_69 : decode cX12_third 69 = .ok (.iaload, 1) := by decide +kernel
theorem dX12_third_70 : decode cX12_third 70 = .ok (.istore 5, 2) := by decide +kernel
theorem dX12_third_72 : decode cX12_third 72 = .ok (.aload_n 0, 1) := by decide +kernel
theorem dX12_third_73 : decode cX12_third 73 = .ok (.getfield 70, 3) := by decide +kernel
theorem dX12_third_76 : decode cX12_third 76 = .ok (.iload_n 3, 1) := by decide +kernel
theorem dX12_third_77 : decode cX12_third 77 = .ok (.aload_n 0, 1) := by decide +kernel
theorem dX12_third_78 : decode cX12_third 78 = .ok (.getfield 70, 3) := by decide +kernel
theorem dX12_third_81 : decode cX12_third 81 = .ok (.iload 4, 2) := by decide +kernel
theorem dX12_third_83 : decode cX12_third 83 = .ok (.iaload, 1) := by decide +kernel
theorem dX12_third_84 : decode cX12_third 84 = .ok (.iastore, 1) := by decide +kernel
theorem dX12_third_85 : decode cX12_third 85 = .ok (.aload_n 0, 1) := by decide +kernel
theorem dX12_third_86 : decode cX12_third 86 = .ok (.getfield 70, 3) := by decide +kernel
theorem dX12_third_89 : decode cX12_third 89 = .ok (.iload 4, 2) := by decide +kernel
theorem dX12_third_91 : decode cX12_third 91 = .ok (.iload 5, 2) := by decide +kernel
theorem dX12_third_93 : decode cX12_third 93 = .ok (.iastore, 1) := by decide +kernel
theorem dX12_third_94 : decode cX12_third 94 = .ok (.iinc 3 (-1), 3) := by decide +kernel
theorem dX12_third_97 : decode cX12_third 97 = .ok (.goto (-56), 3) := by decide +kernel
theorem dX12_third_100 : decode cX12_third 100 = .ok (.aload_n 0, 1) := by decide +kernel
theorem dX12_third_101 : decode cX12_third 101 = .ok (.aload_n 0, 1) := by decide +kernel
theorem dX12_third_102 : decode cX12_third 102 = .ok (.getfield 70, 3) := by decide +kernel
theorem dX12_third_105 : decode cX12_third 105 = .ok (.invokevirtual 193, 3) := by decide +kernel
theorem dX12_third_108 : decode cX12_third 108 = .ok (.lstore_n 3, 1) := by decide +kernel
theorem dX12_third_109 : decode cX12_third 109 = .ok (.aload_n 0, 1) := by decide +kernel
theorem dX12_third_110 : decode cX12_third 110 = .ok (.aload_n 0, 1) := by decide +kernel
theorem dX12_third_111 : decode cX12_third 111 = .ok (.getfield 58, 3) := by decide +kernel
theorem dX12_third_114 : decode cX12_third 114 = .ok (.invokevirtual 150, 3) := by decide +kernel
theorem dX12_third_117 : decode cX12_third 117 = .ok (.lload_n 3, 1) := by decide +kernel
theorem dX12_third_118 : decode cX12_third 118 = .ok (.lreturn, 1) := by decide +kernel
theorem dX12_orders_0 : decode cX12_orders 0 = .ok (.iload_n 1, 1) := by decide +kernel
theorem dX12_orders_1 : decode cX12_orders 1 = .ok (.aload_n 0, 1) := by decide +kernel
theorem dX12_orders_2 : decode cX12_orders 2 = .ok (.invokevirtual 90, 3) := by decide +kernel
theorem dX12_orders_5 : decode cX12_orders 5 = .ok (.if_icmp .ne 12, 3) := by decide +kernel
theorem dX12_orders_8 : decode cX12_orders 8 = .ok (.aload_n 0, 1) := by decide +kernel
theorem dX12_orders_9 : decode cX12_orders 9 = .ok (.aload_n 0, 1) := by decide +kernel
theorem dX12_orders_10 : decode cX12_orders 10 = .ok (.getfield 70, 3) := by decide +kernel
theorem dX12_orders_13 : decode cX12_orders 13 = .ok (.invokevirtual 193, 3) := by decide +kernel
theorem dX12_orders_16 : decode cX12_orders 16 = .ok (.lreturn, 1) := by decide +kernel
theorem dX12_orders_17 : decode cX12_orders 17 = .ok (.lconst 0, 1) := by decide +kernel
theorem dX12_orders_18 : decode cX12_orders 18 = .ok (.lstore_n 2, 1) := by decide +kernel
theorem dX12_orders_19 : decode cX12_orders 19 = .ok (.iload_n 1, 1) := by decide +kernel
theorem dX12_orders_20 : decode cX12_orders 20 = .ok (.istore 4, 2) := by decide +kernel
theorem dX12_orders_22 : decode cX12_orders 22 = .ok (.iload 4, 2) := by decide +kernel
theorem dX12_orders_24 : decode cX12_orders 24 = .ok (.aload_n 0, 1) := by decide +kernel
theorem dX12_orders_25 : decode cX12_orders 25 = .ok (.invokevirtual 90, 3) := by decide +kernel
theorem dX12_orders_28 : decode cX12_orders 28 = .ok (.if_icmp .ge 79, 3) := by decide +kernel
theorem dX12_orders_31 : decode cX12_orders 31 = .ok (.aload_n 0, 1) := by decide +kernel
theorem dX12_orders_32 : decode cX12_orders 32 = .ok (.getfield 70, 3) := by decide +kernel
theorem dX12_orders_35 : decode cX12_orders 35 = .ok (.iload 4, 2) := by decide +kernel
theorem dX12_orders_37 : decode cX12_orders 37 = .ok (.iaload, 1) := by decide +kernel
theorem dX12_orders_38 : decode cX12_orders 38 = .ok (.istore 5, 2) := by decide +kernel
theorem dX12_orders_40 : decode cX12_orders 40 = .ok (.aload_n 0, 1) := by decide +kernel
theorem dX12_orders_41 : decode cX12_orders 41 = .ok (.getfield 70, 3) := by decide +kernel
theorem dX12_orders_44 : decode cX12_orders 44 = .ok (.iload 4, 2) := by decide +kernel
theorem dX12_orders_46 : decode cX12_orders 46 = .ok (.aload_n 0, 1) := by decide +kernel
theorem dX12_orders_47 : decode cX12_orders 47 = .ok (.getfield 70, 3) := by decide +kernel
theorem dX12_orders_50 : decode cX12_orders 50 = .ok (.iload_n 1, 1) := by decide +kernel
theorem dX12_orders_51 : decode cX12_orders 51 = .ok (.iaload, 1) := by decide +kernel
theorem dX12_orders_52 : decode cX12_orders 52 = .ok (.iastore, 1) := by decide +kernel
theorem dX12_orders_53 : decode cX12_orders 53 = .ok (.aload_n 0, 1) := by decide +kernel
theorem dX12_orders_54 : decode cX12_orders 54 = .ok (.getfield 70, 3) := by decide +kernel
theorem dX12_orders_57 : decode cX12_orders 57 = .ok (.iload_n 1, 1) := by decide +kernel
theorem dX12_orders_58 : decode cX12_orders 58 = .ok (.iload 5, 2) := by decide +kernel
theorem dX12_orders_60 : decode cX12_orders 60 = .ok (.iastore, 1) := by decide +kernel
theorem dX12_orders_61 : decode cX12_orders 61 = .ok (.lload_n 2, 1) := by decide +kernel
theorem dX12_orders_62 : decode cX12_orders 62 = .ok (.aload_n 0, 1) := by decide +kernel
theorem dX12_orders_63 : decode cX12_orders 63 = .ok (.iload_n 1, 1) := by decide +kernel
theorem dX12_orders_64 : decode cX12_orders 64 = .ok (.iconst 1, 1) := by decide +kernel
theorem dX12_orders_65 : decode cX12_orders 65 = .ok (.iadd, 1) := by decide +kernel
theorem dX12_orders_66 : decode cX12_orders 66 = .ok (.invokevirtual 197, 3) := by decide +kernel
theorem dX12_orders_69 : decode cX12_orders 69 = .ok (.ladd, 1) := by decide +kernel
theorem dX12_orders_70 : decode cX12_orders 70 = .ok (.lstore_n 2, 1) := by decide +kernel
theorem dX12_orders_71 : decode cX12_orders 71 = .ok (.aload_n 0, 1) := by decide +kernel
theorem dX12_orders_72 : decode cX12_orders 72 = .ok (.getfield 70, 3) := by decide +kernel
theorem dX12_orders_75 : decode cX12_orders 75 = .ok (.iload 4, 2) := by decide +kernel
theorem dX12_orders_77 : decode cX12_orders 77 = .ok (.iaload, 1) := by decide +kernel
theorem dX12_orders_78 : decode cX12_orders 78 = .ok (.istore 5, 2) := by decide +kernel
theorem dX12_orders_80 : decode cX12_orders 80 = .ok (.aload_n 0, 1) := by decide +kernel
theorem dX12_orders_81 : decode cX12_orders 81 = .ok (.getfield 70, 3) := by decide +kernel
theorem dX12_orders_84 : decode cX12_orders 84 = .ok (.iload 4, 2) := by decide +kernel
theorem dX12_orders_86 : decode cX12_orders 86 = .ok (.aload_n 0, 1) := by decide +kernel
theorem dX12_orders_87 : decode cX12_orders 87 = .ok (.getfield 70, 3) := by decide +kernel
theorem dX12_orders_90 : decode cX12_orders 90 = .ok (.iload_n 1, 1) := by decide +kernel
theorem dX12_orders_91 : decode cX12_orders 91 = .ok (.iaload, 1) := by decide +kernel
theorem dX12_orders_92 : decode cX12_orders 92 = .ok (.iastore, 1) := by decide +kernel
theorem dX12_orders_93 : decode cX12_orders 93 = .ok (.aload_n 0, 1) := by decide +kernel
theorem dX12_orders_94 : decode cX12_orders 94 = .ok (.getfield 70, 3) := by decide +kernel
theorem dX12_orders_97 : decode cX12_orders 97 = .ok (.iload_n 1, 1) := by decide +kernel
theorem dX12_orders_98 : decode cX12_orders 98 = .ok (.iload 5, 2) := by decide +kernel
theorem dX12_orders_100 : decode cX12_orders 100 = .ok (.iastore, 1) := by decide +kernel
theorem dX12_orders_101 : decode cX12_orders 101 = .ok (.iinc 4 1, 3) := by decide +kernel
theorem dX12_orders_104 : decode cX12_orders 104 = .ok (.goto (-82), 3) := by decide +kernel
theorem dX12_orders_107 : decode cX12_orders 107 = .ok (.lload_n 2, 1) := by decide +kernel
theorem dX12_orders_108 : decode cX12_orders 108 = .ok (.lreturn, 1) := by decide +kernel
theorem dX12_thirds_0 : decode cX12_thirds 0 = .ok (.aload_n 0, 1) := by decide +kernel
theorem dX12_thirds_1 : decode cX12_thirds 1 = .ok (.iconst 0, 1) := by decide +kernel
theorem dX12_thirds_2 : decode cX12_thirds 2 = .ok (.putfield 77, 3) := by decide +kernel
theorem dX12_thirds_5 : decode cX12_thirds 5 = .ok (.aload_n 0, 1) := by decide +kernel
theorem dX12_thirds_6 : decode cX12_thirds 6 = .ok (.invokevirtual 90, 3) := by decide +kernel
theorem dX12_thirds_9 : decode cX12_thirds 9 = .ok (.bipush 7, 2) := by decide +kernel
theorem dX12_thirds_11 : decode cX12_thirds 11 = .ok (.if_icmp .le 10, 3) := by decide +kernel
theorem dX12_thirds_14 : decode cX12_thirds 14 = .ok (.aload_n 0, 1) := by decide +kernel
theorem dX12_thirds_15 : decode cX12_thirds 15 = .ok (.iconst 3, 1) := by decide +kernel
theorem dX12_thirds_16 : decode cX12_thirds 16 = .ok (.invokevirtual 98, 3) := by decide +kernel
theorem dX12_thirds_19 : decode cX12_thirds 19 = .ok (.i2l, 1) := by decide +kernel
theorem dX12_thirds_20 : decode cX12_thirds 20 = .ok (.lreturn, 1) := by decide +kernel
theorem dX12_thirds_21 : decode cX12_thirds 21 = .ok (.iconst 0, 1) := by decide +kernel
theorem dX12_thirds_22 : decode cX12_thirds 22 = .ok (.istore_n 1, 1) := by decide +kernel
theorem dX12_thirds_23 : decode cX12_thirds 23 = .ok (.iload_n 1, 1) := by decide +kernel
theorem dX12_thirds_24 : decode cX12_thirds 24 = .ok (.aload_n 0, 1) := by decide +kernel
theorem dX12_thirds_25 : decode cX12_thirds 25 = .ok (.invokevirtual 90, 3) := by decide +kernel
theorem dX12_thirds_28 : decode cX12_thirds 28 = .ok (.if_icmp .ge 16, 3) := by decide +kernel
theorem dX12_thirds_31 : decode cX12_thirds 31 = .ok (.aload_n 0, 1) := by decide +kernel
theorem dX12_thirds_32 : decode cX12_thirds 32 = .ok (.getfield 70, 3) := by decide +kernel
theorem dX12_thirds_35 : decode cX12_thirds 35 = .ok (.iload_n 1, 1) := by decide +kernel
theorem dX12_thirds_36 : decode cX12_thirds 36 = .ok (.iload_n 1, 1) := by decide +kernel
theorem dX12_thirds_37 : decode cX12_thirds 37 = .ok (.iastore, 1) := by decide +kernel
theorem dX12_thirds_38 : decode cX12_thirds 38 = .ok (.iinc 1 1, 3) := by decide +kernel
theorem dX12_thirds_41 : decode cX12_thirds 41 = .ok (.goto (-18), 3) := by decide +kernel
theorem dX12_thirds_44 : decode cX12_thirds 44 = .ok (.aload_n 0, 1) := by decide +kernel
theorem dX12_thirds_45 : decode cX12_thirds 45 = .ok (.iconst 0, 1) := by decide +kernel
theorem dX12_thirds_46 : decode cX12_thirds 46 = .ok (.invokevirtual 197, 3) := by decide +kernel
theorem dX12_thirds_49 : decode cX12_thirds 49 = .ok (.lreturn, 1) := by decide +kernel
theorem dX12_rounds_0 : decode cX12_rounds 0 = .ok (.aload_n 0, 1) := by decide +kernel
theorem dX12_rounds_1 : decode cX12_rounds 1 = .ok (.iconst 0, 1) := by decide +kernel
theorem dX12_rounds_2 : decode cX12_rounds 2 = .ok (.putfield 77, 3) := by decide +kernel
theorem dX12_rounds_5 : decode cX12_rounds 5 = .ok (.iconst 0, 1) := by decide +kernel
theorem dX12_rounds_6 : decode cX12_rounds 6 = .ok (.istore_n 1, 1) := by decide +kernel
theorem dX12_rounds_7 : decode cX12_rounds 7 = .ok (.iconst 0, 1) := by decide +kernel
theorem dX12_rounds_8 : decode cX12_rounds 8 = .ok (.istore_n 2, 1) := by decide +kernel
theorem dX12_rounds_9 : decode cX12_rounds 9 = .ok (.iload_n 2, 1) := by decide +kernel
theorem dX12_rounds_10 : decode cX12_rounds 10 = .ok (.aload_n 0, 1) := by decide +kernel
theorem dX12_rounds_11 : decode cX12_rounds 11 = .ok (.invokevirtual 90, 3) := by decide +kernel
theorem dX12_rounds_14 : decode cX12_rounds 14 = .ok (.if_icmp .ge 151, 3) := by decide +kernel
theorem dX12_rounds_17 : decode cX12_rounds 17 = .ok (.iload_n 2, 1) := by decide +kernel
theorem dX12_rounds_18 : decode cX12_rounds 18 = .ok (.iconst 1, 1) := by decide +kernel
theorem dX12_rounds_19 : decode cX12_rounds 19 = .ok (.iadd, 1) := by decide +kernel
theorem dX12_rounds_20 : decode cX12_rounds 20 = .ok (.istore_n 3, 1) := by decide +kernel
theorem dX12_rounds_21 : decode cX12_rounds 21 = .ok (.iload_n 3, 1) := by decide +kernel
theorem dX12_rounds_22 : decode cX12_rounds 22 = .ok (.aload_n 0, 1) := by decide +kernel
theorem dX12_rounds_23 : decode cX12_rounds 23 = .ok (.invokevirtual 90, 3) := by decide +kernel
theorem dX12_rounds_26 : decode cX12_rounds 26 = .ok (.if_icmp .ge 133, 3) := by decide +kernel
theorem dX12_rounds_29 : decode cX12_rounds 29 = .ok (.iload_n 3, 1) := by decide +kernel
theorem dX12_rounds_30 : decode cX12_rounds 30 = .ok (.iconst 1, 1) := by decide +kernel
theorem dX12_rounds_31 : decode cX12_rounds 31 = .ok (.iadd, 1) := by decide +kernel
theorem dX12_rounds_32 : decode cX12_rounds 32 = .ok (.istore 4, 2) := by decide +kernel
theorem dX12_rounds_34 : decode cX12_rounds 34 = .ok (.iload 4, 2) := by decide +kernel
theorem dX12_rounds_36 : decode cX12_rounds 36 = .ok (.aload_n 0, 1) := by decide +kernel
theorem dX12_rounds_37 : decode cX12_rounds 37 = .ok (.invokevirtual 90, 3) := by decide +kernel
theorem dX12_rounds_40 : decode cX12_rounds 40 = .ok (.if_icmp .ge 113, 3) := by decide +kernel
theorem dX12_rounds_43 : decode cX12_rounds 43 = .ok (.aload_n 0, 1) := by decide +kernel
theorem dX12_rounds_44 : decode cX12_rounds 44 = .ok (.getfield 19, 3) := by decide +kernel
theorem dX12_rounds_47 : decode cX12_rounds 47 = .ok (.bipush 12, 2) := by decide +kernel
theorem dX12_rounds_49 : decode cX12_rounds 49 = .ok (.iload_n 2, 1) := by decide +kernel
theorem dX12_rounds_50 : decode cX12_rounds 50 = .ok (.imul, 1) := by decide +kernel
theorem dX12_rounds_51 : decode cX12_rounds 51 = .ok (.iload_n 3, 1) := by decide +kernel
theorem dX12_rounds_52 : decode cX12_rounds 52 = .ok (.iadd, 1) := by decide +kernel
theorem dX12_rounds_53 : decode cX12_rounds 53 = .ok (.iaload, 1) := by decide +kernel
theorem dX12_rounds_54 : decode cX12_rounds 54 = .ok (.ifCond .eq 93, 3) := by decide +kernel
theorem dX12_rounds_57 : decode cX12_rounds 57 = .ok (.aload_n 0, 1) := by decide +kernel
theorem dX12_rounds_58 : decode cX12_rounds 58 = .ok (.getfield 19, 3) := by decide +kernel
theorem dX12_rounds_61 : decode cX12_rounds 61 = .ok (.bipush 12, 2) := by decide +kernel
theorem dX12_rounds_63 : decode cX12_rounds 63 = .ok (.iload_n 2, 1) := by decide +kernel
theorem dX12_rounds_64 : decode cX12_rounds 64 = .ok (.imul, 1) := by decide +kernel
theorem dX12_rounds_65 : decode cX12_rounds 65 = .ok (.iload 4, 2) := by decide +kernel
theorem dX12_rounds_67 : decode cX12_rounds 67 = .ok (.iadd, 1) := by decide +kernel
theorem dX12_rounds_68 : decode cX12_rounds 68 = .ok (.iaload, 1) := by decide +kernel
theorem dX12_rounds_69 : decode cX12_rounds 69 = .ok (.ifCond .eq 78, 3) := by decide +kernel
theorem dX12_rounds_72 : decode cX12_rounds 72 = .ok (.aload_n 0, 1) := by decide +kernel
theorem dX12_rounds_73 : decode cX12_rounds 73 = .ok (.getfield 19, 3) := by decide +kernel
theorem dX12_rounds_76 : decode cX12_rounds 76 = .ok (.bipush 12, 2) := by decide +kernel
theorem dX12_rounds_78 : decode cX12_rounds 78 = .ok (.iload_n 3, 1) := by decide +kernel
theorem dX12_rounds_79 : decode cX12_rounds 79 = .ok (.imul, 1) := by decide +kernel
theorem dX12_rounds_80 : decode cX12_rounds 80 = .ok (.iload 4, 2) := by decide +kernel
theorem dX12_rounds_82 : decode cX12_rounds 82 = .ok (.iadd, 1) := by decide +kernel
theorem dX12_rounds_83 : decode cX12_rounds 83 = .ok (.iaload, 1) := by decide +kernel
theorem dX12_rounds_84 : decode cX12_rounds 84 = .ok (.ifCond .ne 6, 3) := by decide +kernel
theorem dX12_rounds_87 : decode cX12_rounds 87 = .ok (.goto 60, 3) := by decide +kernel
theorem dX12_rounds_90 : decode cX12_rounds 90 = .ok (.aload_n 0, 1) := by decide +kernel
theorem dX12_rounds_91 : decode cX12_rounds 91 = .ok (.iload_n 2, 1) := by decide +kernel
theorem dX12_rounds_92 : decode cX12_rounds 92 = .ok (.iload_n 3, 1) := by decide +kernel
theorem dX12_rounds_93 : decode cX12_rounds 93 = .ok (.invokevirtual 189, 3) := by decide +kernel
theorem dX12_rounds_96 : decode cX12_rounds 96 = .ok (.ifCond .eq 7, 3) := by decide +kernel
theorem dX12_rounds_99 : decode cX12_rounds 99 = .ok (.iconst 1, 1) := by decide +kernel
theorem dX12_rounds_100 : decode cX12_rounds 100 = .ok (.goto 4, 3) := by decide +kernel
theorem dX12_rounds_103 : decode cX12_rounds 103 = .ok (.iconst 0, 1) := by decide +kernel
theorem dX12_rounds_104 : decode cX12_rounds 104 = .ok (.aload_n 0, 1) := by decide +kernel
theorem dX12_rounds_105 : decode cX12_rounds 105 = .ok (.iload_n 2, 1) := by decide +kernel
theorem dX12_rounds_106 : decode cX12_rounds 106 = .ok (.iload 4, 2) := by decide +kernel
theorem dX12_rounds_108 : decode cX12_rounds 108 = .ok (.invokevirtual 189, 3) := by decide +kernel
theorem dX12_rounds_111 : decode cX12_rounds 111 = .ok (.ifCond .eq 7, 3) := by decide +kernel
theorem dX12_rounds_114 : decode cX12_rounds 114 = .ok (.iconst 1, 1) := by decide +kernel
theorem dX12_rounds_115 : decode cX12_rounds 115 = .ok (.goto 4, 3) := by decide +kernel
theorem dX12_rounds_118 : decode cX12_rounds 118 = .ok (.iconst 0, 1) := by decide +kernel
theorem dX12_rounds_119 : decode cX12_rounds 119 = .ok (.iadd, 1) := by decide +kernel
theorem dX12_rounds_120 : decode cX12_rounds 120 = .ok (.aload_n 0, 1) := by decide +kernel
theorem dX12_rounds_121 : decode cX12_rounds 121 = .ok (.iload_n 3, 1) := by decide +kernel
theorem dX12_rounds_122 : decode cX12_rounds 122 = .ok (.iload 4, 2) := by decide +kernel
theorem dX12_rounds_124 : decode cX12_rounds 124 = .ok (.invokevirtual 189, 3) := by decide +kernel
theorem dX12_rounds_127 : decode cX12_rounds 127 = .ok (.ifCond .eq 7, 3) := by decide +kernel
theorem dX12_rounds_130 : decode cX12_rounds 130 = .ok (.iconst 1, 1) := by decide +kernel
theorem dX12_rounds_131 : decode cX12_rounds 131 = .ok (.goto 4, 3) := by decide +kernel
theorem dX12_rounds_134 : decode cX12_rounds 134 = .ok (.iconst 0, 1) := by decide +kernel
theorem dX12_rounds_135 : decode cX12_rounds 135 = .ok (.iadd, 1) := by decide +kernel
theorem dX12_rounds_136 : decode cX12_rounds 136 = .ok (.istore 5, 2) := by decide +kernel
theorem dX12_rounds_138 : decode cX12_rounds 138 = .ok (.iload 5, 2) := by decide +kernel
theorem dX12_rounds_140 : decode cX12_rounds 140 = .ok (.iconst 2, 1) := by decide +kernel
theorem dX12_rounds_141 : decode cX12_rounds 141 = .ok (.if_icmp .ne 6, 3) := by decide +kernel
theorem dX12_rounds_144 : decode cX12_rounds 144 = .ok (.iinc 1 1, 3) := by decide +kernel
theorem dX12_rounds_147 : decode cX12_rounds 147 = .ok (.iinc 4 1, 3) := by decide +kernel
theorem dX12_rounds_150 : decode cX12_rounds 150 = .ok (.goto (-116), 3) := by decide +kernel
theorem dX12_rounds_153 : decode cX12_rounds 153 = .ok (.iinc 3 1, 3) := by decide +kernel
theorem dX12_rounds_156 : decode cX12_rounds 156 = .ok (.goto (-135), 3) := by decide +kernel
theorem dX12_rounds_159 : decode cX12_rounds 159 = .ok (.iinc 2 1, 3) := by decide +kernel
theorem dX12_rounds_162 : decode cX12_rounds 162 = .ok (.goto (-153), 3) := by decide +kernel
theorem dX12_rounds_165 : decode cX12_rounds 165 = .ok (.iload_n 1, 1) := by decide +kernel
theorem dX12_rounds_166 : decode cX12_rounds 166 = .ok (.ireturn, 1) := by decide +kernel
theorem dX12_heightOf_0 : decode cX12_heightOf 0 = .ok (.iconst (-1), 1) := by decide +kernel
theorem dX12_heightOf_1 : decode cX12_heightOf 1 = .ok (.istore 4, 2) := by decide +kernel
theorem dX12_heightOf_3 : decode cX12_heightOf 3 = .ok (.iconst 0, 1) := by decide +kernel
theorem dX12_heightOf_4 : decode cX12_heightOf 4 = .ok (.istore 5, 2) := by decide +kernel
theorem dX12_heightOf_6 : decode cX12_heightOf 6 = .ok (.iload 5, 2) := by decide +kernel
theorem dX12_heightOf_8 : decode cX12_heightOf 8 = .ok (.aload_n 0, 1) := by decide +kernel
theorem dX12_heightOf_9 : decode cX12_heightOf 9 = .ok (.invokevirtual 90, 3) := by decide +kernel
theorem dX12_heightOf_12 : decode cX12_heightOf 12 = .ok (.if_icmp .ge 101, 3) := by decide +kernel
theorem dX12_heightOf_15 : decode cX12_heightOf 15 = .ok (.iconst 0, 1) := by decide +kernel
theorem dX12_heightOf_16 : decode cX12_heightOf 16 = .ok (.istore 6, 2) := by decide +kernel
theorem dX12_heightOf_18 : decode cX12_heightOf 18 = .ok (.iload 6, 2) := by decide +kernel
theorem dX12_heightOf_20 : decode cX12_heightOf 20 = .ok (.aload_n 0, 1) := by decide +kernel
theorem dX12_heightOf_21 : decode cX12_heightOf 21 = .ok (.invokevirtual 90, 3) := by decide +kernel
theorem dX12_heightOf_24 : decode cX12_heightOf 24 = .ok (.if_icmp .ge 83, 3) := by decide +kernel
theorem dX12_heightOf_27 : decode cX12_heightOf 27 = .ok (.aload_n 0, 1) := by decide +kernel
theorem dX12_heightOf_28 : decode cX12_heightOf 28 = .ok (.getfield 58, 3) := by decide +kernel
theorem dX12_heightOf_31 : decode cX12_heightOf 31 = .ok (.iload 5, 2) := by decide +kernel
theorem dX12_heightOf_33 : decode cX12_heightOf 33 = .ok (.iaload, 1) := by decide +kernel
theorem dX12_heightOf_34 : decode cX12_heightOf 34 = .ok (.iload_n 2, 1) := by decide +kernel
theorem dX12_heightOf_35 : decode cX12_heightOf 35 = .ok (.if_icmp .ne 66, 3) := by decide +kernel
theorem dX12_heightOf_38 : decode cX12_heightOf 38 = .ok (.aload_n 0, 1) := by decide +kernel
theorem dX12_heightOf_39 : decode cX12_heightOf 39 = .ok (.getfield 58, 3) := by decide +kernel
theorem dX12_heightOf_42 : decode cX12_heightOf 42 = .ok (.iload 6, 2) := by decide +kernel
theorem dX12_heightOf_44 : decode cX12_heightOf 44 = .ok (.iaload, 1) := by decide +kernel
theorem dX12_heightOf_45 : decode cX12_heightOf 45 = .ok (.iload_n 3, 1) := by decide +kernel
theorem dX12_heightOf_46 : decode cX12_heightOf 46 = .ok (.if_icmp .eq 6, 3) := by decide +kernel
theorem dX12_heightOf_49 : decode cX12_heightOf 49 = .ok (.goto 52, 3) := by decide +kernel
theorem dX12_heightOf_52 : decode cX12_heightOf 52 = .ok (.aload_n 0, 1) := by decide +kernel
theorem dX12_heightOf_53 : decode cX12_heightOf 53 = .ok (.getfield 16, 3) := by decide +kernel
theorem dX12_heightOf_56 : decode cX12_heightOf 56 = .ok (.bipush 12, 2) := by decide +kernel
theorem dX12_heightOf_58 : decode cX12_heightOf 58 = .ok (.iload 5, 2) := by decide +kernel
theorem dX12_heightOf_60 : decode cX12_heightOf 60 = .ok (.imul, 1) := by decide +kernel
theorem dX12_heightOf_61 : decode cX12_heightOf 61 = .ok (.iload 6, 2) := by decide +kernel
theorem dX12_heightOf_63 : decode cX12_heightOf 63 = .ok (.iadd, 1) := by decide +kernel
theorem dX12_heightOf_64 : decode cX12_heightOf 64 = .ok (.iaload, 1) := by decide +kernel
theorem dX12_heightOf_65 : decode cX12_heightOf 65 = .ok (.istore 7, 2) := by decide +kernel
theorem dX12_heightOf_67 : decode cX12_heightOf 67 = .ok (.iload 4, 2) := by decide +kernel
theorem dX12_heightOf_69 : decode cX12_heightOf 69 = .ok (.iconst (-1), 1) := by decide +kernel
theorem dX12_heightOf_70 : decode cX12_heightOf 70 = .ok (.if_icmp .ne 8, 3) := by decide +kernel
theorem dX12_heightOf_73 : decode cX12_heightOf 73 = .ok (.iload 7, 2) := by decide +kernel
theorem dX12_heightOf_75 : decode cX12_heightOf 75 = .ok (.goto 24, 3) := by decide +kernel
theorem dX12_heightOf_78 : decode cX12_heightOf 78 = .ok (.iload_n 1, 1) := by decide +kernel
theorem dX12_heightOf_79 : decode cX12_heightOf 79 = .ok (.ifCond .ne 13, 3) := by decide +kernel
theorem dX12_heightOf_82 : decode cX12_heightOf 82 = .ok (.iload 4, 2) := by decide +kernel
theorem dX12_heightOf_84 : decode cX12_heightOf 84 = .ok (.iload 7, 2) := by decide +kernel
theorem dX12_heightOf_86 : decode cX12_heightOf 86 = .ok (.invokestatic 201, 3) := by decide +kernel
theorem dX12_heightOf_89 : decode cX12_heightOf 89 = .ok (.goto 10, 3) := by decide +kernel
theorem dX12_heightOf_92 : decode cX12_heightOf 92 = .ok (.iload 4, 2) := by decide +kernel
theorem dX12_heightOf_94 : decode cX12_heightOf 94 = .ok (.iload 7, 2) := by decide +kernel
theorem dX12_heightOf_96 : decode cX12_heightOf 96 = .ok (.invokestatic 125, 3) := by decide +kernel
theorem dX12_heightOf_99 : decode cX12_heightOf 99 = .ok (.istore 4, 2) := by decide +kernel
theorem dX12_heightOf_101 : decode cX12_heightOf 101 = .ok (.iinc 6 1, 3) := by decide +kernel
theorem dX12_heightOf_104 : decode cX12_heightOf 104 = .ok (.goto (-86), 3) := by decide +kernel
theorem dX12_heightOf_107 : decode cX12_heightOf 107 = .ok (.iinc 5 1, 3) := by decide +kernel
theorem dX12_heightOf_110 : decode cX12_heightOf 110 = .ok (.goto (-104), 3) := by decide +kernel
theorem dX12_heightOf_113 : decode cX12_heightOf 113 = .ok (.iload 4, 2) := by decide +kernel
theorem dX12_heightOf_115 : decode cX12_heightOf 115 = .ok (.ireturn, 1) := by decide +kernel
theorem dX12_tree_0 : decode cX12_tree 0 = .ok (.aload_n 0, 1) := by decide +kernel
theorem dX12_tree_1 : decode cX12_tree 1 = .ok (.iconst 0, 1) := by decide +kernel
theorem dX12_tree_2 : decode cX12_tree 2 = .ok (.putfield 77, 3) := by decide +kernel
theorem dX12_tree_5 : decode cX12_tree 5 = .ok (.iload_n 1, 1) := by decide +kernel
theorem dX12_tree_6 : decode cX12_tree 6 = .ok (.ifCond .lt 8, 3) := by decide +kernel
theorem dX12_tree_9 : decode cX12_tree 9 = .ok (.iload_n 1, 1) := by decide +kernel
theorem dX12_tree_10 : decode cX12_tree 10 = .ok (.iconst 1, 1) := by decide +kernel
theorem dX12_tree_11 : decode cX12_tree 11 = .ok (.if_icmp .le 9, 3) := by decide +kernel
theorem dX12_tree_14 : decode cX12_tree 14 = .ok (.aload_n 0, 1) := by decide +kernel
theorem dX12_tree_15 : decode cX12_tree 15 = .ok (.iconst 1, 1) := by decide +kernel
theorem dX12_tree_16 : decode cX12_tree 16 = .ok (.invokevirtual 98, 3) := by decide +kernel
theorem dX12_tree_19 : decode cX12_tree 19 = .ok (.ireturn, 1) := by decide +kernel
theorem dX12_tree_20 : decode cX12_tree 20 = .ok (.iconst 0, 1) := by decide +kernel
theorem dX12_tree_21 : decode cX12_tree 21 = .ok (.istore_n 2, 1) := by decide +kernel
theorem dX12_tree_22 : decode cX12_tree 22 = .ok (.iload_n 2, 1) := by decide +kernel
theorem dX12_tree_23 : decode cX12_tree 23 = .ok (.aload_n 0, 1) := by decide +kernel
theorem dX12_tree_24 : decode cX12_tree 24 = .ok (.invokevirtual 90, 3) := by decide +kernel
theorem dX12_tree_27 : decode cX12_tree 27 = .ok (.if_icmp .ge 16, 3) := by decide +kernel
theorem dX12_tree_30 : decode cX12_tree 30 = .ok (.aload_n 0, 1) := by decide +kernel
theorem dX12_tree_31 : decode cX12_tree 31 = .ok (.getfield 58, 3) := by decide +kernel
theorem dX12_tree_34 : decode cX12_tree 34 = .ok (.iload_n 2, 1) := by decide +kernel
theorem dX12_tree_35 : decode cX12_tree 35 = .ok (.iload_n 2, 1) := by decide +kernel
theorem dX12_tree_36 : decode cX12_tree 36 = .ok (.iastore, 1) := by decide +kernel
theorem dX12_tree_37 : decode cX12_tree 37 = .ok (.iinc 2 1, 3) := by decide +kernel
theorem dX12_tree_40 : decode cX12_tree 40 = .ok (.goto (-18), 3) := by decide +kernel
theorem dX12_tree_43 : decode cX12_tree 43 = .ok (.aload_n 0, 1) := by decide +kernel
theorem dX12_tree_44 : decode cX12_tree 44 = .ok (.iconst 0, 1) := by decide +kernel
theorem dX12_tree_45 : decode cX12_tree 45 = .ok (.putfield 37, 3) := by decide +kernel
theorem dX12_tree_48 : decode cX12_tree 48 = .ok (.aload_n 0, 1) := by decide +kernel
theorem dX12_tree_49 : decode cX12_tree 49 = .ok (.getfield 37, 3) := by decide +kernel
theorem dX12_tree_52 : decode cX12_tree 52 = .ok (.aload_n 0, 1) := by decide +kernel
theorem dX12_tree_53 : decode cX12_tree 53 = .ok (.invokevirtual 90, 3) := by decide +kernel
theorem dX12_tree_56 : decode cX12_tree 56 = .ok (.iconst 1, 1) := by decide +kernel
theorem dX12_tree_57 : decode cX12_tree 57 = .ok (.isub, 1) := by decide +kernel
theorem dX12_tree_58 : decode cX12_tree 58 = .ok (.if_icmp .ge 193, 3) := by decide +kernel
theorem dX12_tree_61 : decode cX12_tree 61 = .ok (.iconst (-1), 1) := by decide +kernel
theorem dX12_tree_62 : decode cX12_tree 62 = .ok (.istore_n 2, 1) := by decide +kernel
theorem dX12_tree_63 : decode cX12_tree 63 = .ok (.iconst (-1), 1) := by decide +kernel
theorem dX12_tree_64 : decode cX12_tree 64 = .ok (.istore_n 3, 1) := by decide +kernel
theorem dX12_tree_65 : decode cX12_tree 65 = .ok (.iconst 0, 1) := by decide +kernel
theorem dX12_tree_66 : decode cX12_tree 66 = .ok (.istore 4, 2) := by decide +kernel
theorem dX12_tree_68 : decode cX12_tree 68 = .ok (.iconst 0, 1) := by decide +kernel
theorem dX12_tree_69 : decode cX12_tree 69 = .ok (.istore 5, 2) := by decide +kernel
theorem dX12_tree_71 : decode cX12_tree 71 = .ok (.iload 5, 2) := by decide +kernel
theorem dX12_tree_73 : decode cX12_tree 73 = .ok (.aload_n 0, 1) := by decide +kernel
theorem dX12_tree_74 : decode cX12_tree 74 = .ok (.invokevirtual 90, 3) := by decide +kernel
theorem dX12_tree_77 : decode cX12_tree 77 = .ok (.if_icmp .ge 93, 3) := by decide +kernel
theorem dX12_tree_80 : decode cX12_tree 80 = .ok (.iload 5, 2) := by decide +kernel
theorem dX12_tree_82 : decode cX12_tree 82 = .ok (.iconst 1, 1) := by decide +kernel
theorem dX12_tree_83 : decode cX12_tree 83 = .ok (.iadd, 1) := by decide +kernel
theorem dX12_tree_84 : decode cX12_tree 84 = .ok (.istore 6, 2) := by decide +kernel
theorem dX12_tree_86 : decode cX12_tree 86 = .ok (.iload 6, 2) := by decide +kernel
theorem dX12_tree_88 : decode cX12_tree 88 = .ok (.aload_n 0, 1) := by decide +kernel
theorem dX12_tree_89 : decode cX12_tree 89 = .ok (.invokevirtual 90, 3) := by decide +kernel
theorem dX12_tree_92 : decode cX12_tree 92 = .ok (.if_icmp .ge 72, 3) := by decide +kernel
theorem dX12_tree_95 : decode cX12_tree 95 = .ok (.aload_n 0, 1) := by decide +kernel
theorem dX12_tree_96 : decode cX12_tree 96 = .ok (.getfield 58, 3) := by decide +kernel
theorem dX12_tree_99 : decode cX12_tree 99 = .ok (.iload 5, 2) := by decide +kernel
theorem dX12_tree_101 : decode cX12_tree 101 = .ok (.iaload, 1) := by decide +kernel
theorem dX12_tree_102 : decode cX12_tree 102 = .ok (.iload 5, 2) := by decide +kernel
theorem dX12_tree_104 : decode cX12_tree 104 = .ok (.if_icmp .ne 60, 3) := by decide +kernel
theorem dX12_tree_107 : decode cX12_tree 107 = .ok (.aload_n 0, 1) := by decide +kernel
theorem dX12_tree_108 : decode cX12_tree 108 = .ok (.getfield 58, 3) := by decide +kernel
theorem dX12_tree_111 : decode cX12_tree 111 = .ok (.iload 6, 2) := by decide +kernel
theorem dX12_tree_113 : decode cX12_tree 113 = .ok (.iaload, 1) := by decide +kernel
theorem dX12_tree_114 : decode cX12_tree 114 = .ok (.iload 6, 2) := by decide +kernel
theorem dX12_tree_116 : decode cX12_tree 116 = .ok (.if_icmp .eq 6, 3) := by decide +kernel
theorem dX12_tree_119 : decode cX12_tree 119 = .ok (.goto 39, 3) := by decide +kernel
theorem dX12_tree_122 : decode cX12_tree 122 = .ok (.aload_n 0, 1) := by decide +kernel
theorem dX12_tree_123 : decode cX12_tree 123 = .ok (.iload_n 1, 1) := by decide +kernel
theorem dX12_tree_124 : decode cX12_tree 124 = .ok (.iload 5, 2) := by decide +kernel
theorem dX12_tree_126 : decode cX12_tree 126 = .ok (.iload 6, 2) := by decide +kernel
theorem dX12_tree_128 : decode cX12_tree 128 = .ok (.invokevirtual 204, 3) := by decide +kernel
theorem dX12_tree_131 : decode cX12_tree 131 = .ok (.istore 7, 2) := by decide +kernel
theorem dX12_tree_133 : decode cX12_tree 133 = .ok (.iload_n 2, 1) := by decide +kernel
theorem dX12_tree_134 : decode cX12_tree 134 = .ok (.iconst (-1), 1) := by decide +kernel
theorem dX12_tree_135 : decode cX12_tree 135 = .ok (.if_icmp .eq 13, 3) := by decide +kernel
theorem dX12_tree_138 : decode cX12_tree 138 = .ok (.iload 7, 2) := by decide +kernel
theorem dX12_tree_140 : decode cX12_tree 140 = .ok (.iload 4, 2) := by decide +kernel
theorem dX12_tree_142 : decode cX12_tree 142 = .ok (.if_icmp .lt 6, 3) := by decide +kernel
theorem dX12_tree_145 : decode cX12_tree 145 = .ok (.goto 13, 3) := by decide +kernel
theorem dX12_tree_148 : decode cX12_tree 148 = .ok (.iload 5, 2) := by decide +kernel
theorem dX12_tree_150 : decode cX12_tree 150 = .ok (.istore_n 2, 1) := by decide +kernel
theorem dX12_tree_151 : decode cX12_tree 151 = .ok (.iload 6, 2) := by decide +kernel
theorem dX12_tree_153 : decode cX12_tree 153 = .ok (.istore_n 3, 1) := by decide +kernel
theorem dX12_tree_154 : decode cX12_tree 154 = .ok (.iload 7, 2) := by decide +kernel
theorem dX12_tree_156 : decode cX12_tree 156 = .ok (.istore 4, 2) := by decide +kernel
theorem dX12_tree_158 : decode cX12_tree 158 = .ok (.iinc 6 1, 3) := by decide +kernel
theorem dX12_tree_161 : decode cX12_tree 161 = .ok (.goto (-75), 3) := by decide +kernel
theorem dX12_tree_164 : decode cX12_tree 164 = .ok (.iinc 5 1, 3) := by decide +kernel
theorem dX12_tree_167 : decode cX12_tree 167 = .ok (.goto (-96), 3) := by decide +kernel
theorem dX12_tree_170 : decode cX12_tree 170 = .ok (.aload_n 0, 1) := by decide +kernel
theorem dX12_tree_171 : decode cX12_tree 171 = .ok (.getfield 40, 3) := by decide +kernel
theorem dX12_tree_174 : decode cX12_tree 174 = .ok (.aload_n 0, 1) := by decide +kernel
theorem dX12_tree_175 : decode cX12_tree 175 = .ok (.getfield 37, 3) := by decide +kernel
theorem dX12_tree_178 : decode cX12_tree 178 = .ok (.iload_n 2, 1) := by decide +kernel
theorem dX12_tree_179 : decode cX12_tree 179 = .ok (.iastore, 1) := by decide +kernel
theorem dX12_tree_180 : decode cX12_tree 180 = .ok (.aload_n 0, 1) := by decide +kernel
theorem dX12_tree_181 : decode cX12_tree 181 = .ok (.getfield 43, 3) := by decide +kernel
theorem dX12_tree_184 : decode cX12_tree 184 = .ok (.aload_n 0, 1) := by decide +kernel
theorem dX12_tree_185 : decode cX12_tree 185 = .ok (.getfield 37, 3) := by decide +kernel
theorem dX12_tree_188 : decode cX12_tree 188 = .ok (.iload_n 3, 1) := by decide +kernel
theorem dX12_tree_189 : decode cX12_tree 189 = .ok (.iastore, 1) := by decide +kernel
theorem dX12_tree_190 : decode cX12_tree 190 = .ok (.aload_n 0, 1) := by decide +kernel
theorem dX12_tree_191 : decode cX12_tree 191 = .ok (.getfield 46, 3) := by decide +kernel
theorem dX12_tree_194 : decode cX12_tree 194 = .ok (.aload_n 0, 1) := by decide +kernel
theorem dX12_tree_195 : decode cX12_tree 195 = .ok (.getfield 37, 3) := by decide +kernel
theorem dX12_tree_198 : decode cX12_tree 198 = .ok (.iload 4, 2) := by decide +kernel
theorem dX12_tree_200 : decode cX12_tree 200 = .ok (.iastore, 1) := by decide +kernel
theorem dX12_tree_201 : decode cX12_tree 201 = .ok (.aload_n 0, 1) := by decide +kernel
theorem dX12_tree_202 : decode cX12_tree 202 = .ok (.dup, 1) := by decide +kernel
theorem dX12_tree_203 : decode cX12_tree 203 = .ok (.getfield 37, 3) := by decide +kernel
theorem dX12_tree_206 : decode cX12_tree 206 = .ok (.iconst 1, 1) := by decide +kernel
theorem dX12_tree_207 : decode cX12_tree 207 = .ok (.iadd, 1) := by decide +kernel
theorem dX12_tree_208 : decode cX12_tree 208 = .ok (.putfield 37, 3) := by decide +kernel
theorem dX12_tree_211 : decode cX12_tree 211 = .ok (.iconst 0, 1) := by decide +kernel
theorem dX12_tree_212 : decode cX12_tree 212 = .ok (.istore 5, 2) := by decide +kernel
theorem dX12_tree_214 : decode cX12_tree 214 = .ok (.iload 5, 2) := by decide +kernel
theorem dX12_tree_216 : decode cX12_tree 216 = .ok (.aload_n 0, 1) := by decide +kernel
theorem dX12_tree_217 : decode cX12_tree 217 = .ok (.invokevirtual 90, 3) := by decide +kernel
theorem dX12_tree_220 : decode cX12_tree 220 = .ok (.if_icmp .ge 28, 3) := by decide +kernel
theorem dX12_tree_223 : decode cX12_tree 223 = .ok (.aload_n 0, 1) := by decide +kernel
theorem dX12_tree_224 : decode cX12_tree 224 = .ok (.getfield 58, 3) := by decide +kernel
theorem dX12_tree_227 : decode cX12_tree 227 = .ok (.iload 5, 2) := by decide +kernel
theorem dX12_tree_229 : decode cX12_tree 229 = .ok (.iaload, 1) := by decide +kernel
theorem dX12_tree_230 : decode cX12_tree 230 = .ok (.iload_n 3, 1) := by decide +kernel
theorem dX12_tree_231 : decode cX12_tree 231 = .ok (.if_icmp .ne 11, 3) := by decide +kernel
theorem dX12_tree_234 : decode cX12_tree 234 = .ok (.aload_n 0, 1) := by decide +kernel
theorem dX12_tree_235 : decode cX12_tree 235 = .ok (.getfield 58, 3) := by decide +kernel
theorem dX12_tree_238 : decode cX12_tree 238 = .ok (.iload 5, 2) := by decide +kernel
theorem dX12_tree_240 : decode cX12_tree 240 = .ok (.iload_n 2, 1) := by decide +kernel
theorem dX12_tree_241 : decode cX12_tree 241 = .ok (.iastore, 1) := by decide +kernel
