theorem dX7_readBy_75 : decode cX7_readBy 75 = .ok (.iload_n 1, 1) := by decide +kernel
theorem dX7_readBy_76 : decode cX7_readBy 76 = .ok (.iaload, 1) := by decide +kernel
theorem dX7_readBy_77 : decode cX7_readBy 77 = .ok (.if_icmp .ne 70, 3) := by decide +kernel
theorem dX7_readBy_80 : decode cX7_readBy 80 = .ok (.aload_n 0, 1) := by decide +kernel
theorem dX7_readBy_81 : decode cX7_readBy 81 = .ok (.getfield 16, 3) := by decide +kernel
theorem dX7_readBy_84 : decode cX7_readBy 84 = .ok (.iload_n 1, 1) := by decide +kernel
theorem dX7_readBy_85 : decode cX7_readBy 85 = .ok (.iaload, 1) := by decide +kernel
theorem dX7_readBy_86 : decode cX7_readBy 86 = .ok (.iconst 1, 1) := by decide +kernel
theorem dX7_readBy_87 : decode cX7_readBy 87 = .ok (.if_icmp .ne 29, 3) := by decide +kernel
theorem dX7_readBy_90 : decode cX7_readBy 90 = .ok (.iload_n 3, 1) := by decide +kernel
theorem dX7_readBy_91 : decode cX7_readBy 91 = .ok (.iconst 1, 1) := by decide +kernel
theorem dX7_readBy_92 : decode cX7_readBy 92 = .ok (.iadd, 1) := by decide +kernel
theorem dX7_readBy_93 : decode cX7_readBy 93 = .ok (.aload_n 0, 1) := by decide +kernel
theorem dX7_readBy_94 : decode cX7_readBy 94 = .ok (.getfield 94, 3) := by decide +kernel
theorem dX7_readBy_97 : decode cX7_readBy 97 = .ok (.if_icmp .ge 14, 3) := by decide +kernel
theorem dX7_readBy_100 : decode cX7_readBy 100 = .ok (.aload_n 0, 1) := by decide +kernel
theorem dX7_readBy_101 : decode cX7_readBy 101 = .ok (.getfield 38, 3) := by decide +kernel
theorem dX7_readBy_104 : decode cX7_readBy 104 = .ok (.iload_n 3, 1) := by decide +kernel
theorem dX7_readBy_105 : decode cX7_readBy 105 = .ok (.iconst 1, 1) := by decide +kernel
theorem dX7_readBy_106 : decode cX7_readBy 106 = .ok (.iadd, 1) := by decide +kernel
theorem dX7_readBy_107 : decode cX7_readBy 107 = .ok (.iaload, 1) := by decide +kernel
theorem dX7_readBy_108 : decode cX7_readBy 108 = .ok (.goto 13, 3) := by decide +kernel
theorem dX7_readBy_111 : decode cX7_readBy 111 = .ok (.bipush (-6), 2) := by decide +kernel
theorem dX7_readBy_113 : decode cX7_readBy 113 = .ok (.goto 8, 3) := by decide +kernel
theorem dX7_readBy_116 : decode cX7_readBy 116 = .ok (.aload_n 0, 1) := by decide +kernel
theorem dX7_readBy_117 : decode cX7_readBy 117 = .ok (.iload_n 3, 1) := by decide +kernel
theorem dX7_readBy_118 : decode cX7_readBy 118 = .ok (.invokevirtual 127, 3) := by decide +kernel
theorem dX7_readBy_121 : decode cX7_readBy 121 = .ok (.istore 6, 2) := by decide +kernel
theorem dX7_readBy_123 : decode cX7_readBy 123 = .ok (.aload_n 0, 1) := by decide +kernel
theorem dX7_readBy_124 : decode cX7_readBy 124 = .ok (.getfield 16, 3) := by decide +kernel
theorem dX7_readBy_127 : decode cX7_readBy 127 = .ok (.iload_n 1, 1) := by decide +kernel
theorem dX7_readBy_128 : decode cX7_readBy 128 = .ok (.iaload, 1) := by decide +kernel
theorem dX7_readBy_129 : decode cX7_readBy 129 = .ok (.iconst 1, 1) := by decide +kernel
theorem dX7_readBy_130 : decode cX7_readBy 130 = .ok (.if_icmp .ne 7, 3) := by decide +kernel
theorem dX7_readBy_133 : decode cX7_readBy 133 = .ok (.iconst 2, 1) := by decide +kernel
theorem dX7_readBy_134 : decode cX7_readBy 134 = .ok (.goto 4, 3) := by decide +kernel
theorem dX7_readBy_137 : decode cX7_readBy 137 = .ok (.iconst 3, 1) := by decide +kernel
theorem dX7_readBy_138 : decode cX7_readBy 138 = .ok (.istore 7, 2) := by decide +kernel
theorem dX7_readBy_140 : decode cX7_readBy 140 = .ok (.iload 6, 2) := by decide +kernel
theorem dX7_readBy_142 : decode cX7_readBy 142 = .ok (.ifCond .ge 103, 3) := by decide +kernel
theorem dX7_readBy_145 : decode cX7_readBy 145 = .ok (.iload_n 3, 1) := by decide +kernel
theorem dX7_readBy_146 : decode cX7_readBy 146 = .ok (.ireturn, 1) := by decide +kernel
theorem dX7_readBy_147 : decode cX7_readBy 147 = .ok (.aload_n 0, 1) := by decide +kernel
theorem dX7_readBy_148 : decode cX7_readBy 148 = .ok (.iload_n 1, 1) := by decide +kernel
theorem dX7_readBy_149 : decode cX7_readBy 149 = .ok (.invokevirtual 87, 3) := by decide +kernel
theorem dX7_readBy_152 : decode cX7_readBy 152 = .ok (.ifCond .eq 81, 3) := by decide +kernel
theorem dX7_readBy_155 : decode cX7_readBy 155 = .ok (.iload 5, 2) := by decide +kernel
theorem dX7_readBy_157 : decode cX7_readBy 157 = .ok (.aload_n 0, 1) := by decide +kernel
theorem dX7_readBy_158 : decode cX7_readBy 158 = .ok (.getfield 13, 3) := by decide +kernel
theorem dX7_readBy_161 : decode cX7_readBy 161 = .ok (.iload_n 1, 1) := by decide +kernel
theorem dX7_readBy_162 : decode cX7_readBy 162 = .ok (.iaload, 1) := by decide +kernel
theorem dX7_readBy_163 : decode cX7_readBy 163 = .ok (.if_icmp .ne 70, 3) := by decide +kernel
theorem dX7_readBy_166 : decode cX7_readBy 166 = .ok (.aload_n 0, 1) := by decide +kernel
theorem dX7_readBy_167 : decode cX7_readBy 167 = .ok (.getfield 16, 3) := by decide +kernel
theorem dX7_readBy_170 : decode cX7_readBy 170 = .ok (.iload_n 1, 1) := by decide +kernel
theorem dX7_readBy_171 : decode cX7_readBy 171 = .ok (.iaload, 1) := by decide +kernel
theorem dX7_readBy_172 : decode cX7_readBy 172 = .ok (.iconst 2, 1) := by decide +kernel
theorem dX7_readBy_173 : decode cX7_readBy 173 = .ok (.if_icmp .ne 30, 3) := by decide +kernel
theorem dX7_readBy_176 : decode cX7_readBy 176 = .ok (.iload_n 3, 1) := by decide +kernel
theorem dX7_readBy_177 : decode cX7_readBy 177 = .ok (.iconst 1, 1) := by decide +kernel
theorem dX7_readBy_178 : decode cX7_readBy 178 = .ok (.iadd, 1) := by decide +kernel
theorem dX7_readBy_179 : decode cX7_readBy 179 = .ok (.aload_n 0, 1) := by decide +kernel
theorem dX7_readBy_180 : decode cX7_readBy 180 = .ok (.getfield 94, 3) := by decide +kernel
theorem dX7_readBy_183 : decode cX7_readBy 183 = .ok (.if_icmp .ge 20, 3) := by decide +kernel
theorem dX7_readBy_186 : decode cX7_readBy 186 = .ok (.aload_n 0, 1) := by decide +kernel
theorem dX7_readBy_187 : decode cX7_readBy 187 = .ok (.getfield 38, 3) := by decide +kernel
theorem dX7_readBy_190 : decode cX7_readBy 190 = .ok (.iload_n 3, 1) := by decide +kernel
theorem dX7_readBy_191 : decode cX7_readBy 191 = .ok (.iconst 1, 1) := by decide +kernel
theorem dX7_readBy_192 : decode cX7_readBy 192 = .ok (.iadd, 1) := by decide +kernel
theorem dX7_readBy_193 : decode cX7_readBy 193 = .ok (.iaload, 1) := by decide +kernel
theorem dX7_readBy_194 : decode cX7_readBy 194 = .ok (.iload 5, 2) := by decide +kernel
theorem dX7_readBy_196 : decode cX7_readBy 196 = .ok (.if_icmp .ne 7, 3) := by decide +kernel
theorem dX7_readBy_199 : decode cX7_readBy 199 = .ok (.iconst 1, 1) := by decide +kernel
theorem dX7_readBy_200 : decode cX7_readBy 200 = .ok (.goto 4, 3) := by decide +kernel
theorem dX7_readBy_203 : decode cX7_readBy 203 = .ok (.iconst 0, 1) := by decide +kernel
theorem dX7_readBy_204 : decode cX7_readBy 204 = .ok (.istore 8, 2) := by decide +kernel
theorem dX7_readBy_206 : decode cX7_readBy 206 = .ok (.iload 8, 2) := by decide +kernel
theorem dX7_readBy_208 : decode cX7_readBy 208 = .ok (.ifCond .ne 7, 3) := by decide +kernel
theorem dX7_readBy_211 : decode cX7_readBy 211 = .ok (.iconst 1, 1) := by decide +kernel
theorem dX7_readBy_212 : decode cX7_readBy 212 = .ok (.goto 4, 3) := by decide +kernel
theorem dX7_readBy_215 : decode cX7_readBy 215 = .ok (.iconst 0, 1) := by decide +kernel
theorem dX7_readBy_216 : decode cX7_readBy 216 = .ok (.istore 4, 2) := by decide +kernel
theorem dX7_readBy_218 : decode cX7_readBy 218 = .ok (.iload 8, 2) := by decide +kernel
theorem dX7_readBy_220 : decode cX7_readBy 220 = .ok (.ifCond .eq 7, 3) := by decide +kernel
theorem dX7_readBy_223 : decode cX7_readBy 223 = .ok (.iconst 2, 1) := by decide +kernel
theorem dX7_readBy_224 : decode cX7_readBy 224 = .ok (.goto 4, 3) := by decide +kernel
theorem dX7_readBy_227 : decode cX7_readBy 227 = .ok (.iconst 1, 1) := by decide +kernel
theorem dX7_readBy_228 : decode cX7_readBy 228 = .ok (.istore 7, 2) := by decide +kernel
theorem dX7_readBy_230 : decode cX7_readBy 230 = .ok (.goto 15, 3) := by decide +kernel
theorem dX7_readBy_233 : decode cX7_readBy 233 = .ok (.aload_n 0, 1) := by decide +kernel
theorem dX7_readBy_234 : decode cX7_readBy 234 = .ok (.iload_n 1, 1) := by decide +kernel
theorem dX7_readBy_235 : decode cX7_readBy 235 = .ok (.iload 5, 2) := by decide +kernel
theorem dX7_readBy_237 : decode cX7_readBy 237 = .ok (.invokevirtual 90, 3) := by decide +kernel
theorem dX7_readBy_240 : decode cX7_readBy 240 = .ok (.ifCond .eq 5, 3) := by decide +kernel
theorem dX7_readBy_243 : decode cX7_readBy 243 = .ok (.iload_n 3, 1) := by decide +kernel
theorem dX7_readBy_244 : decode cX7_readBy 244 = .ok (.ireturn, 1) := by decide +kernel
theorem dX7_readBy_245 : decode cX7_readBy 245 = .ok (.iload 4, 2) := by decide +kernel
theorem dX7_readBy_247 : decode cX7_readBy 247 = .ok (.ifCond .ne 14, 3) := by decide +kernel
theorem dX7_readBy_250 : decode cX7_readBy 250 = .ok (.aload_n 0, 1) := by decide +kernel
theorem dX7_readBy_251 : decode cX7_readBy 251 = .ok (.getfield 41, 3) := by decide +kernel
theorem dX7_readBy_254 : decode cX7_readBy 254 = .ok (.iload_n 2, 1) := by decide +kernel
theorem dX7_readBy_255 : decode cX7_readBy 255 = .ok (.iload 6, 2) := by decide +kernel
theorem dX7_readBy_257 : decode cX7_readBy 257 = .ok (.iastore, 1) := by decide +kernel
theorem dX7_readBy_258 : decode cX7_readBy 258 = .ok (.iinc 2 1, 3) := by decide +kernel
theorem dX7_readBy_261 : decode cX7_readBy 261 = .ok (.iload_n 3, 1) := by decide +kernel
theorem dX7_readBy_262 : decode cX7_readBy 262 = .ok (.iload 7, 2) := by decide +kernel
theorem dX7_readBy_264 : decode cX7_readBy 264 = .ok (.iadd, 1) := by decide +kernel
theorem dX7_readBy_265 : decode cX7_readBy 265 = .ok (.istore_n 3, 1) := by decide +kernel
theorem dX7_readBy_266 : decode cX7_readBy 266 = .ok (.goto (-225), 3) := by decide +kernel
theorem dX7_readBy_269 : decode cX7_readBy 269 = .ok (.iload 4, 2) := by decide +kernel
theorem dX7_readBy_271 : decode cX7_readBy 271 = .ok (.ifCond .eq 14, 3) := by decide +kernel
theorem dX7_readBy_274 : decode cX7_readBy 274 = .ok (.iload_n 3, 1) := by decide +kernel
theorem dX7_readBy_275 : decode cX7_readBy 275 = .ok (.aload_n 0, 1) := by decide +kernel
theorem dX7_readBy_276 : decode cX7_readBy 276 = .ok (.getfield 94, 3) := by decide +kernel
theorem dX7_readBy_279 : decode cX7_readBy 279 = .ok (.if_icmp .ge 16, 3) := by decide +kernel
theorem dX7_readBy_282 : decode cX7_readBy 282 = .ok (.goto 11, 3) := by decide +kernel
theorem dX7_readBy_285 : decode cX7_readBy 285 = .ok (.aload_n 0, 1) := by decide +kernel
theorem dX7_readBy_286 : decode cX7_readBy 286 = .ok (.iload_n 1, 1) := by decide +kernel
theorem dX7_readBy_287 : decode cX7_readBy 287 = .ok (.invokevirtual 87, 3) := by decide +kernel
theorem dX7_readBy_290 : decode cX7_readBy 290 = .ok (.ifCond .eq 5, 3) := by decide +kernel
theorem dX7_readBy_293 : decode cX7_readBy 293 = .ok (.iload_n 3, 1) := by decide +kernel
theorem dX7_readBy_294 : decode cX7_readBy 294 = .ok (.ireturn, 1) := by decide +kernel
theorem dX7_readBy_295 : decode cX7_readBy 295 = .ok (.iconst 0, 1) := by decide +kernel
theorem dX7_readBy_296 : decode cX7_readBy 296 = .ok (.istore 5, 2) := by decide +kernel
theorem dX7_readBy_298 : decode cX7_readBy 298 = .ok (.iload 5, 2) := by decide +kernel
theorem dX7_readBy_300 : decode cX7_readBy 300 = .ok (.iload_n 2, 1) := by decide +kernel
theorem dX7_readBy_301 : decode cX7_readBy 301 = .ok (.if_icmp .ge 23, 3) := by decide +kernel
theorem dX7_readBy_304 : decode cX7_readBy 304 = .ok (.aload_n 0, 1) := by decide +kernel
theorem dX7_readBy_305 : decode cX7_readBy 305 = .ok (.getfield 38, 3) := by decide +kernel
theorem dX7_readBy_308 : decode cX7_readBy 308 = .ok (.iload 5, 2) := by decide +kernel
theorem dX7_readBy_310 : decode cX7_readBy 310 = .ok (.aload_n 0, 1) := by decide +kernel
theorem dX7_readBy_311 : decode cX7_readBy 311 = .ok (.getfield 41, 3) := by decide +kernel
theorem dX7_readBy_314 : decode cX7_readBy 314 = .ok (.iload 5, 2) := by decide +kernel
theorem dX7_readBy_316 : decode cX7_readBy 316 = .ok (.iaload, 1) := by decide +kernel
theorem dX7_readBy_317 : decode cX7_readBy 317 = .ok (.iastore, 1) := by decide +kernel
theorem dX7_readBy_318 : decode cX7_readBy 318 = .ok (.iinc 5 1, 3) := by decide +kernel
theorem dX7_readBy_321 : decode cX7_readBy 321 = .ok (.goto (-23), 3) := by decide +kernel
theorem dX7_readBy_324 : decode cX7_readBy 324 = .ok (.aload_n 0, 1) := by decide +kernel
theorem dX7_readBy_325 : decode cX7_readBy 325 = .ok (.iload_n 2, 1) := by decide +kernel
theorem dX7_readBy_326 : decode cX7_readBy 326 = .ok (.putfield 94, 3) := by decide +kernel
theorem dX7_readBy_329 : decode cX7_readBy 329 = .ok (.bipush (-6), 2) := by decide +kernel
theorem dX7_readBy_331 : decode cX7_readBy 331 = .ok (.ireturn, 1) := by decide +kernel
theorem dX7_readBack_0 : decode cX7_readBack 0 = .ok (.aload_n 0, 1) := by decide +kernel
theorem dX7_readBack_1 : decode cX7_readBack 1 = .ok (.getfield 84, 3) := by decide +kernel
theorem dX7_readBack_4 : decode cX7_readBack 4 = .ok (.iconst 1, 1) := by decide +kernel
theorem dX7_readBack_5 : decode cX7_readBack 5 = .ok (.isub, 1) := by decide +kernel
theorem dX7_readBack_6 : decode cX7_readBack 6 = .ok (.istore_n 1, 1) := by decide +kernel
theorem dX7_readBack_7 : decode cX7_readBack 7 = .ok (.iload_n 1, 1) := by decide +kernel
theorem dX7_readBack_8 : decode cX7_readBack 8 = .ok (.ifCond .lt 31, 3) := by decide +kernel
theorem dX7_readBack_11 : decode cX7_readBack 11 = .ok (.aload_n 0, 1) := by decide +kernel
theorem dX7_readBack_12 : decode cX7_readBack 12 = .ok (.iload_n 1, 1) := by decide +kernel
theorem dX7_readBack_13 : decode cX7_readBack 13 = .ok (.putfield 104, 3) := by decide +kernel
theorem dX7_readBack_16 : decode cX7_readBack 16 = .ok (.aload_n 0, 1) := by decide +kernel
theorem dX7_readBack_17 : decode cX7_readBack 17 = .ok (.aload_n 0, 1) := by decide +kernel
theorem dX7_readBack_18 : decode cX7_readBack 18 = .ok (.getfield 28, 3) := by decide +kernel
theorem dX7_readBack_21 : decode cX7_readBack 21 = .ok (.iload_n 1, 1) := by decide +kernel
theorem dX7_readBack_22 : decode cX7_readBack 22 = .ok (.iaload, 1) := by decide +kernel
theorem dX7_readBack_23 : decode cX7_readBack 23 = .ok (.invokevirtual 130, 3) := by decide +kernel
theorem dX7_readBack_26 : decode cX7_readBack 26 = .ok (.istore_n 2, 1) := by decide +kernel
theorem dX7_readBack_27 : decode cX7_readBack 27 = .ok (.iload_n 2, 1) := by decide +kernel
theorem dX7_readBack_28 : decode cX7_readBack 28 = .ok (.ifCond .lt 5, 3) := by decide +kernel
theorem dX7_readBack_31 : decode cX7_readBack 31 = .ok (.iload_n 2, 1) := by decide +kernel
theorem dX7_readBack_32 : decode cX7_readBack 32 = .ok (.ireturn, 1) := by decide +kernel
theorem dX7_readBack_33 : decode cX7_readBack 33 = .ok (.iinc 1 (-1), 3) := by decide +kernel
theorem dX7_readBack_36 : decode cX7_readBack 36 = .ok (.goto (-29), 3) := by decide +kernel
theorem dX7_readBack_39 : decode cX7_readBack 39 = .ok (.bipush (-6), 2) := by decide +kernel
theorem dX7_readBack_41 : decode cX7_readBack 41 = .ok (.ireturn, 1) := by decide +kernel
theorem dX7_layPad_0 : decode cX7_layPad 0 = .ok (.aload_n 0, 1) := by decide +kernel
theorem dX7_layPad_1 : decode cX7_layPad 1 = .ok (.aload_n 0, 1) := by decide +kernel
theorem dX7_layPad_2 : decode cX7_layPad 2 = .ok (.getfield 67, 3) := by decide +kernel
theorem dX7_layPad_5 : decode cX7_layPad 5 = .ok (.putfield 94, 3) := by decide +kernel
theorem dX7_layPad_8 : decode cX7_layPad 8 = .ok (.iconst 0, 1) := by decide +kernel
theorem dX7_layPad_9 : decode cX7_layPad 9 = .ok (.istore_n 1, 1) := by decide +kernel
theorem dX7_layPad_10 : decode cX7_layPad 10 = .ok (.iload_n 1, 1) := by decide +kernel
theorem dX7_layPad_11 : decode cX7_layPad 11 = .ok (.aload_n 0, 1) := by decide +kernel
theorem dX7_layPad_12 : decode cX7_layPad 12 = .ok (.getfield 67, 3) := by decide +kernel
theorem dX7_layPad_15 : decode cX7_layPad 15 = .ok (.if_icmp .ge 21, 3) := by decide +kernel
theorem dX7_layPad_18 : decode cX7_layPad 18 = .ok (.aload_n 0, 1) := by decide +kernel
theorem dX7_layPad_19 : decode cX7_layPad 19 = .ok (.getfield 38, 3) := by decide +kernel
theorem dX7_layPad_22 : decode cX7_layPad 22 = .ok (.iload_n 1, 1) := by decide +kernel
theorem dX7_layPad_23 : decode cX7_layPad 23 = .ok (.aload_n 0, 1) := by decide +kernel
theorem dX7_layPad_24 : decode cX7_layPad 24 = .ok (.getfield 7, 3) := by decide +kernel
theorem dX7_layPad_27 : decode cX7_layPad 27 = .ok (.iload_n 1, 1) := by decide +kernel
theorem dX7_layPad_28 : decode cX7_layPad 28 = .ok (.iaload, 1) := by decide +kernel
theorem dX7_layPad_29 : decode cX7_layPad 29 = .ok (.iastore, 1) := by decide +kernel
theorem dX7_layPad_30 : decode cX7_layPad 30 = .ok (.iinc 1 1, 3) := by decide +kernel
theorem dX7_layPad_33 : decode cX7_layPad 33 = .ok (.goto (-23), 3) := by decide +kernel
theorem dX7_layPad_36 : decode cX7_layPad 36 = .ok (.return_, 1) := by decide +kernel
theorem dX7_read_0 : decode cX7_read 0 = .ok (.aload_n 0, 1) := by decide +kernel
theorem dX7_read_1 : decode cX7_read 1 = .ok (.getfield 67, 3) := by decide +kernel
theorem dX7_read_4 : decode cX7_read 4 = .ok (.ifCond .ne 6, 3) := by decide +kernel
theorem dX7_read_7 : decode cX7_read 7 = .ok (.bipush (-3), 2) := by decide +kernel
theorem dX7_read_9 : decode cX7_read 9 = .ok (.ireturn, 1) := by decide +kernel
theorem dX7_read_10 : decode cX7_read 10 = .ok (.aload_n 0, 1) := by decide +kernel
theorem dX7_read_11 : decode cX7_read 11 = .ok (.invokevirtual 133, 3) := by decide +kernel
theorem dX7_read_14 : decode cX7_read 14 = .ok (.aload_n 0, 1) := by decide +kernel
theorem dX7_read_15 : decode cX7_read 15 = .ok (.invokevirtual 136, 3) := by decide +kernel
theorem dX7_read_18 : decode cX7_read 18 = .ok (.istore_n 2, 1) := by decide +kernel
theorem dX7_read_19 : decode cX7_read 19 = .ok (.iload_n 1, 1) := by decide +kernel
theorem dX7_read_20 : decode cX7_read 20 = .ok (.iconst (-1), 1) := by decide +kernel
theorem dX7_read_21 : decode cX7_read 21 = .ok (.if_icmp .eq 9, 3) := by decide +kernel
theorem dX7_read_24 : decode cX7_read 24 = .ok (.iload_n 1, 1) := by decide +kernel
theorem dX7_read_25 : decode cX7_read 25 = .ok (.bipush (-2), 2) := by decide +kernel
theorem dX7_read_27 : decode cX7_read 27 = .ok (.if_icmp .ne 26, 3) := by decide +kernel
theorem dX7_read_30 : decode cX7_read 30 = .ok (.iload_n 2, 1) := by decide +kernel
theorem dX7_read_31 : decode cX7_read 31 = .ok (.ifCond .ge 8, 3) := by decide +kernel
theorem dX7_read_34 : decode cX7_read 34 = .ok (.bipush (-6), 2) := by decide +kernel
theorem dX7_read_36 : decode cX7_read 36 = .ok (.goto 16, 3) := by decide +kernel
theorem dX7_read_39 : decode cX7_read 39 = .ok (.iload_n 1, 1) := by decide +kernel
theorem dX7_read_40 : decode cX7_read 40 = .ok (.iconst (-1), 1) := by decide +kernel
theorem dX7_read_41 : decode cX7_read 41 = .ok (.if_icmp .ne 10, 3) := by decide +kernel
theorem dX7_read_44 : decode cX7_read 44 = .ok (.aload_n 0, 1) := by decide +kernel
theorem dX7_read_45 : decode cX7_read 45 = .ok (.getfield 104, 3) := by decide +kernel
theorem dX7_read_48 : decode cX7_read 48 = .ok (.goto 4, 3) := by decide +kernel
theorem dX7_read_51 : decode cX7_read 51 = .ok (.iload_n 2, 1) := by decide +kernel
theorem dX7_read_52 : decode cX7_read 52 = .ok (.ireturn, 1) := by decide +kernel
theorem dX7_read_53 : decode cX7_read 53 = .ok (.iload_n 2, 1) := by decide +kernel
theorem dX7_read_54 : decode cX7_read 54 = .ok (.ifCond .lt 6, 3) := by decide +kernel
theorem dX7_read_57 : decode cX7_read 57 = .ok (.bipush (-6), 2) := by decide +kernel
theorem dX7_read_59 : decode cX7_read 59 = .ok (.ireturn, 1) := by decide +kernel
theorem dX7_read_60 : decode cX7_read 60 = .ok (.iload_n 1, 1) := by decide +kernel
theorem dX7_read_61 : decode cX7_read 61 = .ok (.bipush (-3), 2) := by decide +kernel
theorem dX7_read_63 : decode cX7_read 63 = .ok (.if_icmp .ne 10, 3) := by decide +kernel
theorem dX7_read_66 : decode cX7_read 66 = .ok (.aload_n 0, 1) := by decide +kernel
theorem dX7_read_67 : decode cX7_read 67 = .ok (.getfield 94, 3) := by decide +kernel
theorem dX7_read_70 : decode cX7_read 70 = .ok (.goto 28, 3) := by decide +kernel
theorem dX7_read_73 : decode cX7_read 73 = .ok (.iload_n 1, 1) := by decide +kernel
theorem dX7_read_74 : decode cX7_read 74 = .ok (.iconst 0, 1) := by decide +kernel
theorem dX7_read_75 : decode cX7_read 75 = .ok (.aload_n 0, 1) := by decide +kernel
theorem dX7_read_76 : decode cX7_read 76 = .ok (.getfield 94, 3) := by decide +kernel
theorem dX7_read_79 : decode cX7_read 79 = .ok (.iconst 1, 1) := by decide +kernel
theorem dX7_read_80 : decode cX7_read 80 = .ok (.isub, 1) := by decide +kernel
theorem dX7_read_81 : decode cX7_read 81 = .ok (.invokestatic 63, 3) := by decide +kernel
theorem dX7_read_84 : decode cX7_read 84 = .ok (.ifCond .eq 12, 3) := by decide +kernel
theorem dX7_read_87 : decode cX7_read 87 = .ok (.aload_n 0, 1) := by decide +kernel
theorem dX7_read_88 : decode cX7_read 88 = .ok (.getfield 38, 3) := by decide +kernel
theorem dX7_read_91 : decode cX7_read 91 = .ok (.iload_n 1, 1) := by decide +kernel
theorem dX7_read_92 : decode cX7_read 92 = .ok (.iaload, 1) := by decide +kernel
theorem dX7_read_93 : decode cX7_read 93 = .ok (.goto 5, 3) := by decide +kernel
theorem dX7_read_96 : decode cX7_read 96 = .ok (.bipush (-6), 2) := by decide +kernel
theorem dX7_read_98 : decode cX7_read 98 = .ok (.ireturn, 1) := by decide +kernel
theorem dX7_howBack_0 : decode cX7_howBack 0 = .ok (.aload_n 0, 1) := by decide +kernel
theorem dX7_howBack_1 : decode cX7_howBack 1 = .ok (.invokevirtual 136, 3) := by decide +kernel
theorem dX7_howBack_4 : decode cX7_howBack 4 = .ok (.ifCond .lt 5, 3) := by decide +kernel
theorem dX7_howBack_7 : decode cX7_howBack 7 = .ok (.iconst 2, 1) := by decide +kernel
theorem dX7_howBack_8 : decode cX7_howBack 8 = .ok (.ireturn, 1) := by decide +kernel
theorem dX7_howBack_9 : decode cX7_howBack 9 = .ok (.aload_n 0, 1) := by decide +kernel
theorem dX7_howBack_10 : decode cX7_howBack 10 = .ok (.getfield 94, 3) := by decide +kernel
theorem dX7_howBack_13 : decode cX7_howBack 13 = .ok (.aload_n 0, 1) := by decide +kernel
theorem dX7_howBack_14 : decode cX7_howBack 14 = .ok (.getfield 139, 3) := by decide +kernel
theorem dX7_howBack_17 : decode cX7_howBack 17 = .ok (.if_icmp .ne 7, 3) := by decide +kernel
theorem dX7_howBack_20 : decode cX7_howBack 20 = .ok (.iconst 1, 1) := by decide +kernel
theorem dX7_howBack_21 : decode cX7_howBack 21 = .ok (.goto 4, 3) := by decide +kernel
theorem dX7_howBack_24 : decode cX7_howBack 24 = .ok (.iconst 0, 1) := by decide +kernel
theorem dX7_howBack_25 : decode cX7_howBack 25 = .ok (.istore_n 1, 1) := by decide +kernel
theorem dX7_howBack_26 : decode cX7_howBack 26 = .ok (.iconst 0, 1) := by decide +kernel
theorem dX7_howBack_27 : decode cX7_howBack 27 = .ok (.istore_n 2, 1) := by decide +kernel
theorem dX7_howBack_28 : decode cX7_howBack 28 = .ok (.iload_n 2, 1) := by decide +kernel
theorem dX7_howBack_29 : decode cX7_howBack 29 = .ok (.aload_n 0, 1) := by decide +kernel
theorem dX7_howBack_30 : decode cX7_howBack 30 = .ok (.getfield 139, 3) := by decide +kernel
theorem dX7_howBack_33 : decode cX7_howBack 33 = .ok (.if_icmp .ge 34, 3) := by decide +kernel
theorem dX7_howBack_36 : decode cX7_howBack 36 = .ok (.iload_n 1, 1) := by decide +kernel
theorem dX7_howBack_37 : decode cX7_howBack 37 = .ok (.ifCond .eq 30, 3) := by decide +kernel
theorem dX7_howBack_40 : decode cX7_howBack 40 = .ok (.aload_n 0, 1) := by decide +kernel
theorem dX7_howBack_41 : decode cX7_howBack 41 = .ok (.getfield 38, 3) := by decide +kernel
theorem dX7_howBack_44 : decode cX7_howBack 44 = .ok (.iload_n 2, 1) := by decide +kernel
theorem dX7_howBack_45 : decode cX7_howBack 45 = .ok (.iaload, 1) := by decide +kernel
theorem dX7_howBack_46 : decode cX7_howBack 46 = .ok (.aload_n 0, 1) := by decide +kernel
theorem dX7_howBack_47 : decode cX7_howBack 47 = .ok (.getfield 44, 3) := by decide +kernel
theorem dX7_howBack_50 : decode cX7_howBack 50 = .ok (.iload_n 2, 1) := by decide +kernel
theorem dX7_howBack_51 : decode cX7_howBack 51 = .ok (.iaload, 1) := by decide +kernel
theorem dX7_howBack_52 : decode cX7_howBack 52 = .ok (.if_icmp .ne 7, 3) := by decide +kernel
theorem dX7_howBack_55 : decode cX7_howBack 55 = .ok (.iconst 1, 1) := by decide +kernel
theorem dX7_howBack_56 : decode cX7_howBack 56 = .ok (.goto 4, 3) := by decide +kernel
theorem dX7_howBack_59 : decode cX7_howBack 59 = .ok (.iconst 0, 1) := by decide +kernel
theorem dX7_howBack_60 : decode cX7_howBack 60 = .ok (.istore_n 1, 1) := by decide +kernel
theorem dX7_howBack_61 : decode cX7_howBack 61 = .ok (.iinc 2 1, 3) := by decide +kernel
theorem dX7_howBack_64 : decode cX7_howBack 64 = .ok (.goto (-36), 3) := by decide +kernel
theorem dX7_howBack_67 : decode cX7_howBack 67 = .ok (.iload_n 1, 1) := by decide +kernel
theorem dX7_howBack_68 : decode cX7_howBack 68 = .ok (.ifCond .eq 7, 3) := by decide +kernel
theorem dX7_howBack_71 : decode cX7_howBack 71 = .ok (.iconst 0, 1) := by decide +kernel
theorem dX7_howBack_72 : decode cX7_howBack 72 = .ok (.goto 4, 3) := by decide +kernel
theorem dX7_howBack_75 : decode cX7_howBack 75 = .ok (.iconst 1, 1) := by decide +kernel
theorem dX7_howBack_76 : decode cX7_howBack 76 = .ok (.ireturn, 1) := by decide +kernel
theorem dX7_keepText_0 : decode cX7_keepText 0 = .ok (.aload_n 0, 1) := by decide +kernel
theorem dX7_keepText_1 : decode cX7_keepText 1 = .ok (.invokevirtual 111, 3) := by decide +kernel
theorem dX7_keepText_4 : decode cX7_keepText 4 = .ok (.aload_n 0, 1) := by decide +kernel
theorem dX7_keepText_5 : decode cX7_keepText 5 = .ok (.aload_n 0, 1) := by decide +kernel
theorem dX7_keepText_6 : decode cX7_keepText 6 = .ok (.getfield 31, 3) := by decide +kernel
theorem dX7_keepText_9 : decode cX7_keepText 9 = .ok (.putfield 139, 3) := by decide +kernel
theorem dX7_keepText_12 : decode cX7_keepText 12 = .ok (.iconst 0, 1) := by decide +kernel
theorem dX7_keepText_13 : decode cX7_keepText 13 = .ok (.istore_n 1, 1) := by decide +kernel
theorem dX7_keepText_14 : decode cX7_keepText 14 = .ok (.iload_n 1, 1) := by decide +kernel
theorem dX7_keepText_15 : decode cX7_keepText 15 = .ok (.aload_n 0, 1) := by decide +kernel
theorem dX7_keepText_16 : decode cX7_keepText 16 = .ok (.getfield 31, 3) := by decide +kernel
theorem dX7_keepText_19 : decode cX7_keepText 19 = .ok (.if_icmp .ge 21, 3) := by decide +kernel
theorem dX7_keepText_22 : decode cX7_keepText 22 = .ok (.aload_n 0, 1) := by decide +kernel
theorem dX7_keepText_23 : decode cX7_keepText 23 = .ok (.getfield 44, 3) := by decide +kernel
theorem dX7_keepText_26 : decode cX7_keepText 26 = .ok (.iload_n 1, 1) := by decide +kernel
theorem dX7_keepText_27 : decode cX7_keepText 27 = .ok (.aload_n 0, 1) := by decide +kernel
theorem dX7_keepText_28 : decode cX7_keepText 28 = .ok (.getfield 35, 3) := by decide +kernel
theorem dX7_keepText_31 : decode cX7_keepText 31 = .ok (.iload_n 1, 1) := by decide +kernel
theorem dX7_keepText_32 : decode cX7_keepText 32 = .ok (.iaload, 1) := by decide +kernel
theorem dX7_keepText_33 : decode cX7_keepText 33 = .ok (.iastore, 1) := by decide +kernel
theorem dX7_keepText_34 : decode cX7_keepText 34 = .ok (.iinc 1 1, 3) := by decide +kernel
theorem dX7_keepText_37 : decode cX7_keepText 37 = .ok (.goto (-23), 3) := by decide +kernel
theorem dX7_keepText_40 : decode cX7_keepText 40 = .ok (.return_, 1) := by decide +kernel
theorem dX7_spills_0 : decode cX7_spills 0 = .ok (.iload_n 1, 1) := by decide +kernel
theorem dX7_spills_1 : decode cX7_spills 1 = .ok (.iconst 0, 1) := by decide +kernel
theorem dX7_spills_2 : decode cX7_spills 2 = .ok (.aload_n 0, 1) := by decide +kernel
theorem dX7_spills_3 : decode cX7_spills 3 = .ok (.getfield 84, 3) := by decide +kernel
theorem dX7_spills_6 : decode cX7_spills 6 = .ok (.iconst 1, 1) := by decide +kernel
theorem dX7_spills_7 : decode cX7_spills 7 = .ok (.isub, 1) := by decide +kernel
theorem dX7_spills_8 : decode cX7_spills 8 = .ok (.invokestatic 63, 3) := by decide +kernel
theorem dX7_spills_11 : decode cX7_spills 11 = .ok (.ifCond .ne 6, 3) := by decide +kernel
theorem dX7_spills_14 : decode cX7_spills 14 = .ok (.bipush (-2), 2) := by decide +kernel
theorem dX7_spills_16 : decode cX7_spills 16 = .ok (.ireturn, 1) := by decide +kernel
theorem dX7_spills_17 : decode cX7_spills 17 = .ok (.aload_n 0, 1) := by decide +kernel
theorem dX7_spills_18 : decode cX7_spills 18 = .ok (.invokevirtual 142, 3) := by decide +kernel
theorem dX7_spills_21 : decode cX7_spills 21 = .ok (.aload_n 0, 1) := by decide +kernel
theorem dX7_spills_22 : decode cX7_spills 22 = .ok (.aload_n 0, 1) := by decide +kernel
theorem dX7_spills_23 : decode cX7_spills 23 = .ok (.getfield 84, 3) := by decide +kernel
theorem dX7_spills_26 : decode cX7_spills 26 = .ok (.iload_n 1, 1) := by decide +kernel
theorem dX7_spills_27 : decode cX7_spills 27 = .ok (.invokevirtual 114, 3) := by decide +kernel
theorem dX7_spills_30 : decode cX7_spills 30 = .ok (.istore_n 2, 1) := by decide +kernel
theorem dX7_spills_31 : decode cX7_spills 31 = .ok (.iload_n 2, 1) := by decide +kernel
theorem dX7_spills_32 : decode cX7_spills 32 = .ok (.ifCond .ge 7, 3) := by decide +kernel
theorem dX7_spills_35 : decode cX7_spills 35 = .ok (.iload_n 2, 1) := by decide +kernel
theorem dX7_spills_36 : decode cX7_spills 36 = .ok (.goto 7, 3) := by decide +kernel
theorem dX7_spills_39 : decode cX7_spills 39 = .ok (.aload_n 0, 1) := by decide +kernel
theorem dX7_spills_40 : decode cX7_spills 40 = .ok (.invokevirtual 145, 3) := by decide +kernel
theorem dX7_spills_43 : decode cX7_spills 43 = .ok (.ireturn, 1) := by decide +kernel
theorem dX7_isRow_0 : decode cX7_isRow 0 = .ok (.aload_n 0, 1) := by decide +kernel
theorem dX7_isRow_1 : decode cX7_isRow 1 = .ok (.getfield 67, 3) := by decide +kernel
theorem dX7_isRow_4 : decode cX7_isRow 4 = .ok (.iconst 1, 1) := by decide +kernel
theorem dX7_isRow_5 : decode cX7_isRow 5 = .ok (.iconst 5, 1) := by decide +kernel
theorem dX7_isRow_6 : decode cX7_isRow 6 = .ok (.invokestatic 63, 3) := by decide +kernel
theorem dX7_isRow_9 : decode cX7_isRow 9 = .ok (.istore_n 1, 1) := by decide +kernel
theorem dX7_isRow_10 : decode cX7_isRow 10 = .ok (.iconst 0, 1) := by decide +kernel
theorem dX7_isRow_11 : decode cX7_isRow 11 = .ok (.istore_n 2, 1) := by decide +kernel
theorem dX7_isRow_12 : decode cX7_isRow 12 = .ok (.iload_n 2, 1) := by decide +kernel
theorem dX7_isRow_13 : decode cX7_isRow 13 = .ok (.aload_n 0, 1) := by decide +kernel
theorem dX7_isRow_14 : decode cX7_isRow 14 = .ok (.getfield 67, 3) := by decide +kernel
theorem dX7_isRow_17 : decode cX7_isRow 17 = .ok (.if_icmp .ge 51, 3) := by decide +kernel
theorem dX7_isRow_20 : decode cX7_isRow 20 = .ok (.iload_n 1, 1) := by decide +kernel
theorem dX7_isRow_21 : decode cX7_isRow 21 = .ok (.ifCond .eq 47, 3) := by decide +kernel
theorem dX7_isRow_24 : decode cX7_isRow 24 = .ok (.iconst 0, 1) := by decide +kernel
theorem dX7_isRow_25 : decode cX7_isRow 25 = .ok (.istore_n 3, 1) := by decide +kernel
theorem dX7_isRow_26 : decode cX7_isRow 26 = .ok (.iload_n 3, 1) := by decide +kernel
theorem dX7_isRow_27 : decode cX7_isRow 27 = .ok (.iload_n 2, 1) := by decide +kernel
theorem dX7_isRow_28 : decode cX7_isRow 28 = .ok (.if_icmp .ge 34, 3) := by decide +kernel
theorem dX7_isRow_31 : decode cX7_isRow 31 = .ok (.iload_n 1, 1) := by decide +kernel
theorem dX7_isRow_32 : decode cX7_isRow 32 = .ok (.ifCond .eq 22, 3) := by decide +kernel
theorem dX7_isRow_35 : decode cX7_isRow 35 = .ok (.aload_n 0, 1) := by decide +kernel
theorem dX7_isRow_36 : decode cX7_isRow 36 = .ok (.getfield 7, 3) := by decide +kernel
theorem dX7_isRow_39 : decode cX7_isRow 39 = .ok (.iload_n 3, 1) := by decide +kernel
theorem dX7_isRow_40 : decode cX7_isRow 40 = .ok (.iaload, 1) := by decide +kernel
theorem dX7_isRow_41 : decode cX7_isRow 41 = .ok (.aload_n 0, 1) := by decide +kernel
theorem dX7_isRow_42 : decode cX7_isRow 42 = .ok (.getfield 7, 3) := by decide +kernel
theorem dX7_isRow_45 : decode cX7_isRow 45 = .ok (.iload_n 2, 1) := by decide +kernel
theorem dX7_isRow_46 : decode cX7_isRow 46 = .ok (.iaload, 1) := by decide +kernel
theorem dX7_isRow_47 : decode cX7_isRow 47 = .ok (.if_icmp .eq 7, 3) := by decide +kernel
theorem dX7_isRow_50 : decode cX7_isRow 50 = .ok (.iconst 1, 1) := by decide +kernel
theorem dX7_isRow_51 : decode cX7_isRow 51 = .ok (.goto 4, 3) := by decide +kernel
theorem dX7_isRow_54 : decode cX7_isRow 54 = .ok (.iconst 0, 1) := by decide +kernel
theorem dX7_isRow_55 : decode cX7_isRow 55 = .ok (.istore_n 1, 1) := by decide +kernel
theorem dX7_isRow_56 : decode cX7_isRow 56 = .ok (.iinc 3 1, 3) := by decide +kernel
theorem dX7_isRow_59 : decode cX7_isRow 59 = .ok (.goto (-33), 3) := by decide +kernel
theorem dX7_isRow_62 : decode cX7_isRow 62 = .ok (.iinc 2 1, 3) := by decide +kernel
theorem dX7_isRow_65 : decode cX7_isRow 65 = .ok (.goto (-53), 3) := by decide +kernel
theorem dX7_isRow_68 : decode cX7_isRow 68 = .ok (.iload_n 1, 1) := by decide +kernel
theorem dX7_isRow_69 : decode cX7_isRow 69 = .ok (.ireturn, 1) := by decide +kernel
theorem dX7_spill_0 : decode cX7_spill 0 = .ok (.iload_n 1, 1) := by decide +kernel
theorem dX7_spill_1 : decode cX7_spill 1 = .ok (.iconst 0, 1) := by decide +kernel
theorem dX7_spill_2 : decode cX7_spill 2 = .ok (.aload_n 0, 1) := by decide +kernel
theorem dX7_spill_3 : decode cX7_spill 3 = .ok (.getfield 84, 3) := by decide +kernel
theorem dX7_spill_6 : decode cX7_spill 6 = .ok (.iconst 1, 1) := by decide +kernel
theorem dX7_spill_7 : decode cX7_spill 7 = .ok (.isub, 1) := by decide +kernel
theorem dX7_spill_8 : decode cX7_spill 8 = .ok (.invokestatic 63, 3) := by decide +kernel
theorem dX7_spill_11 : decode cX7_spill 11 = .ok (.ifCond .ne 6, 3) := by decide +kernel
theorem dX7_spill_14 : decode cX7_spill 14 = .ok (.bipush (-2), 2) := by decide +kernel
theorem dX7_spill_16 : decode cX7_spill 16 = .ok (.ireturn, 1) := by decide +kernel
theorem dX7_spill_17 : decode cX7_spill 17 = .ok (.aload_n 0, 1) := by decide +kernel
theorem dX7_spill_18 : decode cX7_spill 18 = .ok (.invokevirtual 148, 3) := by decide +kernel
theorem dX7_spill_21 : decode cX7_spill 21 = .ok (.ifCond .ne 6, 3) := by decide +kernel
theorem dX7_spill_24 : decode cX7_spill 24 = .ok (.bipush (-3), 2) := by decide +kernel
theorem dX7_spill_26 : decode cX7_spill 26 = .ok (.ireturn, 1) := by decide +kernel
theorem dX7_spill_27 : decode cX7_spill 27 = .ok (.iconst 1, 1) := by decide +kernel
theorem dX7_spill_28 : decode cX7_spill 28 = .ok (.istore_n 3, 1) := by decide +kernel
theorem dX7_spill_29 : decode cX7_spill 29 = .ok (.iconst 1, 1) := by decide +kernel
theorem dX7_spill_30 : decode cX7_spill 30 = .ok (.istore 4, 2) := by decide +kernel
theorem dX7_spill_32 : decode cX7_spill 32 = .ok (.iload 4, 2) := by decide +kernel
theorem dX7_spill_34 : decode cX7_spill 34 = .ok (.iconst 5, 1) := by decide +kernel
theorem dX7_spill_35 : decode cX7_spill 35 = .ok (.if_icmp .ge 159, 3) := by decide +kernel
theorem dX7_spill_38 : decode cX7_spill 38 = .ok (.iload_n 3, 1) := by decide +kernel
theorem dX7_spill_39 : decode cX7_spill 39 = .ok (.aload_n 0, 1) := by decide +kernel
theorem dX7_spill_40 : decode cX7_spill 40 = .ok (.getfield 67, 3) := by decide +kernel
theorem dX7_spill_43 : decode cX7_spill 43 = .ok (.imul, 1) := by decide +kernel
theorem dX7_spill_44 : decode cX7_spill 44 = .ok (.istore_n 3, 1) := by decide +kernel
theorem dX7_spill_45 : decode cX7_spill 45 = .ok (.iconst 0, 1) := by decide +kernel
theorem dX7_spill_46 : decode cX7_spill 46 = .ok (.istore 5, 2) := by decide +kernel
theorem dX7_spill_48 : decode cX7_spill 48 = .ok (.iload 5, 2) := by decide +kernel
theorem dX7_spill_50 : decode cX7_spill 50 = .ok (.iload_n 3, 1) := by decide +kernel
theorem dX7_spill_51 : decode cX7_spill 51 = .ok (.if_icmp .ge 137, 3) := by decide +kernel
theorem dX7_spill_54 : decode cX7_spill 54 = .ok (.iload 5, 2) := by decide +kernel
theorem dX7_spill_56 : decode cX7_spill 56 = .ok (.istore 6, 2) := by decide +kernel
theorem dX7_spill_58 : decode cX7_spill 58 = .ok (.iload 4, 2) := by decide +kernel
theorem dX7_spill_60 : decode cX7_spill 60 = .ok (.iconst 1, 1) := by decide +kernel
theorem dX7_spill_61 : decode cX7_spill 61 = .ok (.isub, 1) := by decide +kernel
theorem dX7_spill_62 : decode cX7_spill 62 = .ok (.istore 7, 2) := by decide +kernel
theorem dX7_spill_64 : decode cX7_spill 64 = .ok (.iload 7, 2) := by decide +kernel
theorem dX7_spill_66 : decode cX7_spill 66 = .ok (.ifCond .lt 51, 3) := by decide +kernel
theorem dX7_spill_69 : decode cX7_spill 69 = .ok (.aload_n 0, 1) := by decide +kernel
theorem dX7_spill_70 : decode cX7_spill 70 = .ok (.getfield 44, 3) := by decide +kernel
theorem dX7_spill_73 : decode cX7_spill 73 = .ok (.iload 7, 2) := by decide +kernel
theorem dX7_spill_75 : decode cX7_spill 75 = .ok (.aload_n 0, 1) := by decide +kernel
theorem dX7_spill_76 : decode cX7_spill 76 = .ok (.getfield 7, 3) := by decide +kernel
theorem dX7_spill_79 : decode cX7_spill 79 = .ok (.iload 6, 2) := by decide +kernel
theorem dX7_spill_81 : decode cX7_spill 81 = .ok (.aload_n 0, 1) := by decide +kernel
theorem dX7_spill_82 : decode cX7_spill 82 = .ok (.getfield 67, 3) := by decide +kernel
theorem dX7_spill_85 : decode cX7_spill 85 = .ok (.irem, 1) := by decide +kernel
theorem dX7_spill_86 : decode cX7_spill 86 = .ok (.iaload, 1) := by decide +kernel
theorem dX7_spill_87 : decode cX7_spill 87 = .ok (.iastore, 1) := by decide +kernel
theorem dX7_spill_88 : decode cX7_spill 88 = .ok (.aload_n 0, 1) := by decide +kernel
theorem dX7_spill_89 : decode cX7_spill 89 = .ok (.getfield 38, 3) := by decide +kernel
theorem dX7_spill_92 : decode cX7_spill 92 = .ok (.iload 7, 2) := by decide +kernel
theorem dX7_spill_94 : decode cX7_spill 94 = .ok (.aload_n 0, 1) := by decide +kernel
theorem dX7_spill_95 : decode cX7_spill 95 = .ok (.getfield 44, 3) := by decide +kernel
theorem dX7_spill_98 : decode cX7_spill 98 = .ok (.iload 7, 2) := by decide +kernel
theorem dX7_spill_100 : decode cX7_spill 100 = .ok (.iaload, 1) := by decide +kernel
theorem dX7_spill_101 : decode cX7_spill 101 = .ok (.iastore, 1) := by decide +kernel
theorem dX7_spill_102 : decode cX7_spill 102 = .ok (.iload 6, 2) := by decide +kernel
theorem dX7_spill_104 : decode cX7_spill 104 = .ok (.aload_n 0, 1) := by decide +kernel
theorem dX7_spill_105 : decode cX7_spill 105 = .ok (.getfield 67, 3) := by decide +kernel
theorem dX7_spill_108 : decode cX7_spill 108 = .ok (.idiv, 1) := by decide +kernel
theorem dX7_spill_109 : decode cX7_spill 109 = .ok (.istore 6, 2) := by decide +kernel
theorem dX7_spill_111 : decode cX7_spill 111 = .ok (.iinc 7 (-1), 3) := by decide +kernel
theorem dX7_spill_114 : decode cX7_spill 114 = .ok (.goto (-50), 3) := by decide +kernel
theorem dX7_spill_117 : decode cX7_spill 117 = .ok (.aload_n 0, 1) := by decide +kernel
theorem dX7_spill_118 : decode cX7_spill 118 = .ok (.iload 4, 2) := by decide +kernel
theorem dX7_spill_120 : decode cX7_spill 120 = .ok (.putfield 139, 3) := by decide +kernel
theorem dX7_spill_123 : decode cX7_spill 123 = .ok (.aload_n 0, 1) := by decide +kernel
theorem dX7_spill_124 : decode cX7_spill 124 = .ok (.iload 4, 2) := by decide +kernel
theorem dX7_spill_126 : decode cX7_spill 126 = .ok (.putfield 94, 3) := by decide +kernel
theorem dX7_spill_129 : decode cX7_spill 129 = .ok (.aload_n 0, 1) := by decide +kernel
theorem dX7_spill_130 : decode cX7_spill 130 = .ok (.aload_n 0, 1) := by decide +kernel
theorem dX7_spill_131 : decode cX7_spill 131 = .ok (.getfield 84, 3) := by decide +kernel
theorem dX7_spill_134 : decode cX7_spill 134 = .ok (.iload_n 1, 1) := by decide +kernel
theorem dX7_spill_135 : decode cX7_spill 135 = .ok (.invokevirtual 114, 3) := by decide +kernel
theorem dX7_spill_138 : decode cX7_spill 138 = .ok (.ifCond .ne 44, 3) := by decide +kernel
theorem dX7_spill_141 : decode cX7_spill 141 = .ok (.aload_n 0, 1) := by decide +kernel
theorem dX7_spill_142 : decode cX7_spill 142 = .ok (.invokevirtual 145, 3) := by decide +kernel
theorem dX7_spill_145 : decode cX7_spill 145 = .ok (.ifCond .le 37, 3) := by decide +kernel
theorem dX7_spill_148 : decode cX7_spill 148 = .ok (.iload_n 2, 1) := by decide +kernel
theorem dX7_spill_149 : decode cX7_spill 149 = .ok (.iconst (-1), 1) := by decide +kernel
theorem dX7_spill_150 : decode cX7_spill 150 = .ok (.if_icmp .ne 8, 3) := by decide +kernel
theorem dX7_spill_153 : decode cX7_spill 153 = .ok (.iload 4, 2) := by decide +kernel
theorem dX7_spill_155 : decode cX7_spill 155 = .ok (.goto 26, 3) := by decide +kernel
theorem dX7_spill_158 : decode cX7_spill 158 = .ok (.iload_n 2, 1) := by decide +kernel
theorem dX7_spill_159 : decode cX7_spill 159 = .ok (.iconst 0, 1) := by decide +kernel
theorem dX7_spill_160 : decode cX7_spill 160 = .ok (.iload 4, 2) := by decide +kernel
theorem dX7_spill_162 : decode cX7_spill 162 = .ok (.iconst 1, 1) := by decide +kernel
theorem dX7_spill_163 : decode cX7_spill 163 = .ok (.isub, 1) := by decide +kernel
theorem dX7_spill_164 : decode cX7_spill 164 = .ok (.invokestatic 63, 3) := by decide +kernel
theorem dX7_spill_167 : decode cX7_spill 167 = .ok (.ifCond .eq 12, 3) := by decide +kernel
theorem dX7_spill_170 : decode cX7_spill 170 = .ok (.aload_n 0, 1) := by decide +kernel
theorem dX7_spill_171 : decode cX7_spill 171 = .ok (.getfield 44, 3) := by decide +kernel
theorem dX7_spill_174 : decode cX7_spill 174 = .ok (.iload_n 2, 1) := by decide +kernel
theorem dX7_spill_175 : decode cX7_spill 175 = .ok (.iaload, 1) := by decide +kernel
theorem dX7_spill_176 : decode cX7_spill 176 = .ok (.goto 5, 3) := by decide +kernel
theorem dX7_spill_179 : decode cX7_spill 179 = .ok (.bipush (-6), 2) := by decide +kernel
theorem dX7_spill_181 : decode cX7_spill 181 = .ok (.ireturn, 1) := by decide +kernel
theorem dX7_spill_182 : decode cX7_spill 182 = .ok (.iinc 5 1, 3) := by decide +kernel
theorem dX7_spill_185 : decode cX7_spill 185 = .ok (.goto (-137), 3) := by decide +kernel
theorem dX7_spill_188 : decode cX7_spill 188 = .ok (.iinc 4 1, 3) := by decide +kernel
theorem dX7_spill_191 : decode cX7_spill 191 = .ok (.goto (-159), 3) := by decide +kernel
theorem dX7_spill_194 : decode cX7_spill 194 = .ok (.bipush (-6), 2) := by decide +kernel
theorem dX7_spill_196 : decode cX7_spill 196 = .ok (.ireturn, 1) := by decide +kernel
theorem dX7_twice_0 : decode cX7_twice 0 = .ok (.iload_n 1, 1) := by decide +kernel
theorem dX7_twice_1 : decode cX7_twice 1 = .ok (.iconst 0, 1) := by decide +kernel
theorem dX7_twice_2 : decode cX7_twice 2 = .ok (.aload_n 0, 1) := by decide +kernel
theorem dX7_twice_3 : decode cX7_twice 3 = .ok (.getfield 84, 3) := by decide +kernel
theorem dX7_twice_6 : decode cX7_twice 6 = .ok (.iconst 1, 1) := by decide +kernel
theorem dX7_twice_7 : decode cX7_twice 7 = .ok (.isub, 1) := by decide +kernel
theorem dX7_twice_8 : decode cX7_twice 8 = .ok (.invokestatic 63, 3) := by decide +kernel
theorem dX7_twice_11 : decode cX7_twice 11 = .ok (.ifCond .ne 6, 3) := by decide +kernel
theorem dX7_twice_14 : decode cX7_twice 14 = .ok (.bipush (-2), 2) := by decide +kernel
theorem dX7_twice_16 : decode cX7_twice 16 = .ok (.ireturn, 1) := by decide +kernel
theorem dX7_twice_17 : decode cX7_twice 17 = .ok (.aload_n 0, 1) := by decide +kernel
theorem dX7_twice_18 : decode cX7_twice 18 = .ok (.invokevirtual 142, 3) := by decide +kernel
theorem dX7_twice_21 : decode cX7_twice 21 = .ok (.iconst 0, 1) := by decide +kernel
theorem dX7_twice_22 : decode cX7_twice 22 = .ok (.istore_n 2, 1) := by decide +kernel
theorem dX7_twice_23 : decode cX7_twice 23 = .ok (.iload_n 2, 1) := by decide +kernel
theorem dX7_twice_24 : decode cX7_twice 24 = .ok (.aload_n 0, 1) := by decide +kernel
theorem dX7_twice_25 : decode cX7_twice 25 = .ok (.getfield 84, 3) := by decide +kernel
theorem dX7_twice_28 : decode cX7_twice 28 = .ok (.if_icmp .ge 52, 3) := by decide +kernel
theorem dX7_twice_31 : decode cX7_twice 31 = .ok (.aload_n 0, 1) := by decide +kernel
theorem dX7_twice_32 : decode cX7_twice 32 = .ok (.aload_n 0, 1) := by decide +kernel
theorem dX7_twice_33 : decode cX7_twice 33 = .ok (.getfield 28, 3) := by decide +kernel
theorem dX7_twice_36 : decode cX7_twice 36 = .ok (.iload_n 2, 1) := by decide +kernel
theorem dX7_twice_37 : decode cX7_twice 37 = .ok (.iaload, 1) := by decide +kernel
theorem dX7_twice_38 : decode cX7_twice 38 = .ok (.iconst 0, 1) := by decide +kernel
theorem dX7_twice_39 : decode cX7_twice 39 = .ok (.invokevirtual 107, 3) := by decide +kernel
theorem dX7_twice_42 : decode cX7_twice 42 = .ok (.istore_n 3, 1) := by decide +kernel
theorem dX7_twice_43 : decode cX7_twice 43 = .ok (.iload_n 3, 1) := by decide +kernel
theorem dX7_twice_44 : decode cX7_twice 44 = .ok (.ifCond .ne 22, 3) := by decide +kernel
theorem dX7_twice_47 : decode cX7_twice 47 = .ok (.iload_n 2, 1) := by decide +kernel
theorem dX7_twice_48 : decode cX7_twice 48 = .ok (.iload_n 1, 1) := by decide +kernel
theorem dX7_twice_49 : decode cX7_twice 49 = .ok (.if_icmp .ne 17, 3) := by decide +kernel
theorem dX7_twice_52 : decode cX7_twice 52 = .ok (.aload_n 0, 1) := by decide +kernel
theorem dX7_twice_53 : decode cX7_twice 53 = .ok (.aload_n 0, 1) := by decide +kernel
theorem dX7_twice_54 : decode cX7_twice 54 = .ok (.getfield 28, 3) := by decide +kernel
theorem dX7_twice_57 : decode cX7_twice 57 = .ok (.iload_n 2, 1) := by decide +kernel
theorem dX7_twice_58 : decode cX7_twice 58 = .ok (.iaload, 1) := by decide +kernel
theorem dX7_twice_59 : decode cX7_twice 59 = .ok (.iconst 0, 1) := by decide +kernel
theorem dX7_twice_60 : decode cX7_twice 60 = .ok (.invokevirtual 107, 3) := by decide +kernel
theorem dX7_twice_63 : decode cX7_twice 63 = .ok (.goto 4, 3) := by decide +kernel
theorem dX7_twice_66 : decode cX7_twice 66 = .ok (.iload_n 3, 1) := by decide +kernel
theorem dX7_twice_67 : decode cX7_twice 67 = .ok (.istore_n 3, 1) := by decide +kernel
theorem dX7_twice_68 : decode cX7_twice 68 = .ok (.iload_n 3, 1) := by decide +kernel
theorem dX7_twice_69 : decode cX7_twice 69 = .ok (.ifCond .ge 5, 3) := by decide +kernel
theorem dX7_twice_72 : decode cX7_twice 72 = .ok (.iload_n 3, 1) := by decide +kernel
theorem dX7_twice_73 : decode cX7_twice 73 = .ok (.ireturn, 1) := by decide +kernel
theorem dX7_twice_74 : decode cX7_twice 74 = .ok (.iinc 2 1, 3) := by decide +kernel
theorem dX7_twice_77 : decode cX7_twice 77 = .ok (.goto (-54), 3) := by decide +kernel
theorem dX7_twice_80 : decode cX7_twice 80 = .ok (.aload_n 0, 1) := by decide +kernel
theorem dX7_twice_81 : decode cX7_twice 81 = .ok (.invokevirtual 145, 3) := by decide +kernel
theorem dX7_twice_84 : decode cX7_twice 84 = .ok (.ireturn, 1) := by decide +kernel
theorem dX7_isAsAtFirst_0 : decode cX7_isAsAtFirst 0 = .ok (.aload_n 0, 1) := by decide +kernel
theorem dX7_isAsAtFirst_1 : decode cX7_isAsAtFirst 1 = .ok (.iload_n 1, 1) := by decide +kernel
theorem dX7_isAsAtFirst_2 : decode cX7_isAsAtFirst 2 = .ok (.invokevirtual 87, 3) := by decide +kernel
theorem dX7_isAsAtFirst_5 : decode cX7_isAsAtFirst 5 = .ok (.ifCond .ne 25, 3) := by decide +kernel
theorem dX7_isAsAtFirst_8 : decode cX7_isAsAtFirst 8 = .ok (.aload_n 0, 1) := by decide +kernel
theorem dX7_isAsAtFirst_9 : decode cX7_isAsAtFirst 9 = .ok (.getfield 16, 3) := by decide +kernel
theorem dX7_isAsAtFirst_12 : decode cX7_isAsAtFirst 12 = .ok (.iload_n 1, 1) := by decide +kernel
theorem dX7_isAsAtFirst_13 : decode cX7_isAsAtFirst 13 = .ok (.iaload, 1) := by decide +kernel
theorem dX7_isAsAtFirst_14 : decode cX7_isAsAtFirst 14 = .ok (.ifCond .ne 16, 3) := by decide +kernel
theorem dX7_isAsAtFirst_17 : decode cX7_isAsAtFirst 17 = .ok (.aload_n 0, 1) := by decide +kernel
theorem dX7_isAsAtFirst_18 : decode cX7_isAsAtFirst 18 = .ok (.getfield 22, 3) := by decide +kernel
theorem dX7_isAsAtFirst_21 : decode cX7_isAsAtFirst 21 = .ok (.iload_n 1, 1) := by decide +kernel
theorem dX7_isAsAtFirst_22 : decode cX7_isAsAtFirst 22 = .ok (.iaload, 1) := by decide +kernel
theorem dX7_isAsAtFirst_23 : decode cX7_isAsAtFirst 23 = .ok (.ifCond .ne 7, 3) := by decide +kernel
theorem dX7_isAsAtFirst_26 : decode cX7_isAsAtFirst 26 = .ok (.iconst 1, 1) := by decide +kernel
theorem dX7_isAsAtFirst_27 : decode cX7_isAsAtFirst 27 = .ok (.goto 4, 3) := by decide +kernel
theorem dX7_isAsAtFirst_30 : decode cX7_isAsAtFirst 30 = .ok (.iconst 0, 1) := by decide +kernel
theorem dX7_isAsAtFirst_31 : decode cX7_isAsAtFirst 31 = .ok (.ireturn, 1) := by decide +kernel
theorem dX7_fitsRow_0 : decode cX7_fitsRow 0 = .ok (.aload_n 0, 1) := by decide +kernel
theorem dX7_fitsRow_1 : decode cX7_fitsRow 1 = .ok (.invokevirtual 133, 3) := by decide +kernel
theorem dX7_fitsRow_4 : decode cX7_fitsRow 4 = .ok (.iload_n 3, 1) := by decide +kernel
theorem dX7_fitsRow_5 : decode cX7_fitsRow 5 = .ok (.ifCond .lt 11, 3) := by decide +kernel
theorem dX7_fitsRow_8 : decode cX7_fitsRow 8 = .ok (.aload_n 0, 1) := by decide +kernel
theorem dX7_fitsRow_9 : decode cX7_fitsRow 9 = .ok (.iload_n 3, 1) := by decide +kernel
theorem dX7_fitsRow_10 : decode cX7_fitsRow 10 = .ok (.invokevirtual 130, 3) := by decide +kernel
theorem dX7_fitsRow_13 : decode cX7_fitsRow 13 = .ok (.ifCond .ge 7, 3) := by decide +kernel
theorem dX7_fitsRow_16 : decode cX7_fitsRow 16 = .ok (.iconst 1, 1) := by decide +kernel
theorem dX7_fitsRow_17 : decode cX7_fitsRow 17 = .ok (.goto 4, 3) := by decide +kernel
theorem dX7_fitsRow_20 : decode cX7_fitsRow 20 = .ok (.iconst 0, 1) := by decide +kernel
theorem dX7_fitsRow_21 : decode cX7_fitsRow 21 = .ok (.istore 4, 2) := by decide +kernel
theorem dX7_fitsRow_23 : decode cX7_fitsRow 23 = .ok (.iload 4, 2) := by decide +kernel
theorem dX7_fitsRow_25 : decode cX7_fitsRow 25 = .ok (.ifCond .eq 19, 3) := by decide +kernel
theorem dX7_fitsRow_28 : decode cX7_fitsRow 28 = .ok (.iload_n 2, 1) := by decide +kernel
theorem dX7_fitsRow_29 : decode cX7_fitsRow 29 = .ok (.ifCond .lt 11, 3) := by decide +kernel
theorem dX7_fitsRow_32 : decode cX7_fitsRow 32 = .ok (.aload_n 0, 1) := by decide +kernel
theorem dX7_fitsRow_33 : decode cX7_fitsRow 33 = .ok (.iload_n 2, 1) := by decide +kernel
theorem dX7_fitsRow_34 : decode cX7_fitsRow 34 = .ok (.invokevirtual 130, 3) := by decide +kernel
theorem dX7_fitsRow_37 : decode cX7_fitsRow 37 = .ok (.ifCond .ge 7, 3) := by decide +kernel
theorem dX7_fitsRow_40 : decode cX7_fitsRow 40 = .ok (.iconst 1, 1) := by decide +kernel
theorem dX7_fitsRow_41 : decode cX7_fitsRow 41 = .ok (.goto 4, 3) := by decide +kernel
theorem dX7_fitsRow_44 : decode cX7_fitsRow 44 = .ok (.iconst 0, 1) := by decide +kernel
theorem dX7_fitsRow_45 : decode cX7_fitsRow 45 = .ok (.istore 4, 2) := by decide +kernel
theorem dX7_fitsRow_47 : decode cX7_fitsRow 47 = .ok (.iload 4, 2) := by decide +kernel
theorem dX7_fitsRow_49 : decode cX7_fitsRow 49 = .ok (.ifCond .eq 15, 3) := by decide +kernel
theorem dX7_fitsRow_52 : decode cX7_fitsRow 52 = .ok (.aload_n 0, 1) := by decide +kernel
theorem dX7_fitsRow_53 : decode cX7_fitsRow 53 = .ok (.iload_n 1, 1) := by decide +kernel
theorem dX7_fitsRow_54 : decode cX7_fitsRow 54 = .ok (.invokevirtual 130, 3) := by decide +kernel
theorem dX7_fitsRow_57 : decode cX7_fitsRow 57 = .ok (.ifCond .ge 7, 3) := by decide +kernel
theorem dX7_fitsRow_60 : decode cX7_fitsRow 60 = .ok (.iconst 1, 1) := by decide +kernel
theorem dX7_fitsRow_61 : decode cX7_fitsRow 61 = .ok (.goto 4, 3) := by decide +kernel
theorem dX7_fitsRow_64 : decode cX7_fitsRow 64 = .ok (.iconst 0, 1) := by decide +kernel
theorem dX7_fitsRow_65 : decode cX7_fitsRow 65 = .ok (.ireturn, 1) := by decide +kernel
theorem dX7_rows_0 : decode cX7_rows 0 = .ok (.aload_n 0, 1) := by decide +kernel
theorem dX7_rows_1 : decode cX7_rows 1 = .ok (.getfield 67, 3) := by decide +kernel
theorem dX7_rows_4 : decode cX7_rows 4 = .ok (.ifCond .ne 6, 3) := by decide +kernel
theorem dX7_rows_7 : decode cX7_rows 7 = .ok (.bipush (-3), 2) := by decide +kernel
theorem dX7_rows_9 : decode cX7_rows 9 = .ok (.ireturn, 1) := by decide +kernel
theorem dX7_rows_10 : decode cX7_rows 10 = .ok (.iconst 0, 1) := by decide +kernel
theorem dX7_rows_11 : decode cX7_rows 11 = .ok (.istore_n 2, 1) := by decide +kernel
theorem dX7_rows_12 : decode cX7_rows 12 = .ok (.iconst 1, 1) := by decide +kernel
theorem dX7_rows_13 : decode cX7_rows 13 = .ok (.istore_n 3, 1) := by decide +kernel
theorem dX7_rows_14 : decode cX7_rows 14 = .ok (.iload_n 3, 1) := by decide +kernel
theorem dX7_rows_15 : decode cX7_rows 15 = .ok (.iconst 4, 1) := by decide +kernel
theorem dX7_rows_16 : decode cX7_rows 16 = .ok (.if_icmp .ge 232, 3) := by decide +kernel
theorem dX7_rows_19 : decode cX7_rows 19 = .ok (.iconst 0, 1) := by decide +kernel
theorem dX7_rows_20 : decode cX7_rows 20 = .ok (.istore 4, 2) := by decide +kernel
theorem dX7_rows_22 : decode cX7_rows 22 = .ok (.iload 4, 2) := by decide +kernel
theorem dX7_rows_24 : decode cX7_rows 24 = .ok (.bipush 125, 2) := by decide +kernel
theorem dX7_rows_26 : decode cX7_rows 26 = .ok (.if_icmp .ge 216, 3) := by decide +kernel
theorem dX7_rows_29 : decode cX7_rows 29 = .ok (.iload 4, 2) := by decide +kernel
theorem dX7_rows_31 : decode cX7_rows 31 = .ok (.bipush 25, 2) := by decide +kernel
theorem dX7_rows_33 : decode cX7_rows 33 = .ok (.idiv, 1) := by decide +kernel
theorem dX7_rows_34 : decode cX7_rows 34 = .ok (.istore 5, 2) := by decide +kernel
theorem dX7_rows_36 : decode cX7_rows 36 = .ok (.iload_n 3, 1) := by decide +kernel
theorem dX7_rows_37 : decode cX7_rows 37 = .ok (.iconst 1, 1) := by decide +kernel
theorem dX7_rows_38 : decode cX7_rows 38 = .ok (.if_icmp .le 12, 3) := by decide +kernel
theorem dX7_rows_41 : decode cX7_rows 41 = .ok (.iload 4, 2) := by decide +kernel
theorem dX7_rows_43 : decode cX7_rows 43 = .ok (.iconst 5, 1) := by decide +kernel
theorem dX7_rows_44 : decode cX7_rows 44 = .ok (.idiv, 1) := by decide +kernel
theorem dX7_rows_45 : decode cX7_rows 45 = .ok (.iconst 5, 1) := by decide +kernel
theorem dX7_rows_46 : decode cX7_rows 46 = .ok (.irem, 1) := by decide +kernel
theorem dX7_rows_47 : decode cX7_rows 47 = .ok (.goto 5, 3) := by decide +kernel
theorem dX7_rows_50 : decode cX7_rows 50 = .ok (.bipush (-6), 2) := by decide +kernel
theorem dX7_rows_52 : decode cX7_rows 52 = .ok (.istore 6, 2) := by decide +kernel
theorem dX7_rows_54 : decode cX7_rows 54 = .ok (.iload_n 3, 1) := by decide +kernel
theorem dX7_rows_55 : decode cX7_rows 55 = .ok (.iconst 2, 1) := by decide +kernel
theorem dX7_rows_56 : decode cX7_rows 56 = .ok (.if_icmp .le 10, 3) := by decide +kernel
theorem dX7_rows_59 : decode cX7_rows 59 = .ok (.iload 4, 2) := by decide +kernel
theorem dX7_rows_61 : decode cX7_rows 61 = .ok (.iconst 5, 1) := by decide +kernel
theorem dX7_rows_62 : decode cX7_rows 62 = .ok (.irem, 1) := by decide +kernel
theorem dX7_rows_63 : decode cX7_rows 63 = .ok (.goto 5, 3) := by decide +kernel
theorem dX7_rows_66 : decode cX7_rows 66 = .ok (.bipush (-6), 2) := by decide +kernel
theorem dX7_rows_68 : decode cX7_rows 68 = .ok (.istore 7, 2) := by decide +kernel
theorem dX7_rows_70 : decode cX7_rows 70 = .ok (.iload_n 3, 1) := by decide +kernel
theorem dX7_rows_71 : decode cX7_rows 71 = .ok (.iconst 1, 1) := by decide +kernel
theorem dX7_rows_72 : decode cX7_rows 72 = .ok (.if_icmp .ne 19, 3) := by decide +kernel
theorem dX7_rows_75 : decode cX7_rows 75 = .ok (.iload 4, 2) := by decide +kernel
theorem dX7_rows_77 : decode cX7_rows 77 = .ok (.bipush 25, 2) := by decide +kernel
theorem dX7_rows_79 : decode cX7_rows 79 = .ok (.irem, 1) := by decide +kernel
theorem dX7_rows_80 : decode cX7_rows 80 = .ok (.ifCond .ne 7, 3) := by decide +kernel
theorem dX7_rows_83 : decode cX7_rows 83 = .ok (.iconst 1, 1) := by decide +kernel
theorem dX7_rows_84 : decode cX7_rows 84 = .ok (.goto 24, 3) := by decide +kernel
theorem dX7_rows_87 : decode cX7_rows 87 = .ok (.iconst 0, 1) := by decide +kernel
theorem dX7_rows_88 : decode cX7_rows 88 = .ok (.goto 20, 3) := by decide +kernel
theorem dX7_rows_91 : decode cX7_rows 91 = .ok (.iload_n 3, 1) := by decide +kernel
theorem dX7_rows_92 : decode cX7_rows 92 = .ok (.iconst 3, 1) := by decide +kernel
theorem dX7_rows_93 : decode cX7_rows 93 = .ok (.if_icmp .eq 10, 3) := by decide +kernel
theorem dX7_rows_96 : decode cX7_rows 96 = .ok (.iload 4, 2) := by decide +kernel
theorem dX7_rows_98 : decode cX7_rows 98 = .ok (.iconst 5, 1) := by decide +kernel
theorem dX7_rows_99 : decode cX7_rows 99 = .ok (.irem, 1) := by decide +kernel
theorem dX7_rows_100 : decode cX7_rows 100 = .ok (.ifCond .ne 7, 3) := by decide +kernel
theorem dX7_rows_103 : decode cX7_rows 103 = .ok (.iconst 1, 1) := by decide +kernel
theorem dX7_rows_104 : decode cX7_rows 104 = .ok (.goto 4, 3) := by decide +kernel
theorem dX7_rows_107 : decode cX7_rows 107 = .ok (.iconst 0, 1) := by decide +kernel
theorem dX7_rows_108 : decode cX7_rows 108 = .ok (.istore 8, 2) := by decide +kernel
theorem dX7_rows_110 : decode cX7_rows 110 = .ok (.iload 8, 2) := by decide +kernel
theorem dX7_rows_112 : decode cX7_rows 112 = .ok (.ifCond .eq 44, 3) := by decide +kernel
theorem dX7_rows_115 : decode cX7_rows 115 = .ok (.aload_n 0, 1) := by decide +kernel
theorem dX7_rows_116 : decode cX7_rows 116 = .ok (.iload 5, 2) := by decide +kernel
theorem dX7_rows_118 : decode cX7_rows 118 = .ok (.invokevirtual 152, 3) := by decide +kernel
theorem dX7_rows_121 : decode cX7_rows 121 = .ok (.ifCond .ne 35, 3) := by decide +kernel
theorem dX7_rows_124 : decode cX7_rows 124 = .ok (.iload 6, 2) := by decide +kernel
theorem dX7_rows_126 : decode cX7_rows 126 = .ok (.ifCond .lt 12, 3) := by decide +kernel
theorem dX7_rows_129 : decode cX7_rows 129 = .ok (.aload_n 0, 1) := by decide +kernel
theorem dX7_rows_130 : decode cX7_rows 130 = .ok (.iload 6, 2) := by decide +kernel
theorem dX7_rows_132 : decode cX7_rows 132 = .ok (.invokevirtual 152, 3) := by decide +kernel
theorem dX7_rows_135 : decode cX7_rows 135 = .ok (.ifCond .ne 21, 3) := by decide +kernel
theorem dX7_rows_138 : decode cX7_rows 138 = .ok (.iload 7, 2) := by decide +kernel
theorem dX7_rows_140 : decode cX7_rows 140 = .ok (.ifCond .lt 12, 3) := by decide +kernel
theorem dX7_rows_143 : decode cX7_rows 143 = .ok (.aload_n 0, 1) := by decide +kernel
theorem dX7_rows_144 : decode cX7_rows 144 = .ok (.iload 7, 2) := by decide +kernel
theorem dX7_rows_146 : decode cX7_rows 146 = .ok (.invokevirtual 152, 3) := by decide +kernel
theorem dX7_rows_149 : decode cX7_rows 149 = .ok (.ifCond .ne 7, 3) := by decide +kernel
theorem dX7_rows_152 : decode cX7_rows 152 = .ok (.iconst 1, 1) := by decide +kernel
theorem dX7_rows_153 : decode cX7_rows 153 = .ok (.goto 4, 3) := by decide +kernel
theorem dX7_rows_156 : decode cX7_rows 156 = .ok (.iconst 0, 1) := by decide +kernel
theorem dX7_rows_157 : decode cX7_rows 157 = .ok (.istore 9, 2) := by decide +kernel
theorem dX7_rows_159 : decode cX7_rows 159 = .ok (.iload 9, 2) := by decide +kernel
theorem dX7_rows_161 : decode cX7_rows 161 = .ok (.ifCond .eq 75, 3) := by decide +kernel
theorem dX7_rows_164 : decode cX7_rows 164 = .ok (.aload_n 0, 1) := by decide +kernel
theorem dX7_rows_165 : decode cX7_rows 165 = .ok (.iload 5, 2) := by decide +kernel
theorem dX7_rows_167 : decode cX7_rows 167 = .ok (.iload 6, 2) := by decide +kernel
theorem dX7_rows_169 : decode cX7_rows 169 = .ok (.iload 7, 2) := by decide +kernel
theorem dX7_rows_171 : decode cX7_rows 171 = .ok (.invokevirtual 155, 3) := by decide +kernel
theorem dX7_rows_174 : decode cX7_rows 174 = .ok (.ifCond .eq 62, 3) := by decide +kernel
theorem dX7_rows_177 : decode cX7_rows 177 = .ok (.iload_n 2, 1) := by decide +kernel
theorem dX7_rows_178 : decode cX7_rows 178 = .ok (.iload_n 1, 1) := by decide +kernel
theorem dX7_rows_179 : decode cX7_rows 179 = .ok (.if_icmp .ne 54, 3) := by decide +kernel
theorem dX7_rows_182 : decode cX7_rows 182 = .ok (.iload_n 3, 1) := by decide +kernel
theorem dX7_rows_183 : decode cX7_rows 183 = .ok (.iconst 1, 1) := by decide +kernel
theorem dX7_rows_184 : decode cX7_rows 184 = .ok (.if_icmp .ne 11, 3) := by decide +kernel
theorem dX7_rows_187 : decode cX7_rows 187 = .ok (.bipush 10, 2) := by decide +kernel
theorem dX7_rows_189 : decode cX7_rows 189 = .ok (.iload 5, 2) := by decide +kernel
theorem dX7_rows_191 : decode cX7_rows 191 = .ok (.iadd, 1) := by decide +kernel
theorem dX7_rows_192 : decode cX7_rows 192 = .ok (.goto 40, 3) := by decide +kernel
theorem dX7_rows_195 : decode cX7_rows 195 = .ok (.iload_n 3, 1) := by decide +kernel
theorem dX7_rows_196 : decode cX7_rows 196 = .ok (.iconst 2, 1) := by decide +kernel
theorem dX7_rows_197 : decode cX7_rows 197 = .ok (.if_icmp .ne 17, 3) := by decide +kernel
theorem dX7_rows_200 : decode cX7_rows 200 = .ok (.bipush 100, 2) := by decide +kernel
theorem dX7_rows_202 : decode cX7_rows 202 = .ok (.bipush 10, 2) := by decide +kernel
theorem dX7_rows_204 : decode cX7_rows 204 = .ok (.iload 5, 2) := by decide +kernel
theorem dX7_rows_206 : decode cX7_rows 206 = .ok (.imul, 1) := by decide +kernel
theorem dX7_rows_207 : decode cX7_rows 207 = .ok (.iadd, 1) := by decide +kernel
theorem dX7_rows_208 : decode cX7_rows 208 = .ok (.iload 6, 2) := by decide +kernel
theorem dX7_rows_210 : decode cX7_rows 210 = .ok (.iadd, 1) := by decide +kernel
theorem dX7_rows_211 : decode cX7_rows 211 = .ok (.goto 21, 3) := by decide +kernel
theorem dX7_rows_214 : decode cX7_rows 214 = .ok (.sipush 1000, 3) := by decide +kernel
theorem dX7_rows_217 : decode cX7_rows 217 = .ok (.bipush 100, 2) := by decide +kernel
theorem dX7_rows_219 : decode cX7_rows 219 = .ok (.iload 5, 2) := by decide +kernel
theorem dX7_rows_221 : decode cX7_rows 221 = .ok (.imul, 1) := by decide +kernel
theorem dX7_rows_222 : decode cX7_rows 222 = .ok (.iadd, 1) := by decide +kernel
theorem dX7_rows_223 : decode cX7_rows 223 = .ok (.bipush 10, 2) := by decide +kernel
theorem dX7_rows_225 : decode cX7_rows 225 = .ok (.iload 6, 2) := by decide +kernel
theorem dX7_rows_227 : decode cX7_rows 227 = .ok (.imul, 1) := by decide +kernel
theorem dX7_rows_228 : decode cX7_rows 228 = .ok (.iadd, 1) := by decide +kernel
theorem dX7_rows_229 : decode cX7_rows 229 = .ok (.iload 7, 2) := by decide +kernel
theorem dX7_rows_231 : decode cX7_rows 231 = .ok (.iadd, 1) := by decide +kernel
theorem dX7_rows_232 : decode cX7_rows 232 = .ok (.ireturn, 1) := by decide +kernel
theorem dX7_rows_233 : decode cX7_rows 233 = .ok (.iinc 2 1, 3) := by decide +kernel
theorem dX7_rows_236 : decode cX7_rows 236 = .ok (.iinc 4 1, 3) := by decide +kernel
theorem dX7_rows_239 : decode cX7_rows 239 = .ok (.goto (-217), 3) := by decide +kernel
theorem dX7_rows_242 : decode cX7_rows 242 = .ok (.iinc 3 1, 3) := by decide +kernel
theorem dX7_rows_245 : decode cX7_rows 245 = .ok (.goto (-231), 3) := by decide +kernel
theorem dX7_rows_248 : decode cX7_rows 248 = .ok (.iload_n 1, 1) := by decide +kernel
theorem dX7_rows_249 : decode cX7_rows 249 = .ok (.iconst (-1), 1) := by decide +kernel
theorem dX7_rows_250 : decode cX7_rows 250 = .ok (.if_icmp .ne 7, 3) := by decide +kernel
theorem dX7_rows_253 : decode cX7_rows 253 = .ok (.iload_n 2, 1) := by decide +kernel
theorem dX7_rows_254 : decode cX7_rows 254 = .ok (.goto 5, 3) := by decide +kernel
theorem dX7_rows_257 : decode cX7_rows 257 = .ok (.bipush (-6), 2) := by decide +kernel
theorem dX7_rows_259 : decode cX7_rows 259 = .ok (.ireturn, 1) := by decide +kernel
theorem dX7_nextOrder_0 : decode cX7_nextOrder 0 = .ok (.aload_n 0, 1) := by decide +kernel
theorem dX7_nextOrder_1 : decode cX7_nextOrder 1 = .ok (.getfield 84, 3) := by decide +kernel
theorem dX7_nextOrder_4 : decode cX7_nextOrder 4 = .ok (.iconst 2, 1) := by decide +kernel
theorem dX7_nextOrder_5 : decode cX7_nextOrder 5 = .ok (.isub, 1) := by decide +kernel
theorem dX7_nextOrder_6 : decode cX7_nextOrder 6 = .ok (.istore_n 1, 1) := by decide +kernel
theorem dX7_nextOrder_7 : decode cX7_nextOrder 7 = .ok (.iload_n 1, 1) := by decide +kernel
theorem dX7_nextOrder_8 : decode cX7_nextOrder 8 = .ok (.ifCond .lt 26, 3) := by decide +kernel
theorem dX7_nextOrder_11 : decode cX7_nextOrder 11 = .ok (.aload_n 0, 1) := by decide +kernel
theorem dX7_nextOrder_12 : decode cX7_nextOrder 12 = .ok (.getfield 47, 3) := by decide +kernel
theorem dX7_nextOrder_15 : decode cX7_nextOrder 15 = .ok (.iload_n 1, 1) := by decide +kernel
theorem dX7_nextOrder_16 : decode cX7_nextOrder 16 = .ok (.iaload, 1) := by decide +kernel
theorem dX7_nextOrder_17 : decode cX7_nextOrder 17 = .ok (.aload_n 0, 1) := by decide +kernel
theorem dX7_nextOrder_18 : decode cX7_nextOrder 18 = .ok (.getfield 47, 3) := by decide +kernel
theorem dX7_nextOrder_21 : decode cX7_nextOrder 21 = .ok (.iload_n 1, 1) := by decide +kernel
theorem dX7_nextOrder_22 : decode cX7_nextOrder 22 = .ok (.iconst 1, 1) := by decide +kernel
theorem dX7_nextOrder_23 : decode cX7_nextOrder 23 = .ok (.iadd, 1) := by decide +kernel
theorem dX7_nextOrder_24 : decode cX7_nextOrder 24 = .ok (.iaload, 1) := by decide +kernel
theorem dX7_nextOrder_25 : decode cX7_nextOrder 25 = .ok (.if_icmp .le 9, 3) := by decide +kernel
theorem dX7_nextOrder_28 : decode cX7_nextOrder 28 = .ok (.iinc 1 (-1), 3) := by decide +kernel
theorem dX7_nextOrder_31 : decode cX7_nextOrder 31 = .ok (.goto (-24), 3) := by decide +kernel
theorem dX7_nextOrder_34 : decode cX7_nextOrder 34 = .ok (.iload_n 1, 1) := by decide +kernel
theorem dX7_nextOrder_35 : decode cX7_nextOrder 35 = .ok (.ifCond .ge 5, 3) := by decide +kernel
theorem dX7_nextOrder_38 : decode cX7_nextOrder 38 = .ok (.iconst 0, 1) := by decide +kernel
theorem dX7_nextOrder_39 : decode cX7_nextOrder 39 = .ok (.ireturn, 1) := by decide +kernel
theorem dX7_nextOrder_40 : decode cX7_nextOrder 40 = .ok (.aload_n 0, 1) := by decide +kernel
theorem dX7_nextOrder_41 : decode cX7_nextOrder 41 = .ok (.getfield 84, 3) := by decide +kernel
theorem dX7_nextOrder_44 : decode cX7_nextOrder 44 = .ok (.iconst 1, 1) := by decide +kernel
theorem dX7_nextOrder_45 : decode cX7_nextOrder 45 = .ok (.isub, 1) := by decide +kernel
theorem dX7_nextOrder_46 : decode cX7_nextOrder 46 = .ok (.istore_n 2, 1) := by decide +kernel
theorem dX7_nextOrder_47 : decode cX7_nextOrder 47 = .ok (.aload_n 0, 1) := by decide +kernel
theorem dX7_nextOrder_48 : decode cX7_nextOrder 48 = .ok (.getfield 47, 3) := by decide +kernel
theorem dX7_nextOrder_51 : decode cX7_nextOrder 51 = .ok (.iload_n 2, 1) := by decide +kernel
theorem dX7_nextOrder_52 : decode cX7_nextOrder 52 = .ok (.iaload, 1) := by decide +kernel
theorem dX7_nextOrder_53 : decode cX7_nextOrder 53 = .ok (.aload_n 0, 1) := by decide +kernel
theorem dX7_nextOrder_54 : decode cX7_nextOrder 54 = .ok (.getfield 47, 3) := by decide +kernel
theorem dX7_nextOrder_57 : decode cX7_nextOrder 57 = .ok (.iload_n 1, 1) := by decide +kernel
theorem dX7_nextOrder_58 : decode cX7_nextOrder 58 = .ok (.iaload, 1) := by decide +kernel
theorem dX7_nextOrder_59 : decode cX7_nextOrder 59 = .ok (.if_icmp .ge 9, 3) := by decide +kernel
theorem dX7_nextOrder_62 : decode cX7_nextOrder 62 = .ok (.iinc 2 (-1), 3) := by decide +kernel
theorem dX7_nextOrder_65 : decode cX7_nextOrder 65 = .ok (.goto (-18), 3) := by decide +kernel
theorem dX7_nextOrder_68 : decode cX7_nextOrder 68 = .ok (.aload_n 0, 1) := by decide +kernel
theorem dX7_nextOrder_69 : decode cX7_nextOrder 69 = .ok (.getfield 47, 3) := by decide +kernel
theorem dX7_nextOrder_72 : decode cX7_nextOrder 72 = .ok (.iload_n 1, 1) := by decide +kernel
theorem dX7_nextOrder_73 : decode cX7_nextOrder 73 = .ok (.iaload, 1) := by decide +kernel
theorem dX7_nextOrder_74 : decode cX7_nextOrder 74 = .ok (.istore_n 3, 1) := by decide +kernel
theorem dX7_nextOrder_75 : decode cX7_nextOrder 75 = .ok (.aload_n 0, 1) := by decide +kernel
theorem dX7_nextOrder_76 : decode cX7_nextOrder 76 = .ok (.getfield 47, 3) := by decide +kernel
theorem dX7_nextOrder_79 : decode cX7_nextOrder 79 = .ok (.iload_n 1, 1) := by decide +kernel
theorem dX7_nextOrder_80 : decode cX7_nextOrder 80 = .ok (.aload_n 0, 1) := by decide +kernel
theorem dX7_nextOrder_81 : decode cX7_nextOrder 81 = .ok (.getfield 47, 3) := by decide +kernel
theorem dX7_nextOrder_84 : decode cX7_nextOrder 84 = .ok (.iload_n 2, 1) := by decide +kernel
theorem dX7_nextOrder_85 : decode cX7_nextOrder 85 = .ok (.iaload, 1) := by decide +kernel
theorem dX7_nextOrder_86 : decode cX7_nextOrder 86 = .ok (.iastore, 1) := by decide +kernel
theorem dX7_nextOrder_87 : decode cX7_nextOrder 87 = .ok (.aload_n 0, 1) := by decide +kernel
theorem dX7_nextOrder_88 : decode cX7_nextOrder 88 = .ok (.getfield 47, 3) := by decide +kernel
theorem dX7_nextOrder_91 : decode cX7_nextOrder 91 = .ok (.iload_n 2, 1) := by decide +kernel
theorem dX7_nextOrder_92 : decode cX7_nextOrder 92 = .ok (.iload_n 3, 1) := by decide +kernel
theorem dX7_nextOrder_93 : decode cX7_nextOrder 93 = .ok (.iastore, 1) := by decide +kernel
theorem dX7_nextOrder_94 : decode cX7_nextOrder 94 = .ok (.iload_n 1, 1) := by decide +kernel
theorem dX7_nextOrder_95 : decode cX7_nextOrder 95 = .ok (.iconst 1, 1) := by decide +kernel
theorem dX7_nextOrder_96 : decode cX7_nextOrder 96 = .ok (.iadd, 1) := by decide +kernel
theorem dX7_nextOrder_97 : decode cX7_nextOrder 97 = .ok (.istore 4, 2) := by decide +kernel
theorem dX7_nextOrder_99 : decode cX7_nextOrder 99 = .ok (.aload_n 0, 1) := by decide +kernel
theorem dX7_nextOrder_100 : decode cX7_nextOrder 100 = .ok (.getfield 84, 3) := by decide +kernel
theorem dX7_nextOrder_103 : decode cX7_nextOrder 103 = .ok (.iconst 1, 1) := by decide +kernel
theorem dX7_nextOrder_104 : decode cX7_nextOrder 104 = .ok (.isub, 1) := by decide +kernel
theorem dX7_nextOrder_105 : decode cX7_nextOrder 105 = .ok (.istore 5, 2) := by decide +kernel
theorem dX7_nextOrder_107 : decode cX7_nextOrder 107 = .ok (.iload 4, 2) := by decide +kernel
theorem dX7_nextOrder_109 : decode cX7_nextOrder 109 = .ok (.iload 5, 2) := by decide +kernel
theorem dX7_nextOrder_111 : decode cX7_nextOrder 111 = .ok (.if_icmp .ge 42, 3) := by decide +kernel
theorem dX7_nextOrder_114 : decode cX7_nextOrder 114 = .ok (.aload_n 0, 1) := by decide +kernel
theorem dX7_nextOrder_115 : decode cX7_nextOrder 115 = .ok (.getfield 47, 3) := by decide +kernel
theorem dX7_nextOrder_118 : decode cX7_nextOrder 118 = .ok (.iload 4, 2) := by decide +kernel
theorem dX7_nextOrder_120 : decode cX7_nextOrder 120 = .ok (.iaload, 1) := by decide +kernel
theorem dX7_nextOrder_121 : decode cX7_nextOrder 121 = .ok (.istore_n 3, 1) := by decide +kernel
theorem dX7_nextOrder_122 : decode cX7_nextOrder 122 = .ok (.aload_n 0, 1) := by decide +kernel
theorem dX7_nextOrder_123 : decode cX7_nextOrder 123 = .ok (.getfield 47, 3) := by decide +kernel
theorem dX7_nextOrder_126 : decode cX7_nextOrder 126 = .ok (.iload 4, 2) := by decide +kernel
theorem dX7_nextOrder_128 : decode cX7_nextOrder 128 = .ok (.aload_n 0, 1) := by decide +kernel
theorem dX7_nextOrder_129 : decode cX7_nextOrder 129 = .ok (.getfield 47, 3) := by decide +kernel
theorem dX7_nextOrder_132 : decode cX7_nextOrder 132 = .ok (.iload 5, 2) := by decide +kernel
theorem dX7_nextOrder_134 : decode cX7_nextOrder 134 = .ok (.iaload, 1) := by decide +kernel
theorem dX7_nextOrder_135 : decode cX7_nextOrder 135 = .ok (.iastore, 1) := by decide +kernel
theorem dX7_nextOrder_136 : decode cX7_nextOrder 136 = .ok (.aload_n 0, 1) := by decide +kernel
theorem dX7_nextOrder_137 : decode cX7_nextOrder 137 = .ok (.getfield 47, 3) := by decide +kernel
theorem dX7_nextOrder_140 : decode cX7_nextOrder 140 = .ok (.iload 5, 2) := by decide +kernel
theorem dX7_nextOrder_142 : decode cX7_nextOrder 142 = .ok (.iload_n 3, 1) := by decide +kernel
theorem dX7_nextOrder_143 : decode cX7_nextOrder 143 = .ok (.iastore, 1) := by decide +kernel
theorem dX7_nextOrder_144 : decode cX7_nextOrder 144 = .ok (.iinc 5 (-1), 3) := by decide +kernel
theorem dX7_nextOrder_147 : decode cX7_nextOrder 147 = .ok (.iinc 4 1, 3) := by decide +kernel
theorem dX7_nextOrder_150 : decode cX7_nextOrder 150 = .ok (.goto (-43), 3) := by decide +kernel
theorem dX7_nextOrder_153 : decode cX7_nextOrder 153 = .ok (.iconst 1, 1) := by decide +kernel
theorem dX7_nextOrder_154 : decode cX7_nextOrder 154 = .ok (.ireturn, 1) := by decide +kernel
theorem dX7_order_0 : decode cX7_order 0 = .ok (.iconst 0, 1) := by decide +kernel
theorem dX7_order_1 : decode cX7_order 1 = .ok (.istore_n 2, 1) := by decide +kernel
theorem dX7_order_2 : decode cX7_order 2 = .ok (.iload_n 2, 1) := by decide +kernel
theorem dX7_order_3 : decode cX7_order 3 = .ok (.iconst 5, 1) := by decide +kernel
theorem dX7_order_4 : decode cX7_order 4 = .ok (.if_icmp .ge 28, 3) := by decide +kernel
theorem dX7_order_7 : decode cX7_order 7 = .ok (.aload_n 0, 1) := by decide +kernel
theorem dX7_order_8 : decode cX7_order 8 = .ok (.getfield 47, 3) := by decide +kernel
theorem dX7_order_11 : decode cX7_order 11 = .ok (.iload_n 2, 1) := by decide +kernel
theorem dX7_order_12 : decode cX7_order 12 = .ok (.iload_n 2, 1) := by decide +kernel
theorem dX7_order_13 : decode cX7_order 13 = .ok (.iastore, 1) := by decide +kernel
theorem dX7_order_14 : decode cX7_order 14 = .ok (.aload_n 0, 1) := by decide +kernel
