theorem dX8_makeParcels_0 : decode cX8_makeParcels 0 = .ok (.aload_n 0, 1) := by decide +kernel
theorem dX8_makeParcels_1 : decode cX8_makeParcels 1 = .ok (.invokevirtual 146, 3) := by decide +kernel
theorem dX8_makeParcels_4 : decode cX8_makeParcels 4 = .ok (.iconst 0, 1) := by decide +kernel
theorem dX8_makeParcels_5 : decode cX8_makeParcels 5 = .ok (.istore_n 1, 1) := by decide +kernel
theorem dX8_makeParcels_6 : decode cX8_makeParcels 6 = .ok (.iload_n 1, 1) := by decide +kernel
theorem dX8_makeParcels_7 : decode cX8_makeParcels 7 = .ok (.aload_n 0, 1) := by decide +kernel
theorem dX8_makeParcels_8 : decode cX8_makeParcels 8 = .ok (.getfield 66, 3) := by decide +kernel
theorem dX8_makeParcels_11 : decode cX8_makeParcels 11 = .ok (.if_icmp .ge 68, 3) := by decide +kernel
theorem dX8_makeParcels_14 : decode cX8_makeParcels 14 = .ok (.aload_n 0, 1) := by decide +kernel
theorem dX8_makeParcels_15 : decode cX8_makeParcels 15 = .ok (.getfield 54, 3) := by decide +kernel
theorem dX8_makeParcels_18 : decode cX8_makeParcels 18 = .ok (.iload_n 1, 1) := by decide +kernel
theorem dX8_makeParcels_19 : decode cX8_makeParcels 19 = .ok (.iconst 0, 1) := by decide +kernel
theorem dX8_makeParcels_20 : decode cX8_makeParcels 20 = .ok (.iastore, 1) := by decide +kernel
theorem dX8_makeParcels_21 : decode cX8_makeParcels 21 = .ok (.iconst 0, 1) := by decide +kernel
theorem dX8_makeParcels_22 : decode cX8_makeParcels 22 = .ok (.istore_n 2, 1) := by decide +kernel
theorem dX8_makeParcels_23 : decode cX8_makeParcels 23 = .ok (.iload_n 2, 1) := by decide +kernel
theorem dX8_makeParcels_24 : decode cX8_makeParcels 24 = .ok (.aload_n 0, 1) := by decide +kernel
theorem dX8_makeParcels_25 : decode cX8_makeParcels 25 = .ok (.getfield 66, 3) := by decide +kernel
theorem dX8_makeParcels_28 : decode cX8_makeParcels 28 = .ok (.if_icmp .ge 45, 3) := by decide +kernel
theorem dX8_makeParcels_31 : decode cX8_makeParcels 31 = .ok (.aload_n 0, 1) := by decide +kernel
theorem dX8_makeParcels_32 : decode cX8_makeParcels 32 = .ok (.getfield 42, 3) := by decide +kernel
theorem dX8_makeParcels_35 : decode cX8_makeParcels 35 = .ok (.iload_n 1, 1) := by decide +kernel
theorem dX8_makeParcels_36 : decode cX8_makeParcels 36 = .ok (.iaload, 1) := by decide +kernel
theorem dX8_makeParcels_37 : decode cX8_makeParcels 37 = .ok (.aload_n 0, 1) := by decide +kernel
theorem dX8_makeParcels_38 : decode cX8_makeParcels 38 = .ok (.getfield 42, 3) := by decide +kernel
theorem dX8_makeParcels_41 : decode cX8_makeParcels 41 = .ok (.iload_n 2, 1) := by decide +kernel
theorem dX8_makeParcels_42 : decode cX8_makeParcels 42 = .ok (.iaload, 1) := by decide +kernel
theorem dX8_makeParcels_43 : decode cX8_makeParcels 43 = .ok (.if_icmp .eq 12, 3) := by decide +kernel
theorem dX8_makeParcels_46 : decode cX8_makeParcels 46 = .ok (.aload_n 0, 1) := by decide +kernel
theorem dX8_makeParcels_47 : decode cX8_makeParcels 47 = .ok (.iload_n 1, 1) := by decide +kernel
theorem dX8_makeParcels_48 : decode cX8_makeParcels 48 = .ok (.iload_n 2, 1) := by decide +kernel
theorem dX8_makeParcels_49 : decode cX8_makeParcels 49 = .ok (.invokevirtual 167, 3) := by decide +kernel
theorem dX8_makeParcels_52 : decode cX8_makeParcels 52 = .ok (.ifCond .eq 15, 3) := by decide +kernel
theorem dX8_makeParcels_55 : decode cX8_makeParcels 55 = .ok (.aload_n 0, 1) := by decide +kernel
theorem dX8_makeParcels_56 : decode cX8_makeParcels 56 = .ok (.getfield 54, 3) := by decide +kernel
theorem dX8_makeParcels_59 : decode cX8_makeParcels 59 = .ok (.iload_n 1, 1) := by decide +kernel
theorem dX8_makeParcels_60 : decode cX8_makeParcels 60 = .ok (.dup2, 1) := by decide +kernel
theorem dX8_makeParcels_61 : decode cX8_makeParcels 61 = .ok (.iaload, 1) := by decide +kernel
theorem dX8_makeParcels_62 : decode cX8_makeParcels 62 = .ok (.iconst 1, 1) := by decide +kernel
theorem dX8_makeParcels_63 : decode cX8_makeParcels 63 = .ok (.iload_n 2, 1) := by decide +kernel
theorem dX8_makeParcels_64 : decode cX8_makeParcels 64 = .ok (.ishl, 1) := by decide +kernel
theorem dX8_makeParcels_65 : decode cX8_makeParcels 65 = .ok (.ior, 1) := by decide +kernel
theorem dX8_makeParcels_66 : decode cX8_makeParcels 66 = .ok (.iastore, 1) := by decide +kernel
theorem dX8_makeParcels_67 : decode cX8_makeParcels 67 = .ok (.iinc 2 1, 3) := by decide +kernel
theorem dX8_makeParcels_70 : decode cX8_makeParcels 70 = .ok (.goto (-47), 3) := by decide +kernel
theorem dX8_makeParcels_73 : decode cX8_makeParcels 73 = .ok (.iinc 1 1, 3) := by decide +kernel
theorem dX8_makeParcels_76 : decode cX8_makeParcels 76 = .ok (.goto (-70), 3) := by decide +kernel
theorem dX8_makeParcels_79 : decode cX8_makeParcels 79 = .ok (.iconst 0, 1) := by decide +kernel
theorem dX8_makeParcels_80 : decode cX8_makeParcels 80 = .ok (.istore_n 1, 1) := by decide +kernel
theorem dX8_makeParcels_81 : decode cX8_makeParcels 81 = .ok (.iload_n 1, 1) := by decide +kernel
theorem dX8_makeParcels_82 : decode cX8_makeParcels 82 = .ok (.aload_n 0, 1) := by decide +kernel
theorem dX8_makeParcels_83 : decode cX8_makeParcels 83 = .ok (.getfield 66, 3) := by decide +kernel
theorem dX8_makeParcels_86 : decode cX8_makeParcels 86 = .ok (.if_icmp .ge 53, 3) := by decide +kernel
theorem dX8_makeParcels_89 : decode cX8_makeParcels 89 = .ok (.iconst 0, 1) := by decide +kernel
theorem dX8_makeParcels_90 : decode cX8_makeParcels 90 = .ok (.istore_n 2, 1) := by decide +kernel
theorem dX8_makeParcels_91 : decode cX8_makeParcels 91 = .ok (.iload_n 2, 1) := by decide +kernel
theorem dX8_makeParcels_92 : decode cX8_makeParcels 92 = .ok (.aload_n 0, 1) := by decide +kernel
theorem dX8_makeParcels_93 : decode cX8_makeParcels 93 = .ok (.getfield 66, 3) := by decide +kernel
theorem dX8_makeParcels_96 : decode cX8_makeParcels 96 = .ok (.if_icmp .ge 37, 3) := by decide +kernel
theorem dX8_makeParcels_99 : decode cX8_makeParcels 99 = .ok (.aload_n 0, 1) := by decide +kernel
theorem dX8_makeParcels_100 : decode cX8_makeParcels 100 = .ok (.getfield 54, 3) := by decide +kernel
theorem dX8_makeParcels_103 : decode cX8_makeParcels 103 = .ok (.iload_n 2, 1) := by decide +kernel
theorem dX8_makeParcels_104 : decode cX8_makeParcels 104 = .ok (.iaload, 1) := by decide +kernel
theorem dX8_makeParcels_105 : decode cX8_makeParcels 105 = .ok (.iload_n 1, 1) := by decide +kernel
theorem dX8_makeParcels_106 : decode cX8_makeParcels 106 = .ok (.invokestatic 170, 3) := by decide +kernel
theorem dX8_makeParcels_109 : decode cX8_makeParcels 109 = .ok (.ifCond .eq 18, 3) := by decide +kernel
theorem dX8_makeParcels_112 : decode cX8_makeParcels 112 = .ok (.aload_n 0, 1) := by decide +kernel
theorem dX8_makeParcels_113 : decode cX8_makeParcels 113 = .ok (.getfield 54, 3) := by decide +kernel
theorem dX8_makeParcels_116 : decode cX8_makeParcels 116 = .ok (.iload_n 2, 1) := by decide +kernel
theorem dX8_makeParcels_117 : decode cX8_makeParcels 117 = .ok (.dup2, 1) := by decide +kernel
theorem dX8_makeParcels_118 : decode cX8_makeParcels 118 = .ok (.iaload, 1) := by decide +kernel
theorem dX8_makeParcels_119 : decode cX8_makeParcels 119 = .ok (.aload_n 0, 1) := by decide +kernel
theorem dX8_makeParcels_120 : decode cX8_makeParcels 120 = .ok (.getfield 54, 3) := by decide +kernel
theorem dX8_makeParcels_123 : decode cX8_makeParcels 123 = .ok (.iload_n 1, 1) := by decide +kernel
theorem dX8_makeParcels_124 : decode cX8_makeParcels 124 = .ok (.iaload, 1) := by decide +kernel
theorem dX8_makeParcels_125 : decode cX8_makeParcels 125 = .ok (.ior, 1) := by decide +kernel
theorem dX8_makeParcels_126 : decode cX8_makeParcels 126 = .ok (.iastore, 1) := by decide +kernel
theorem dX8_makeParcels_127 : decode cX8_makeParcels 127 = .ok (.iinc 2 1, 3) := by decide +kernel
theorem dX8_makeParcels_130 : decode cX8_makeParcels 130 = .ok (.goto (-39), 3) := by decide +kernel
theorem dX8_makeParcels_133 : decode cX8_makeParcels 133 = .ok (.iinc 1 1, 3) := by decide +kernel
theorem dX8_makeParcels_136 : decode cX8_makeParcels 136 = .ok (.goto (-55), 3) := by decide +kernel
theorem dX8_makeParcels_139 : decode cX8_makeParcels 139 = .ok (.iconst 0, 1) := by decide +kernel
theorem dX8_makeParcels_140 : decode cX8_makeParcels 140 = .ok (.istore_n 1, 1) := by decide +kernel
theorem dX8_makeParcels_141 : decode cX8_makeParcels 141 = .ok (.iload_n 1, 1) := by decide +kernel
theorem dX8_makeParcels_142 : decode cX8_makeParcels 142 = .ok (.aload_n 0, 1) := by decide +kernel
theorem dX8_makeParcels_143 : decode cX8_makeParcels 143 = .ok (.getfield 66, 3) := by decide +kernel
theorem dX8_makeParcels_146 : decode cX8_makeParcels 146 = .ok (.if_icmp .ge 61, 3) := by decide +kernel
theorem dX8_makeParcels_149 : decode cX8_makeParcels 149 = .ok (.aload_n 0, 1) := by decide +kernel
theorem dX8_makeParcels_150 : decode cX8_makeParcels 150 = .ok (.getfield 48, 3) := by decide +kernel
theorem dX8_makeParcels_153 : decode cX8_makeParcels 153 = .ok (.iload_n 1, 1) := by decide +kernel
theorem dX8_makeParcels_154 : decode cX8_makeParcels 154 = .ok (.iload_n 1, 1) := by decide +kernel
theorem dX8_makeParcels_155 : decode cX8_makeParcels 155 = .ok (.iastore, 1) := by decide +kernel
theorem dX8_makeParcels_156 : decode cX8_makeParcels 156 = .ok (.iload_n 1, 1) := by decide +kernel
theorem dX8_makeParcels_157 : decode cX8_makeParcels 157 = .ok (.istore_n 2, 1) := by decide +kernel
theorem dX8_makeParcels_158 : decode cX8_makeParcels 158 = .ok (.iload_n 2, 1) := by decide +kernel
theorem dX8_makeParcels_159 : decode cX8_makeParcels 159 = .ok (.ifCond .lt 42, 3) := by decide +kernel
theorem dX8_makeParcels_162 : decode cX8_makeParcels 162 = .ok (.aload_n 0, 1) := by decide +kernel
theorem dX8_makeParcels_163 : decode cX8_makeParcels 163 = .ok (.getfield 54, 3) := by decide +kernel
theorem dX8_makeParcels_166 : decode cX8_makeParcels 166 = .ok (.iload_n 1, 1) := by decide +kernel
theorem dX8_makeParcels_167 : decode cX8_makeParcels 167 = .ok (.iaload, 1) := by decide +kernel
theorem dX8_makeParcels_168 : decode cX8_makeParcels 168 = .ok (.iload_n 2, 1) := by decide +kernel
theorem dX8_makeParcels_169 : decode cX8_makeParcels 169 = .ok (.invokestatic 170, 3) := by decide +kernel
theorem dX8_makeParcels_172 : decode cX8_makeParcels 172 = .ok (.ifCond .eq 23, 3) := by decide +kernel
theorem dX8_makeParcels_175 : decode cX8_makeParcels 175 = .ok (.aload_n 0, 1) := by decide +kernel
theorem dX8_makeParcels_176 : decode cX8_makeParcels 176 = .ok (.getfield 54, 3) := by decide +kernel
theorem dX8_makeParcels_179 : decode cX8_makeParcels 179 = .ok (.iload_n 2, 1) := by decide +kernel
theorem dX8_makeParcels_180 : decode cX8_makeParcels 180 = .ok (.iaload, 1) := by decide +kernel
theorem dX8_makeParcels_181 : decode cX8_makeParcels 181 = .ok (.iload_n 1, 1) := by decide +kernel
theorem dX8_makeParcels_182 : decode cX8_makeParcels 182 = .ok (.invokestatic 170, 3) := by decide +kernel
theorem dX8_makeParcels_185 : decode cX8_makeParcels 185 = .ok (.ifCond .eq 10, 3) := by decide +kernel
theorem dX8_makeParcels_188 : decode cX8_makeParcels 188 = .ok (.aload_n 0, 1) := by decide +kernel
theorem dX8_makeParcels_189 : decode cX8_makeParcels 189 = .ok (.getfield 48, 3) := by decide +kernel
theorem dX8_makeParcels_192 : decode cX8_makeParcels 192 = .ok (.iload_n 1, 1) := by decide +kernel
theorem dX8_makeParcels_193 : decode cX8_makeParcels 193 = .ok (.iload_n 2, 1) := by decide +kernel
theorem dX8_makeParcels_194 : decode cX8_makeParcels 194 = .ok (.iastore, 1) := by decide +kernel
theorem dX8_makeParcels_195 : decode cX8_makeParcels 195 = .ok (.iinc 2 (-1), 3) := by decide +kernel
theorem dX8_makeParcels_198 : decode cX8_makeParcels 198 = .ok (.goto (-40), 3) := by decide +kernel
theorem dX8_makeParcels_201 : decode cX8_makeParcels 201 = .ok (.iinc 1 1, 3) := by decide +kernel
theorem dX8_makeParcels_204 : decode cX8_makeParcels 204 = .ok (.goto (-63), 3) := by decide +kernel
theorem dX8_makeParcels_207 : decode cX8_makeParcels 207 = .ok (.aload_n 0, 1) := by decide +kernel
theorem dX8_makeParcels_208 : decode cX8_makeParcels 208 = .ok (.iconst 0, 1) := by decide +kernel
theorem dX8_makeParcels_209 : decode cX8_makeParcels 209 = .ok (.putfield 173, 3) := by decide +kernel
theorem dX8_makeParcels_212 : decode cX8_makeParcels 212 = .ok (.iconst 0, 1) := by decide +kernel
theorem dX8_makeParcels_213 : decode cX8_makeParcels 213 = .ok (.istore_n 1, 1) := by decide +kernel
theorem dX8_makeParcels_214 : decode cX8_makeParcels 214 = .ok (.iconst 1, 1) := by decide +kernel
theorem dX8_makeParcels_215 : decode cX8_makeParcels 215 = .ok (.aload_n 0, 1) := by decide +kernel
theorem dX8_makeParcels_216 : decode cX8_makeParcels 216 = .ok (.getfield 66, 3) := by decide +kernel
theorem dX8_makeParcels_219 : decode cX8_makeParcels 219 = .ok (.ishl, 1) := by decide +kernel
theorem dX8_makeParcels_220 : decode cX8_makeParcels 220 = .ok (.iconst 1, 1) := by decide +kernel
theorem dX8_makeParcels_221 : decode cX8_makeParcels 221 = .ok (.isub, 1) := by decide +kernel
theorem dX8_makeParcels_222 : decode cX8_makeParcels 222 = .ok (.istore_n 2, 1) := by decide +kernel
theorem dX8_makeParcels_223 : decode cX8_makeParcels 223 = .ok (.iload_n 1, 1) := by decide +kernel
theorem dX8_makeParcels_224 : decode cX8_makeParcels 224 = .ok (.iload_n 2, 1) := by decide +kernel
theorem dX8_makeParcels_225 : decode cX8_makeParcels 225 = .ok (.if_icmp .eq 94, 3) := by decide +kernel
theorem dX8_makeParcels_228 : decode cX8_makeParcels 228 = .ok (.iconst 0, 1) := by decide +kernel
theorem dX8_makeParcels_229 : decode cX8_makeParcels 229 = .ok (.istore_n 3, 1) := by decide +kernel
theorem dX8_makeParcels_230 : decode cX8_makeParcels 230 = .ok (.iload_n 1, 1) := by decide +kernel
theorem dX8_makeParcels_231 : decode cX8_makeParcels 231 = .ok (.iload_n 3, 1) := by decide +kernel
theorem dX8_makeParcels_232 : decode cX8_makeParcels 232 = .ok (.invokestatic 170, 3) := by decide +kernel
theorem dX8_makeParcels_235 : decode cX8_makeParcels 235 = .ok (.ifCond .ne 33, 3) := by decide +kernel
theorem dX8_makeParcels_238 : decode cX8_makeParcels 238 = .ok (.aload_n 0, 1) := by decide +kernel
theorem dX8_makeParcels_239 : decode cX8_makeParcels 239 = .ok (.getfield 54, 3) := by decide +kernel
theorem dX8_makeParcels_242 : decode cX8_makeParcels 242 = .ok (.iload_n 3, 1) := by decide +kernel
theorem dX8_makeParcels_243 : decode cX8_makeParcels 243 = .ok (.iaload, 1) := by decide +kernel
theorem dX8_makeParcels_244 : decode cX8_makeParcels 244 = .ok (.iload_n 1, 1) := by decide +kernel
theorem dX8_makeParcels_245 : decode cX8_makeParcels 245 = .ok (.iconst (-1), 1) := by decide +kernel
theorem dX8_makeParcels_246 : decode cX8_makeParcels 246 = .ok (.ixor, 1) := by decide +kernel
theorem dX8_makeParcels_247 : decode cX8_makeParcels 247 = .ok (.iand, 1) := by decide +kernel
theorem dX8_makeParcels_248 : decode cX8_makeParcels 248 = .ok (.aload_n 0, 1) := by decide +kernel
theorem dX8_makeParcels_249 : decode cX8_makeParcels 249 = .ok (.aload_n 0, 1) := by decide +kernel
theorem dX8_makeParcels_250 : decode cX8_makeParcels 250 = .ok (.getfield 48, 3) := by decide +kernel
theorem dX8_makeParcels_253 : decode cX8_makeParcels 253 = .ok (.aload_n 0, 1) := by decide +kernel
theorem dX8_makeParcels_254 : decode cX8_makeParcels 254 = .ok (.getfield 48, 3) := by decide +kernel
theorem dX8_makeParcels_257 : decode cX8_makeParcels 257 = .ok (.iload_n 3, 1) := by decide +kernel
theorem dX8_makeParcels_258 : decode cX8_makeParcels 258 = .ok (.iaload, 1) := by decide +kernel
theorem dX8_makeParcels_259 : decode cX8_makeParcels 259 = .ok (.invokevirtual 157, 3) := by decide +kernel
theorem dX8_makeParcels_262 : decode cX8_makeParcels 262 = .ok (.iconst (-1), 1) := by decide +kernel
theorem dX8_makeParcels_263 : decode cX8_makeParcels 263 = .ok (.ixor, 1) := by decide +kernel
theorem dX8_makeParcels_264 : decode cX8_makeParcels 264 = .ok (.iand, 1) := by decide +kernel
theorem dX8_makeParcels_265 : decode cX8_makeParcels 265 = .ok (.ifCond .eq 9, 3) := by decide +kernel
theorem dX8_makeParcels_268 : decode cX8_makeParcels 268 = .ok (.iinc 3 1, 3) := by decide +kernel
theorem dX8_makeParcels_271 : decode cX8_makeParcels 271 = .ok (.goto (-41), 3) := by decide +kernel
theorem dX8_makeParcels_274 : decode cX8_makeParcels 274 = .ok (.aload_n 0, 1) := by decide +kernel
theorem dX8_makeParcels_275 : decode cX8_makeParcels 275 = .ok (.getfield 51, 3) := by decide +kernel
theorem dX8_makeParcels_278 : decode cX8_makeParcels 278 = .ok (.aload_n 0, 1) := by decide +kernel
theorem dX8_makeParcels_279 : decode cX8_makeParcels 279 = .ok (.getfield 173, 3) := by decide +kernel
theorem dX8_makeParcels_282 : decode cX8_makeParcels 282 = .ok (.aload_n 0, 1) := by decide +kernel
theorem dX8_makeParcels_283 : decode cX8_makeParcels 283 = .ok (.getfield 48, 3) := by decide +kernel
theorem dX8_makeParcels_286 : decode cX8_makeParcels 286 = .ok (.iload_n 3, 1) := by decide +kernel
theorem dX8_makeParcels_287 : decode cX8_makeParcels 287 = .ok (.iaload, 1) := by decide +kernel
theorem dX8_makeParcels_288 : decode cX8_makeParcels 288 = .ok (.iastore, 1) := by decide +kernel
theorem dX8_makeParcels_289 : decode cX8_makeParcels 289 = .ok (.aload_n 0, 1) := by decide +kernel
theorem dX8_makeParcels_290 : decode cX8_makeParcels 290 = .ok (.dup, 1) := by decide +kernel
theorem dX8_makeParcels_291 : decode cX8_makeParcels 291 = .ok (.getfield 173, 3) := by decide +kernel
theorem dX8_makeParcels_294 : decode cX8_makeParcels 294 = .ok (.iconst 1, 1) := by decide +kernel
theorem dX8_makeParcels_295 : decode cX8_makeParcels 295 = .ok (.iadd, 1) := by decide +kernel
theorem dX8_makeParcels_296 : decode cX8_makeParcels 296 = .ok (.putfield 173, 3) := by decide +kernel
theorem dX8_makeParcels_299 : decode cX8_makeParcels 299 = .ok (.iload_n 1, 1) := by decide +kernel
theorem dX8_makeParcels_300 : decode cX8_makeParcels 300 = .ok (.aload_n 0, 1) := by decide +kernel
theorem dX8_makeParcels_301 : decode cX8_makeParcels 301 = .ok (.aload_n 0, 1) := by decide +kernel
theorem dX8_makeParcels_302 : decode cX8_makeParcels 302 = .ok (.getfield 48, 3) := by decide +kernel
theorem dX8_makeParcels_305 : decode cX8_makeParcels 305 = .ok (.aload_n 0, 1) := by decide +kernel
theorem dX8_makeParcels_306 : decode cX8_makeParcels 306 = .ok (.getfield 48, 3) := by decide +kernel
theorem dX8_makeParcels_309 : decode cX8_makeParcels 309 = .ok (.iload_n 3, 1) := by decide +kernel
theorem dX8_makeParcels_310 : decode cX8_makeParcels 310 = .ok (.iaload, 1) := by decide +kernel
theorem dX8_makeParcels_311 : decode cX8_makeParcels 311 = .ok (.invokevirtual 157, 3) := by decide +kernel
theorem dX8_makeParcels_314 : decode cX8_makeParcels 314 = .ok (.ior, 1) := by decide +kernel
theorem dX8_makeParcels_315 : decode cX8_makeParcels 315 = .ok (.istore_n 1, 1) := by decide +kernel
theorem dX8_makeParcels_316 : decode cX8_makeParcels 316 = .ok (.goto (-93), 3) := by decide +kernel
theorem dX8_makeParcels_319 : decode cX8_makeParcels 319 = .ok (.return_, 1) := by decide +kernel
set_option maxHeartbeats 4000000 in
set_option maxRecDepth 100000 in
theorem mX8_makeParcels_L2 {p : Program} {l : Launch} {e : Env} {R : Room} {s : State} {m : MethodId} {args : Array Value} {below : List Frame} {meth : Method} {c : Code} {Q : State → Prop} {D : va_G} {U : zz_U} {A : Nat → Prop} {cells slots : Nat} {ad : Nat → Nat} {X : va_W} {ρ : zz_St} (C : zz_C p l R s m meth c D U A RX8 cX8_makeParcels 4 none [] 5) (hcR : cells ≤ R.cells) (hsR : slots ≤ R.slots) (a_ : Int32) : ∀ (n : Nat) (b_ : Int32) (σ : zz_St) (q : (Int32 × zz_St)), fX8_makeParcels_L2 a_ n b_ σ = some q → (zz_Z p l e R s m args below meth c Q D A 4 cells slots (zz_wm U ad ρ q.2 X) 73 [(0, .ref (ad 47)), (1, .int a_), (2, .int q.1)] []) → zz_Z p l e R s m args below meth c Q D A 4 cells slots (zz_wm U ad ρ σ X) 23 [(0, .ref (ad 47)), (1, .int a_), (2, .int b_)] [] := by
  intro n
  induction n with
  | zero => intro b_ σ q hf; rw [fX8_makeParcels_L2] at hf; cases hf
  | succ n ih =>
    intro b_ σ q hf kx
    rw [fX8_makeParcels_L2] at hf
    refine zz_iload_n C 2 dX8_makeParcels_23 rfl rfl ?_
    refine zz_aload_n C 0 dX8_makeParcels_24 rfl rfl ?_
    refine zf8_pieces C dX8_makeParcels_25 zw_148 ?_
    refine zz_icmp_ge (tgt := 73) C dX8_makeParcels_28 (by decide) (fun g6 => ?_) (fun g6 => ?_)
    · rw [if_pos g6] at hf
      cases hf
      exact kx
    · rw [if_neg g6] at hf
      obtain ⟨x7, h8, hf⟩ := zz_bind hf
      refine zz_cut 67 [(0, .ref (ad 47)), (1, .int a_), (2, .int b_)] [] (zz_wm U ad ρ x7 X) ?_ (fun J9 => ?_)
      · refine zz_iinc (v := (b_ + (1 : Int32))) C 2 dX8_makeParcels_67 rfl (by rfl) (by decide) (lv' := [(2, .int (b_ + (1 : Int32))), (0, .ref (ad 47)), (1, .int a_)]) rfl ?_
        refine zz_goto (tgt := 23) C dX8_makeParcels_70 (by decide) ?_
        refine zz_sub [1, 2, 0] rfl ?_
        exact ih (b_ + (1 : Int32)) x7 _ hf kx
      obtain ⟨b10, h11, h8⟩ := zz_bind h8
      refine zz_cutI (P := b10 = true) 55 [(0, .ref (ad 47)), (1, .int a_), (2, .int b_)] [] (zz_wm U ad ρ σ X) (fun g14 => ?_) (fun J12 => ?_)
      · rw [if_pos g14] at h8
        refine zz_aload_n C 0 dX8_makeParcels_55 rfl rfl ?_
        refine zf8_far C dX8_makeParcels_56 zw_188 ?_
        refine zz_iload_n C 1 dX8_makeParcels_59 rfl rfl ?_
        refine zz_dup2_11 C dX8_makeParcels_60 rfl rfl ?_
        obtain ⟨x23, h24, h8⟩ := zz_bind h8
        refine zl_59 C dX8_makeParcels_61 h24 ?_
        refine zz_iconst (v := (1 : Int32)) C dX8_makeParcels_62 (by decide) ?_
        refine zz_iload_n C 2 dX8_makeParcels_63 rfl rfl ?_
        refine zz_ishl C dX8_makeParcels_64 ?_
        refine zz_ior C dX8_makeParcels_65 ?_
        obtain ⟨σ25, h26, h8⟩ := zz_bind h8
        refine zs_59 C dX8_makeParcels_66 h26 ?_
        cases h8
        exact J9
      refine zz_cutI (P := b10 = false) 67 [(0, .ref (ad 47)), (1, .int a_), (2, .int b_)] [] (zz_wm U ad ρ σ X) (fun g14 => ?_) (fun J13 => ?_)
      · rw [if_neg (show ¬ b10 = true by rw [g14]; decide)] at h8
        cases h8
        exact J9
      refine zz_aload_n C 0 dX8_makeParcels_31 rfl rfl ?_
      refine zf8_heads C dX8_makeParcels_32 zw_170 ?_
      refine zz_iload_n C 1 dX8_makeParcels_35 rfl rfl ?_
      obtain ⟨x15, h16, h11⟩ := zz_bind h11
      refine zl_55 C dX8_makeParcels_36 h16 ?_
      refine zz_aload_n C 0 dX8_makeParcels_37 rfl rfl ?_
      refine zf8_heads C dX8_makeParcels_38 zw_170 ?_
      refine zz_iload_n C 2 dX8_makeParcels_41 rfl rfl ?_
      obtain ⟨x17, h18, h11⟩ := zz_bind h11
      refine zl_55 C dX8_makeParcels_42 h18 ?_
      refine zz_icmp_eq (tgt := 55) C dX8_makeParcels_43 (by decide) (fun g19 => ?_) (fun g19 => ?_)
      · rw [if_pos g19] at h11
        cases h11
        exact J12 rfl
      · rw [if_neg g19] at h11
        refine zz_aload_n C 0 dX8_makeParcels_46 rfl rfl ?_
        refine zz_iload_n C 1 dX8_makeParcels_47 rfl rfl ?_
        refine zz_iload_n C 2 dX8_makeParcels_48 rfl rfl ?_
        obtain ⟨x20, h21, h11⟩ := zz_bind h11
        refine zz_callV1 (As := [.int a_, .int b_]) (rest := []) C 47 (mX8_needsOf σ a_ b_ x20 h21) dX8_makeParcels_49 rfl rfl rfl zw_187 zy_X8_needsOf rfl (by decide) (by decide) (Nat.le_of_ble_eq_true rfl) hcR hsR rfl ?_
        refine zz_if_eq (tgt := 67) C dX8_makeParcels_52 (by decide) (fun g22 => ?_) (fun g22 => ?_)
        · rw [if_pos g22] at h11
          cases h11
          exact J13 rfl
        · rw [if_neg g22] at h11
          cases h11
          exact J12 rfl
set_option maxHeartbeats 4000000 in
set_option maxRecDepth 100000 in
theorem mX8_makeParcels_L1 {p : Program} {l : Launch} {e : Env} {R : Room} {s : State} {m : MethodId} {args : Array Value} {below : List Frame} {meth : Method} {c : Code} {Q : State → Prop} {D : va_G} {U : zz_U} {A : Nat → Prop} {cells slots : Nat} {ad : Nat → Nat} {X : va_W} {ρ : zz_St} (C : zz_C p l R s m meth c D U A RX8 cX8_makeParcels 4 none [] 5) (hcR : cells ≤ R.cells) (hsR : slots ≤ R.slots) : ∀ (n : Nat) (a_ : Int32) (σ : zz_St) (q : (Int32 × zz_St)), fX8_makeParcels_L1 n a_ σ = some q → (zz_Z p l e R s m args below meth c Q D A 4 cells slots (zz_wm U ad ρ q.2 X) 79 [(0, .ref (ad 47)), (1, .int q.1)] []) → zz_Z p l e R s m args below meth c Q D A 4 cells slots (zz_wm U ad ρ σ X) 6 [(0, .ref (ad 47)), (1, .int a_)] [] := by
  intro n
  induction n with
  | zero => intro a_ σ q hf; rw [fX8_makeParcels_L1] at hf; cases hf
  | succ n ih =>
    intro a_ σ q hf kx
    rw [fX8_makeParcels_L1] at hf
    refine zz_iload_n C 1 dX8_makeParcels_6 rfl rfl ?_
    refine zz_aload_n C 0 dX8_makeParcels_7 rfl rfl ?_
    refine zf8_pieces C dX8_makeParcels_8 zw_148 ?_
    refine zz_icmp_ge (tgt := 79) C dX8_makeParcels_11 (by decide) (fun g3 => ?_) (fun g3 => ?_)
    · rw [if_pos g3] at hf
      cases hf
      exact kx
    · rw [if_neg g3] at hf
      refine zz_aload_n C 0 dX8_makeParcels_14 rfl rfl ?_
      refine zf8_far C dX8_makeParcels_15 zw_188 ?_
      refine zz_iload_n C 1 dX8_makeParcels_18 rfl rfl ?_
      refine zz_iconst (v := (0 : Int32)) C dX8_makeParcels_19 (by decide) ?_
      obtain ⟨σ4, h5, hf⟩ := zz_bind hf
      refine zs_59 C dX8_makeParcels_20 h5 ?_
      refine zz_iconst (v := (0 : Int32)) C dX8_makeParcels_21 (by decide) ?_
      refine zz_istore_n C dX8_makeParcels_22 rfl (by decide) (lv' := [(2, .int (0 : Int32)), (0, .ref (ad 47)), (1, .int a_)]) rfl ?_
      obtain ⟨q27, h28, hf⟩ := zz_bind hf
      refine zz_sub [1, 2, 0] rfl ?_
      refine mX8_makeParcels_L2 C hcR hsR a_ 1000 (0 : Int32) σ4 q27 h28 ?_
      refine zz_iinc (v := (a_ + (1 : Int32))) C 1 dX8_makeParcels_73 rfl (by rfl) (by decide) (lv' := [(1, .int (a_ + (1 : Int32))), (0, .ref (ad 47)), (2, .int q27.1)]) rfl ?_
      refine zz_goto (tgt := 6) C dX8_makeParcels_76 (by decide) ?_
      refine zz_sub [1, 0] rfl ?_
      exact ih (a_ + (1 : Int32)) q27.2 _ hf kx
set_option maxHeartbeats 4000000 in
set_option maxRecDepth 100000 in
theorem mX8_makeParcels_L4 {p : Program} {l : Launch} {e : Env} {R : Room} {s : State} {m : MethodId} {args : Array Value} {below : List Frame} {meth : Method} {c : Code} {Q : State → Prop} {D : va_G} {U : zz_U} {A : Nat → Prop} {cells slots : Nat} {ad : Nat → Nat} {X : va_W} {ρ : zz_St} (C : zz_C p l R s m meth c D U A RX8 cX8_makeParcels 4 none [] 5) (hcR : cells ≤ R.cells) (hsR : slots ≤ R.slots) (by_ : Int32) : ∀ (n : Nat) (a_ : Int32) (σ : zz_St) (q : (Int32 × zz_St)), fX8_makeParcels_L4 by_ n a_ σ = some q → (zz_Z p l e R s m args below meth c Q D A 4 cells slots (zz_wm U ad ρ q.2 X) 133 [(0, .ref (ad 47)), (1, .int by_), (2, .int q.1)] []) → zz_Z p l e R s m args below meth c Q D A 4 cells slots (zz_wm U ad ρ σ X) 91 [(0, .ref (ad 47)), (1, .int by_), (2, .int a_)] [] := by
  intro n
  induction n with
  | zero => intro a_ σ q hf; rw [fX8_makeParcels_L4] at hf; cases hf
  | succ n ih =>
    intro a_ σ q hf kx
    rw [fX8_makeParcels_L4] at hf
    refine zz_iload_n C 2 dX8_makeParcels_91 rfl rfl ?_
    refine zz_aload_n C 0 dX8_makeParcels_92 rfl rfl ?_
    refine zf8_pieces C dX8_makeParcels_93 zw_148 ?_
    refine zz_icmp_ge (tgt := 133) C dX8_makeParcels_96 (by decide) (fun g32 => ?_) (fun g32 => ?_)
    · rw [if_pos g32] at hf
      cases hf
      exact kx
    · rw [if_neg g32] at hf
      obtain ⟨x33, h34, hf⟩ := zz_bind hf
      refine zz_cut 127 [(0, .ref (ad 47)), (1, .int by_), (2, .int a_)] [] (zz_wm U ad ρ x33 X) ?_ (fun J35 => ?_)
      · refine zz_iinc (v := (a_ + (1 : Int32))) C 2 dX8_makeParcels_127 rfl (by rfl) (by decide) (lv' := [(2, .int (a_ + (1 : Int32))), (0, .ref (ad 47)), (1, .int by_)]) rfl ?_
        refine zz_goto (tgt := 91) C dX8_makeParcels_130 (by decide) ?_
        refine zz_sub [1, 2, 0] rfl ?_
        exact ih (a_ + (1 : Int32)) x33 _ hf kx
      refine zz_aload_n C 0 dX8_makeParcels_99 rfl rfl ?_
      refine zf8_far C dX8_makeParcels_100 zw_188 ?_
      refine zz_iload_n C 2 dX8_makeParcels_103 rfl rfl ?_
      obtain ⟨x36, h37, h34⟩ := zz_bind h34
      refine zl_59 C dX8_makeParcels_104 h37 ?_
      refine zz_iload_n C 1 dX8_makeParcels_105 rfl rfl ?_
      obtain ⟨x38, h39, h34⟩ := zz_bind h34
      refine zz_callS1 (As := [.int x36, .int by_]) (rest := []) C (mX8_has σ x36 by_ x38 h39) dX8_makeParcels_106 rfl zw_189 zy_X8_has rfl (by decide) (by decide) (Nat.le_of_ble_eq_true rfl) hcR hsR rfl ?_
      refine zz_if_eq (tgt := 127) C dX8_makeParcels_109 (by decide) (fun g40 => ?_) (fun g40 => ?_)
      · rw [if_pos g40] at h34
        cases h34
        exact J35
      · rw [if_neg g40] at h34
        refine zz_aload_n C 0 dX8_makeParcels_112 rfl rfl ?_
        refine zf8_far C dX8_makeParcels_113 zw_188 ?_
        refine zz_iload_n C 2 dX8_makeParcels_116 rfl rfl ?_
        refine zz_dup2_11 C dX8_makeParcels_117 rfl rfl ?_
        obtain ⟨x41, h42, h34⟩ := zz_bind h34
        refine zl_59 C dX8_makeParcels_118 h42 ?_
        refine zz_aload_n C 0 dX8_makeParcels_119 rfl rfl ?_
        refine zf8_far C dX8_makeParcels_120 zw_188 ?_
        refine zz_iload_n C 1 dX8_makeParcels_123 rfl rfl ?_
        obtain ⟨x43, h44, h34⟩ := zz_bind h34
        refine zl_59 C dX8_makeParcels_124 h44 ?_
        refine zz_ior C dX8_makeParcels_125 ?_
        obtain ⟨σ45, h46, h34⟩ := zz_bind h34
        refine zs_59 C dX8_makeParcels_126 h46 ?_
        cases h34
        exact J35
set_option maxHeartbeats 4000000 in
set_option maxRecDepth 100000 in
theorem mX8_makeParcels_L3 {p : Program} {l : Launch} {e : Env} {R : Room} {s : State} {m : MethodId} {args : Array Value} {below : List Frame} {meth : Method} {c : Code} {Q : State → Prop} {D : va_G} {U : zz_U} {A : Nat → Prop} {cells slots : Nat} {ad : Nat → Nat} {X : va_W} {ρ : zz_St} (C : zz_C p l R s m meth c D U A RX8 cX8_makeParcels 4 none [] 5) (hcR : cells ≤ R.cells) (hsR : slots ≤ R.slots) : ∀ (n : Nat) (by_ : Int32) (σ : zz_St) (q : (Int32 × zz_St)), fX8_makeParcels_L3 n by_ σ = some q → (zz_Z p l e R s m args below meth c Q D A 4 cells slots (zz_wm U ad ρ q.2 X) 139 [(0, .ref (ad 47)), (1, .int q.1)] []) → zz_Z p l e R s m args below meth c Q D A 4 cells slots (zz_wm U ad ρ σ X) 81 [(0, .ref (ad 47)), (1, .int by_)] [] := by
  intro n
  induction n with
  | zero => intro by_ σ q hf; rw [fX8_makeParcels_L3] at hf; cases hf
  | succ n ih =>
    intro by_ σ q hf kx
    rw [fX8_makeParcels_L3] at hf
    refine zz_iload_n C 1 dX8_makeParcels_81 rfl rfl ?_
    refine zz_aload_n C 0 dX8_makeParcels_82 rfl rfl ?_
    refine zf8_pieces C dX8_makeParcels_83 zw_148 ?_
    refine zz_icmp_ge (tgt := 139) C dX8_makeParcels_86 (by decide) (fun g31 => ?_) (fun g31 => ?_)
    · rw [if_pos g31] at hf
      cases hf
      exact kx
    · rw [if_neg g31] at hf
      refine zz_iconst (v := (0 : Int32)) C dX8_makeParcels_89 (by decide) ?_
      refine zz_istore_n C dX8_makeParcels_90 rfl (by decide) (lv' := [(2, .int (0 : Int32)), (0, .ref (ad 47)), (1, .int by_)]) rfl ?_
      obtain ⟨q47, h48, hf⟩ := zz_bind hf
      refine zz_sub [1, 2, 0] rfl ?_
      refine mX8_makeParcels_L4 C hcR hsR by_ 1000 (0 : Int32) σ q47 h48 ?_
      refine zz_iinc (v := (by_ + (1 : Int32))) C 1 dX8_makeParcels_133 rfl (by rfl) (by decide) (lv' := [(1, .int (by_ + (1 : Int32))), (0, .ref (ad 47)), (2, .int q47.1)]) rfl ?_
      refine zz_goto (tgt := 81) C dX8_makeParcels_136 (by decide) ?_
      refine zz_sub [1, 0] rfl ?_
      exact ih (by_ + (1 : Int32)) q47.2 _ hf kx
set_option maxHeartbeats 4000000 in
set_option maxRecDepth 100000 in
theorem mX8_makeParcels_L6 {p : Program} {l : Launch} {e : Env} {R : Room} {s : State} {m : MethodId} {args : Array Value} {below : List Frame} {meth : Method} {c : Code} {Q : State → Prop} {D : va_G} {U : zz_U} {A : Nat → Prop} {cells slots : Nat} {ad : Nat → Nat} {X : va_W} {ρ : zz_St} (C : zz_C p l R s m meth c D U A RX8 cX8_makeParcels 4 none [] 5) (hcR : cells ≤ R.cells) (hsR : slots ≤ R.slots) (a_ : Int32) : ∀ (n : Nat) (b_ : Int32) (σ : zz_St) (q : (Int32 × zz_St)), fX8_makeParcels_L6 a_ n b_ σ = some q → (zz_Z p l e R s m args below meth c Q D A 4 cells slots (zz_wm U ad ρ q.2 X) 201 [(0, .ref (ad 47)), (1, .int a_), (2, .int q.1)] []) → zz_Z p l e R s m args below meth c Q D A 4 cells slots (zz_wm U ad ρ σ X) 158 [(0, .ref (ad 47)), (1, .int a_), (2, .int b_)] [] := by
  intro n
  induction n with
  | zero => intro b_ σ q hf; rw [fX8_makeParcels_L6] at hf; cases hf
  | succ n ih =>
    intro b_ σ q hf kx
    rw [fX8_makeParcels_L6] at hf
    refine zz_iload_n C 2 dX8_makeParcels_158 rfl rfl ?_
    refine zz_if_lt (tgt := 201) C dX8_makeParcels_159 (by decide) (fun g54 => ?_) (fun g54 => ?_)
    · rw [if_pos g54] at hf
      cases hf
      exact kx
    · rw [if_neg g54] at hf
      obtain ⟨x55, h56, hf⟩ := zz_bind hf
      refine zz_cut 195 [(0, .ref (ad 47)), (1, .int a_), (2, .int b_)] [] (zz_wm U ad ρ x55 X) ?_ (fun J57 => ?_)
      · refine zz_iinc (v := (b_ + (-1 : Int32))) C 2 dX8_makeParcels_195 rfl (by rfl) (by decide) (lv' := [(2, .int (b_ + (-1 : Int32))), (0, .ref (ad 47)), (1, .int a_)]) rfl ?_
        refine zz_goto (tgt := 158) C dX8_makeParcels_198 (by decide) ?_
        refine zz_sub [1, 2, 0] rfl ?_
        exact ih (b_ + (-1 : Int32)) x55 _ hf kx
      obtain ⟨b58, h59, h56⟩ := zz_bind h56
      refine zz_cutI (P := b58 = true) 188 [(0, .ref (ad 47)), (1, .int a_), (2, .int b_)] [] (zz_wm U ad ρ σ X) (fun g62 => ?_) (fun J60 => ?_)
      · rw [if_pos g62] at h56
        refine zz_aload_n C 0 dX8_makeParcels_188 rfl rfl ?_
        refine zf8_bundles C dX8_makeParcels_189 zw_190 ?_
        refine zz_iload_n C 1 dX8_makeParcels_192 rfl rfl ?_
        refine zz_iload_n C 2 dX8_makeParcels_193 rfl rfl ?_
        obtain ⟨σ73, h74, h56⟩ := zz_bind h56
        refine zs_57 C dX8_makeParcels_194 h74 ?_
        cases h56
        exact J57
      refine zz_cutI (P := b58 = false) 195 [(0, .ref (ad 47)), (1, .int a_), (2, .int b_)] [] (zz_wm U ad ρ σ X) (fun g62 => ?_) (fun J61 => ?_)
      · rw [if_neg (show ¬ b58 = true by rw [g62]; decide)] at h56
        cases h56
        exact J57
      refine zz_aload_n C 0 dX8_makeParcels_162 rfl rfl ?_
      refine zf8_far C dX8_makeParcels_163 zw_188 ?_
      refine zz_iload_n C 1 dX8_makeParcels_166 rfl rfl ?_
      obtain ⟨x63, h64, h59⟩ := zz_bind h59
      refine zl_59 C dX8_makeParcels_167 h64 ?_
      refine zz_iload_n C 2 dX8_makeParcels_168 rfl rfl ?_
      obtain ⟨x65, h66, h59⟩ := zz_bind h59
      refine zz_callS1 (As := [.int x63, .int b_]) (rest := []) C (mX8_has σ x63 b_ x65 h66) dX8_makeParcels_169 rfl zw_189 zy_X8_has rfl (by decide) (by decide) (Nat.le_of_ble_eq_true rfl) hcR hsR rfl ?_
      refine zz_if_eq (tgt := 195) C dX8_makeParcels_172 (by decide) (fun g67 => ?_) (fun g67 => ?_)
      · rw [if_pos g67] at h59
        cases h59
        exact J61 rfl
      · rw [if_neg g67] at h59
        refine zz_aload_n C 0 dX8_makeParcels_175 rfl rfl ?_
        refine zf8_far C dX8_makeParcels_176 zw_188 ?_
        refine zz_iload_n C 2 dX8_makeParcels_179 rfl rfl ?_
        obtain ⟨x68, h69, h59⟩ := zz_bind h59
        refine zl_59 C dX8_makeParcels_180 h69 ?_
        refine zz_iload_n C 1 dX8_makeParcels_181 rfl rfl ?_
        obtain ⟨x70, h71, h59⟩ := zz_bind h59
        refine zz_callS1 (As := [.int x68, .int a_]) (rest := []) C (mX8_has σ x68 a_ x70 h71) dX8_makeParcels_182 rfl zw_189 zy_X8_has rfl (by decide) (by decide) (Nat.le_of_ble_eq_true rfl) hcR hsR rfl ?_
        refine zz_if_eq (tgt := 195) C dX8_makeParcels_185 (by decide) (fun g72 => ?_) (fun g72 => ?_)
        · rw [if_pos g72] at h59
          cases h59
          exact J61 rfl
        · rw [if_neg g72] at h59
          cases h59
          exact J60 rfl
set_option maxHeartbeats 4000000 in
set_option maxRecDepth 100000 in
theorem mX8_makeParcels_L5 {p : Program} {l : Launch} {e : Env} {R : Room} {s : State} {m : MethodId} {args : Array Value} {below : List Frame} {meth : Method} {c : Code} {Q : State → Prop} {D : va_G} {U : zz_U} {A : Nat → Prop} {cells slots : Nat} {ad : Nat → Nat} {X : va_W} {ρ : zz_St} (C : zz_C p l R s m meth c D U A RX8 cX8_makeParcels 4 none [] 5) (hcR : cells ≤ R.cells) (hsR : slots ≤ R.slots) : ∀ (n : Nat) (a_ : Int32) (σ : zz_St) (q : (Int32 × zz_St)), fX8_makeParcels_L5 n a_ σ = some q → (zz_Z p l e R s m args below meth c Q D A 4 cells slots (zz_wm U ad ρ q.2 X) 207 [(0, .ref (ad 47)), (1, .int q.1)] []) → zz_Z p l e R s m args below meth c Q D A 4 cells slots (zz_wm U ad ρ σ X) 141 [(0, .ref (ad 47)), (1, .int a_)] [] := by
  intro n
  induction n with
  | zero => intro a_ σ q hf; rw [fX8_makeParcels_L5] at hf; cases hf
  | succ n ih =>
    intro a_ σ q hf kx
    rw [fX8_makeParcels_L5] at hf
    refine zz_iload_n C 1 dX8_makeParcels_141 rfl rfl ?_
    refine zz_aload_n C 0 dX8_makeParcels_142 rfl rfl ?_
    refine zf8_pieces C dX8_makeParcels_143 zw_148 ?_
    refine zz_icmp_ge (tgt := 207) C dX8_makeParcels_146 (by decide) (fun g51 => ?_) (fun g51 => ?_)
    · rw [if_pos g51] at hf
      cases hf
      exact kx
    · rw [if_neg g51] at hf
      refine zz_aload_n C 0 dX8_makeParcels_149 rfl rfl ?_
      refine zf8_bundles C dX8_makeParcels_150 zw_190 ?_
      refine zz_iload_n C 1 dX8_makeParcels_153 rfl rfl ?_
      refine zz_iload_n C 1 dX8_makeParcels_154 rfl rfl ?_
      obtain ⟨σ52, h53, hf⟩ := zz_bind hf
      refine zs_57 C dX8_makeParcels_155 h53 ?_
      refine zz_iload_n C 1 dX8_makeParcels_156 rfl rfl ?_
      refine zz_istore_n C dX8_makeParcels_157 rfl (by decide) (lv' := [(2, .int a_), (0, .ref (ad 47)), (1, .int a_)]) rfl ?_
      obtain ⟨q75, h76, hf⟩ := zz_bind hf
      refine zz_sub [1, 2, 0] rfl ?_
      refine mX8_makeParcels_L6 C hcR hsR a_ 1000 a_ σ52 q75 h76 ?_
      refine zz_iinc (v := (a_ + (1 : Int32))) C 1 dX8_makeParcels_201 rfl (by rfl) (by decide) (lv' := [(1, .int (a_ + (1 : Int32))), (0, .ref (ad 47)), (2, .int q75.1)]) rfl ?_
      refine zz_goto (tgt := 141) C dX8_makeParcels_204 (by decide) ?_
      refine zz_sub [1, 0] rfl ?_
      exact ih (a_ + (1 : Int32)) q75.2 _ hf kx
set_option maxHeartbeats 4000000 in
set_option maxRecDepth 100000 in
theorem mX8_makeParcels_L8 {p : Program} {l : Launch} {e : Env} {R : Room} {s : State} {m : MethodId} {args : Array Value} {below : List Frame} {meth : Method} {c : Code} {Q : State → Prop} {D : va_G} {U : zz_U} {A : Nat → Prop} {cells slots : Nat} {ad : Nat → Nat} {X : va_W} {ρ : zz_St} (C : zz_C p l R s m meth c D U A RX8 cX8_makeParcels 4 none [] 5) (hcR : cells ≤ R.cells) (hsR : slots ≤ R.slots) (σ : zz_St) (done_ : Int32) (all_ : Int32) : ∀ (n : Nat) (next_ : Int32) (q : (Int32)), fX8_makeParcels_L8 σ done_ all_ n next_ = some q → (zz_Z p l e R s m args below meth c Q D A 4 cells slots (zz_wm U ad ρ σ X) 274 [(0, .ref (ad 47)), (1, .int done_), (2, .int all_), (3, .int q)] []) → zz_Z p l e R s m args below meth c Q D A 4 cells slots (zz_wm U ad ρ σ X) 230 [(0, .ref (ad 47)), (1, .int done_), (2, .int all_), (3, .int next_)] [] := by
  intro n
  induction n with
  | zero => intro next_ q hf; rw [fX8_makeParcels_L8] at hf; cases hf
  | succ n ih =>
    intro next_ q hf kx
    rw [fX8_makeParcels_L8] at hf
    obtain ⟨b82, h83, hf⟩ := zz_bind hf
    refine zz_cutI (P := b82 = true) 268 [(0, .ref (ad 47)), (1, .int done_), (2, .int all_), (3, .int next_)] [] (zz_wm U ad ρ σ X) (fun g86 => ?_) (fun J84 => ?_)
    · rw [if_pos g86] at hf
      refine zz_iinc (v := (next_ + (1 : Int32))) C 3 dX8_makeParcels_268 rfl (by rfl) (by decide) (lv' := [(3, .int (next_ + (1 : Int32))), (0, .ref (ad 47)), (1, .int done_), (2, .int all_)]) rfl ?_
      refine zz_goto (tgt := 230) C dX8_makeParcels_271 (by decide) ?_
      refine zz_sub [1, 2, 3, 0] rfl ?_
      exact ih (next_ + (1 : Int32)) _ hf kx
    refine zz_cutI (P := b82 = false) 274 [(0, .ref (ad 47)), (1, .int done_), (2, .int all_), (3, .int next_)] [] (zz_wm U ad ρ σ X) (fun g86 => ?_) (fun J85 => ?_)
    · rw [if_neg (show ¬ b82 = true by rw [g86]; decide)] at hf
      cases hf
      exact kx
    refine zz_iload_n C 1 dX8_makeParcels_230 rfl rfl ?_
    refine zz_iload_n C 3 dX8_makeParcels_231 rfl rfl ?_
    obtain ⟨x87, h88, h83⟩ := zz_bind h83
    refine zz_callS1 (As := [.int done_, .int next_]) (rest := []) C (mX8_has σ done_ next_ x87 h88) dX8_makeParcels_232 rfl zw_189 zy_X8_has rfl (by decide) (by decide) (Nat.le_of_ble_eq_true rfl) hcR hsR rfl ?_
    refine zz_if_ne (tgt := 268) C dX8_makeParcels_235 (by decide) (fun g89 => ?_) (fun g89 => ?_)
    · rw [if_neg g89] at h83
      cases h83
      exact J84 rfl
    · rw [if_pos g89] at h83
      refine zz_aload_n C 0 dX8_makeParcels_238 rfl rfl ?_
      refine zf8_far C dX8_makeParcels_239 zw_188 ?_
      refine zz_iload_n C 3 dX8_makeParcels_242 rfl rfl ?_
      obtain ⟨x90, h91, h83⟩ := zz_bind h83
      refine zl_59 C dX8_makeParcels_243 h91 ?_
      refine zz_iload_n C 1 dX8_makeParcels_244 rfl rfl ?_
      refine zz_iconst (v := (-1 : Int32)) C dX8_makeParcels_245 (by decide) ?_
      refine zz_ixor C dX8_makeParcels_246 ?_
      refine zz_iand C dX8_makeParcels_247 ?_
      refine zz_aload_n C 0 dX8_makeParcels_248 rfl rfl ?_
      refine zz_aload_n C 0 dX8_makeParcels_249 rfl rfl ?_
      refine zf8_bundles C dX8_makeParcels_250 zw_190 ?_
      refine zz_aload_n C 0 dX8_makeParcels_253 rfl rfl ?_
      refine zf8_bundles C dX8_makeParcels_254 zw_190 ?_
      refine zz_iload_n C 3 dX8_makeParcels_257 rfl rfl ?_
      obtain ⟨x92, h93, h83⟩ := zz_bind h83
      refine zl_57 C dX8_makeParcels_258 h93 ?_
      obtain ⟨x94, h95, h83⟩ := zz_bind h83
      refine zz_callV1 (As := [.ref (ad 57), .int x92]) (rest := [.int (x90 &&& (done_ ^^^ (-1 : Int32)))]) C 47 (mX8_setOf_a57 σ x92 x94 h95) dX8_makeParcels_259 rfl rfl rfl zw_183 zy_X8_setOf rfl (by decide) (by decide) (Nat.le_of_ble_eq_true rfl) hcR hsR rfl ?_
      refine zz_iconst (v := (-1 : Int32)) C dX8_makeParcels_262 (by decide) ?_
      refine zz_ixor C dX8_makeParcels_263 ?_
      refine zz_iand C dX8_makeParcels_264 ?_
      refine zz_if_eq (tgt := 274) C dX8_makeParcels_265 (by decide) (fun g96 => ?_) (fun g96 => ?_)
      · rw [if_pos g96] at h83
        cases h83
        exact J85 rfl
      · rw [if_neg g96] at h83
        cases h83
        exact J84 rfl
set_option maxHeartbeats 4000000 in
set_option maxRecDepth 100000 in
theorem mX8_makeParcels_L7 {p : Program} {l : Launch} {e : Env} {R : Room} {s : State} {m : MethodId} {args : Array Value} {below : List Frame} {meth : Method} {c : Code} {Q : State → Prop} {D : va_G} {U : zz_U} {A : Nat → Prop} {cells slots : Nat} {ad : Nat → Nat} {X : va_W} {ρ : zz_St} (C : zz_C p l R s m meth c D U A RX8 cX8_makeParcels 4 none [] 5) (hcR : cells ≤ R.cells) (hsR : slots ≤ R.slots) (all_ : Int32) : ∀ (n : Nat) (done_ : Int32) (σ : zz_St) (q : (Int32 × zz_St)), fX8_makeParcels_L7 all_ n done_ σ = some q → (zz_Z p l e R s m args below meth c Q D A 4 cells slots (zz_wm U ad ρ q.2 X) 319 [(0, .ref (ad 47)), (1, .int q.1), (2, .int all_)] []) → zz_Z p l e R s m args below meth c Q D A 4 cells slots (zz_wm U ad ρ σ X) 223 [(0, .ref (ad 47)), (1, .int done_), (2, .int all_)] [] := by
  intro n
  induction n with
  | zero => intro done_ σ q hf; rw [fX8_makeParcels_L7] at hf; cases hf
  | succ n ih =>
    intro done_ σ q hf kx
    rw [fX8_makeParcels_L7] at hf
    refine zz_iload_n C 1 dX8_makeParcels_223 rfl rfl ?_
    refine zz_iload_n C 2 dX8_makeParcels_224 rfl rfl ?_
    refine zz_icmp_eq (tgt := 319) C dX8_makeParcels_225 (by decide) (fun g81 => ?_) (fun g81 => ?_)
    · rw [if_pos g81] at hf
      cases hf
      exact kx
    · rw [if_neg g81] at hf
      refine zz_iconst (v := (0 : Int32)) C dX8_makeParcels_228 (by decide) ?_
      refine zz_istore_n C dX8_makeParcels_229 rfl (by decide) (lv' := [(3, .int (0 : Int32)), (0, .ref (ad 47)), (1, .int done_), (2, .int all_)]) rfl ?_
      obtain ⟨q97, h98, hf⟩ := zz_bind hf
      refine zz_sub [1, 2, 3, 0] rfl ?_
      refine mX8_makeParcels_L8 C hcR hsR σ done_ all_ 1000 (0 : Int32) q97 h98 ?_
      refine zz_aload_n C 0 dX8_makeParcels_274 rfl rfl ?_
      refine zf8_order C dX8_makeParcels_275 zw_192 ?_
      refine zz_aload_n C 0 dX8_makeParcels_278 rfl rfl ?_
      refine zf8_parcels C dX8_makeParcels_279 zw_191 ?_
      refine zz_aload_n C 0 dX8_makeParcels_282 rfl rfl ?_
      refine zf8_bundles C dX8_makeParcels_283 zw_190 ?_
      refine zz_iload_n C 3 dX8_makeParcels_286 rfl rfl ?_
      obtain ⟨x99, h100, hf⟩ := zz_bind hf
      refine zl_57 C dX8_makeParcels_287 h100 ?_
      obtain ⟨σ101, h102, hf⟩ := zz_bind hf
      refine zs_58 C dX8_makeParcels_288 h102 ?_
      refine zz_aload_n C 0 dX8_makeParcels_289 rfl rfl ?_
      refine zz_dup C dX8_makeParcels_290 rfl ?_
      refine zf8_parcels C dX8_makeParcels_291 zw_191 ?_
      refine zz_iconst (v := (1 : Int32)) C dX8_makeParcels_294 (by decide) ?_
      refine zz_iadd C dX8_makeParcels_295 ?_
      refine zp8_parcels C dX8_makeParcels_296 zw_191 ?_
      refine zz_iload_n C 1 dX8_makeParcels_299 rfl rfl ?_
      refine zz_aload_n C 0 dX8_makeParcels_300 rfl rfl ?_
      refine zz_aload_n C 0 dX8_makeParcels_301 rfl rfl ?_
      refine zf8_bundles C dX8_makeParcels_302 zw_190 ?_
      refine zz_aload_n C 0 dX8_makeParcels_305 rfl rfl ?_
      refine zf8_bundles C dX8_makeParcels_306 zw_190 ?_
      refine zz_iload_n C 3 dX8_makeParcels_309 rfl rfl ?_
      obtain ⟨x103, h104, hf⟩ := zz_bind hf
      refine zl_57 C dX8_makeParcels_310 h104 ?_
      obtain ⟨x105, h106, hf⟩ := zz_bind hf
      refine zz_callV1 (As := [.ref (ad 57), .int x103]) (rest := [.int done_]) C 47 (mX8_setOf_a57 (zz_u σ101 47 17 ((σ101 47 17) + (1 : Int32))) x103 x105 h106) dX8_makeParcels_311 rfl rfl rfl zw_183 zy_X8_setOf rfl (by decide) (by decide) (Nat.le_of_ble_eq_true rfl) hcR hsR rfl ?_
      refine zz_ior C dX8_makeParcels_314 ?_
      obtain ⟨x107, h108, hf⟩ := zz_bind hf
      refine zz_topi (Option.some.inj h108) ?_
      refine zz_istore_n C dX8_makeParcels_315 rfl (by decide) (lv' := [(1, .int x107), (0, .ref (ad 47)), (2, .int all_), (3, .int q97)]) rfl ?_
      refine zz_goto (tgt := 223) C dX8_makeParcels_316 (by decide) ?_
      refine zz_sub [1, 0, 2] rfl ?_
      exact ih x107 (zz_u σ101 47 17 ((σ101 47 17) + (1 : Int32))) _ hf kx
set_option maxHeartbeats 4000000 in
set_option maxRecDepth 100000 in
theorem mX8_makeParcels {D : va_G} {U : zz_U} {ad : Nat → Nat} {X : va_W} {ρ : zz_St} (σ : zz_St) (r : zz_St) (hf : fX8_makeParcels σ = some r) : zz_Met yX8_makeParcels (.code yX8_makeParcels cX8_makeParcels 4 none) 5 0 0 D U [.ref (ad 47)] (zz_wm U ad ρ σ X) (zz_ok none (zz_wm U ad ρ r X)) zz_noth := by
  unfold fX8_makeParcels at hf
  refine zz_method RX8 rfl (by decide +kernel) (Nat.le_of_ble_eq_true rfl) ?_
  intro p l e s m args below meth c A _ C
  refine zz_lvs (lv1 := [(0, .ref (ad 47))]) rfl ?_
  refine zz_aload_n C 0 dX8_makeParcels_0 rfl rfl ?_
  obtain ⟨x1, h2, hf⟩ := zz_bind hf
  refine zz_callV1 (As := []) (rest := []) C 47 (mX8_makeGroups σ x1 h2) dX8_makeParcels_1 rfl rfl rfl zw_182 zy_X8_makeGroups rfl (by decide) (by decide) (Nat.le_of_ble_eq_true rfl) (Nat.le_of_ble_eq_true rfl) (Nat.le_of_ble_eq_true rfl) rfl ?_
  refine zz_iconst (v := (0 : Int32)) C dX8_makeParcels_4 (by decide) ?_
  refine zz_istore_n C dX8_makeParcels_5 rfl (by decide) (lv' := [(1, .int (0 : Int32)), (0, .ref (ad 47))]) rfl ?_
  obtain ⟨q29, h30, hf⟩ := zz_bind hf
  refine zz_sub [1, 0] rfl ?_
  refine mX8_makeParcels_L1 C (Nat.le_of_ble_eq_true rfl) (Nat.le_of_ble_eq_true rfl) 1000 (0 : Int32) x1 q29 h30 ?_
  refine zz_iconst (v := (0 : Int32)) C dX8_makeParcels_79 (by decide) ?_
  refine zz_istore_n C dX8_makeParcels_80 rfl (by decide) (lv' := [(1, .int (0 : Int32)), (0, .ref (ad 47))]) rfl ?_
  obtain ⟨q49, h50, hf⟩ := zz_bind hf
  refine zz_sub [1, 0] rfl ?_
  refine mX8_makeParcels_L3 C (Nat.le_of_ble_eq_true rfl) (Nat.le_of_ble_eq_true rfl) 1000 (0 : Int32) q29.2 q49 h50 ?_
  refine zz_iconst (v := (0 : Int32)) C dX8_makeParcels_139 (by decide) ?_
  refine zz_istore_n C dX8_makeParcels_140 rfl (by decide) (lv' := [(1, .int (0 : Int32)), (0, .ref (ad 47))]) rfl ?_
  obtain ⟨q77, h78, hf⟩ := zz_bind hf
  refine zz_sub [1, 0] rfl ?_
  refine mX8_makeParcels_L5 C (Nat.le_of_ble_eq_true rfl) (Nat.le_of_ble_eq_true rfl) 1000 (0 : Int32) q49.2 q77 h78 ?_
  refine zz_aload_n C 0 dX8_makeParcels_207 rfl rfl ?_
  refine zz_iconst (v := (0 : Int32)) C dX8_makeParcels_208 (by decide) ?_
  refine zp8_parcels C dX8_makeParcels_209 zw_191 ?_
  refine zz_iconst (v := (0 : Int32)) C dX8_makeParcels_212 (by decide) ?_
  refine zz_istore_n C dX8_makeParcels_213 rfl (by decide) (lv' := [(1, .int (0 : Int32)), (0, .ref (ad 47))]) rfl ?_
  refine zz_iconst (v := (1 : Int32)) C dX8_makeParcels_214 (by decide) ?_
  refine zz_aload_n C 1 dX8_makeParcels_215 rfl rfl ?_
  refine zf8_pieces C dX8_makeParcels_216 zw_148 ?_
  refine zz_ishl C dX8_makeParcels_219 ?_
  refine zz_iconst (v := (1 : Int32)) C dX8_makeParcels_220 (by decide) ?_
  refine zz_isub C dX8_makeParcels_221 ?_
  obtain ⟨x79, h80, hf⟩ := zz_bind hf
  refine zz_topi (Option.some.inj h80) ?_
  refine zz_istore_n C dX8_makeParcels_222 rfl (by decide) (lv' := [(2, .int x79), (1, .int (0 : Int32)), (0, .ref (ad 47))]) rfl ?_
  obtain ⟨q109, h110, hf⟩ := zz_bind hf
  refine zz_sub [2, 1, 0] rfl ?_
  refine mX8_makeParcels_L7 C (Nat.le_of_ble_eq_true rfl) (Nat.le_of_ble_eq_true rfl) x79 1000 (0 : Int32) (zz_u q77.2 47 17 (0 : Int32)) q109 h110 ?_
  cases hf
  exact zz_vret C dX8_makeParcels_319 (And.intro rfl rfl) (Nat.le_of_ble_eq_true rfl) (Nat.le_of_ble_eq_true rfl)
theorem dX8_parcelCount_0 : decode cX8_parcelCount 0 = .ok (.aload_n 0, 1) := by decide +kernel
theorem dX8_parcelCount_1 : decode cX8_parcelCount 1 = .ok (.iconst 0, 1) := by decide +kernel
theorem dX8_parcelCount_2 : decode cX8_parcelCount 2 = .ok (.putfield 63, 3) := by decide +kernel
theorem dX8_parcelCount_5 : decode cX8_parcelCount 5 = .ok (.aload_n 0, 1) := by decide +kernel
theorem dX8_parcelCount_6 : decode cX8_parcelCount 6 = .ok (.invokevirtual 176, 3) := by decide +kernel
theorem dX8_parcelCount_9 : decode cX8_parcelCount 9 = .ok (.aload_n 0, 1) := by decide +kernel
theorem dX8_parcelCount_10 : decode cX8_parcelCount 10 = .ok (.getfield 173, 3) := by decide +kernel
theorem dX8_parcelCount_13 : decode cX8_parcelCount 13 = .ok (.ireturn, 1) := by decide +kernel
set_option maxHeartbeats 4000000 in
set_option maxRecDepth 100000 in
theorem mX8_parcelCount {D : va_G} {U : zz_U} {ad : Nat → Nat} {X : va_W} {ρ : zz_St} (σ : zz_St) (r : (Int32 × zz_St)) (hf : fX8_parcelCount σ = some r) : zz_Met yX8_parcelCount (.code yX8_parcelCount cX8_parcelCount 1 (some .int)) 6 0 0 D U [.ref (ad 47)] (zz_wm U ad ρ σ X) (zz_ok (some (.int r.1)) (zz_wm U ad ρ r.2 X)) zz_noth := by
  unfold fX8_parcelCount at hf
  refine zz_method RX8 rfl (by decide +kernel) (Nat.le_of_ble_eq_true rfl) ?_
  intro p l e s m args below meth c A _ C
  refine zz_lvs (lv1 := [(0, .ref (ad 47))]) rfl ?_
  refine zz_aload_n C 0 dX8_parcelCount_0 rfl rfl ?_
  refine zz_iconst (v := (0 : Int32)) C dX8_parcelCount_1 (by decide) ?_
  refine zp8_thrown C dX8_parcelCount_2 zw_145 ?_
  refine zz_aload_n C 0 dX8_parcelCount_5 rfl rfl ?_
  obtain ⟨x1, h2, hf⟩ := zz_bind hf
  refine zz_callV1 (As := []) (rest := []) C 47 (mX8_makeParcels (zz_u σ 47 0 (0 : Int32)) x1 h2) dX8_parcelCount_6 rfl rfl rfl zw_193 zy_X8_makeParcels rfl (by decide) (by decide) (Nat.le_of_ble_eq_true rfl) (Nat.le_of_ble_eq_true rfl) (Nat.le_of_ble_eq_true rfl) rfl ?_
  refine zz_aload_n C 0 dX8_parcelCount_9 rfl rfl ?_
  refine zf8_parcels C dX8_parcelCount_10 zw_191 ?_
  cases hf
  exact zz_iret C dX8_parcelCount_13 (And.intro rfl rfl) (Nat.le_of_ble_eq_true rfl) (Nat.le_of_ble_eq_true rfl)
theorem dX8_isParcel_0 : decode cX8_isParcel 0 = .ok (.aload_n 0, 1) := by decide +kernel
theorem dX8_isParcel_1 : decode cX8_isParcel 1 = .ok (.invokevirtual 176, 3) := by decide +kernel
theorem dX8_isParcel_4 : decode cX8_isParcel 4 = .ok (.iload_n 1, 1) := by decide +kernel
theorem dX8_isParcel_5 : decode cX8_isParcel 5 = .ok (.iconst 0, 1) := by decide +kernel
theorem dX8_isParcel_6 : decode cX8_isParcel 6 = .ok (.aload_n 0, 1) := by decide +kernel
theorem dX8_isParcel_7 : decode cX8_isParcel 7 = .ok (.getfield 173, 3) := by decide +kernel
theorem dX8_isParcel_10 : decode cX8_isParcel 10 = .ok (.iconst 1, 1) := by decide +kernel
theorem dX8_isParcel_11 : decode cX8_isParcel 11 = .ok (.isub, 1) := by decide +kernel
theorem dX8_isParcel_12 : decode cX8_isParcel 12 = .ok (.invokestatic 69, 3) := by decide +kernel
theorem dX8_isParcel_15 : decode cX8_isParcel 15 = .ok (.ireturn, 1) := by decide +kernel
set_option maxHeartbeats 4000000 in
set_option maxRecDepth 100000 in
theorem mX8_isParcel {D : va_G} {U : zz_U} {ad : Nat → Nat} {X : va_W} {ρ : zz_St} (σ : zz_St) (parcel_ : Int32) (r : (Int32 × zz_St)) (hf : fX8_isParcel σ parcel_ = some r) : zz_Met yX8_isParcel (.code yX8_isParcel cX8_isParcel 2 (some .boolean)) 6 0 0 D U [.ref (ad 47), .int parcel_] (zz_wm U ad ρ σ X) (zz_ok (some (.int r.1)) (zz_wm U ad ρ r.2 X)) zz_noth := by
  unfold fX8_isParcel at hf
  refine zz_method RX8 rfl (by decide +kernel) (Nat.le_of_ble_eq_true rfl) ?_
  intro p l e s m args below meth c A _ C
  refine zz_lvs (lv1 := [(0, .ref (ad 47)), (1, .int parcel_)]) rfl ?_
  refine zz_aload_n C 0 dX8_isParcel_0 rfl rfl ?_
  obtain ⟨x1, h2, hf⟩ := zz_bind hf
  refine zz_callV1 (As := []) (rest := []) C 47 (mX8_makeParcels σ x1 h2) dX8_isParcel_1 rfl rfl rfl zw_193 zy_X8_makeParcels rfl (by decide) (by decide) (Nat.le_of_ble_eq_true rfl) (Nat.le_of_ble_eq_true rfl) (Nat.le_of_ble_eq_true rfl) rfl ?_
  refine zz_iload_n C 1 dX8_isParcel_4 rfl rfl ?_
  refine zz_iconst (v := (0 : Int32)) C dX8_isParcel_5 (by decide) ?_
  refine zz_aload_n C 0 dX8_isParcel_6 rfl rfl ?_
  refine zf8_parcels C dX8_isParcel_7 zw_191 ?_
  refine zz_iconst (v := (1 : Int32)) C dX8_isParcel_10 (by decide) ?_
  refine zz_isub C dX8_isParcel_11 ?_
  obtain ⟨x3, h4, hf⟩ := zz_bind hf
  refine zz_callS1 (As := [.int parcel_, .int (0 : Int32), .int ((x1 47 17) - (1 : Int32))]) (rest := []) C (mX8_isIn x1 parcel_ (0 : Int32) ((x1 47 17) - (1 : Int32)) x3 h4) dX8_isParcel_12 rfl zw_146 zy_X8_isIn rfl (by decide) (by decide) (Nat.le_of_ble_eq_true rfl) (Nat.le_of_ble_eq_true rfl) (Nat.le_of_ble_eq_true rfl) rfl ?_
  obtain ⟨x5, h6, hf⟩ := zz_bind hf
  refine zz_topi (zz_bo_in h6).2 ?_
  cases hf
  exact zz_zret C dX8_isParcel_15 (by rw [← (zz_bo_in h6).2]; exact (zz_bo_in h6).1) (And.intro rfl rfl) (Nat.le_of_ble_eq_true rfl) (Nat.le_of_ble_eq_true rfl)
theorem dX8_parcel_0 : decode cX8_parcel 0 = .ok (.aload_n 0, 1) := by decide +kernel
theorem dX8_parcel_1 : decode cX8_parcel 1 = .ok (.iconst 0, 1) := by decide +kernel
theorem dX8_parcel_2 : decode cX8_parcel 2 = .ok (.putfield 63, 3) := by decide +kernel
theorem dX8_parcel_5 : decode cX8_parcel 5 = .ok (.aload_n 0, 1) := by decide +kernel
theorem dX8_parcel_6 : decode cX8_parcel 6 = .ok (.iload_n 1, 1) := by decide +kernel
theorem dX8_parcel_7 : decode cX8_parcel 7 = .ok (.invokevirtual 179, 3) := by decide +kernel
theorem dX8_parcel_10 : decode cX8_parcel 10 = .ok (.ifCond .eq 20, 3) := by decide +kernel
theorem dX8_parcel_13 : decode cX8_parcel 13 = .ok (.aload_n 0, 1) := by decide +kernel
theorem dX8_parcel_14 : decode cX8_parcel 14 = .ok (.aload_n 0, 1) := by decide +kernel
theorem dX8_parcel_15 : decode cX8_parcel 15 = .ok (.getfield 48, 3) := by decide +kernel
theorem dX8_parcel_18 : decode cX8_parcel 18 = .ok (.aload_n 0, 1) := by decide +kernel
theorem dX8_parcel_19 : decode cX8_parcel 19 = .ok (.getfield 51, 3) := by decide +kernel
theorem dX8_parcel_22 : decode cX8_parcel 22 = .ok (.iload_n 1, 1) := by decide +kernel
theorem dX8_parcel_23 : decode cX8_parcel 23 = .ok (.iaload, 1) := by decide +kernel
theorem dX8_parcel_24 : decode cX8_parcel 24 = .ok (.invokevirtual 157, 3) := by decide +kernel
theorem dX8_parcel_27 : decode cX8_parcel 27 = .ok (.goto 8, 3) := by decide +kernel
theorem dX8_parcel_30 : decode cX8_parcel 30 = .ok (.aload_n 0, 1) := by decide +kernel
theorem dX8_parcel_31 : decode cX8_parcel 31 = .ok (.iconst 1, 1) := by decide +kernel
theorem dX8_parcel_32 : decode cX8_parcel 32 = .ok (.invokevirtual 73, 3) := by decide +kernel
theorem dX8_parcel_35 : decode cX8_parcel 35 = .ok (.ireturn, 1) := by decide +kernel
set_option maxHeartbeats 4000000 in
set_option maxRecDepth 100000 in
theorem mX8_parcel {D : va_G} {U : zz_U} {ad : Nat → Nat} {X : va_W} {ρ : zz_St} (σ : zz_St) (parcel_ : Int32) (r : (Int32 × zz_St)) (hf : fX8_parcel σ parcel_ = some r) : zz_Met yX8_parcel (.code yX8_parcel cX8_parcel 2 (some .int)) 7 0 0 D U [.ref (ad 47), .int parcel_] (zz_wm U ad ρ σ X) (zz_ok (some (.int r.1)) (zz_wm U ad ρ r.2 X)) zz_noth := by
  unfold fX8_parcel at hf
  refine zz_method RX8 rfl (by decide +kernel) (Nat.le_of_ble_eq_true rfl) ?_
  intro p l e s m args below meth c A _ C
  refine zz_lvs (lv1 := [(0, .ref (ad 47)), (1, .int parcel_)]) rfl ?_
  refine zz_aload_n C 0 dX8_parcel_0 rfl rfl ?_
  refine zz_iconst (v := (0 : Int32)) C dX8_parcel_1 (by decide) ?_
  refine zp8_thrown C dX8_parcel_2 zw_145 ?_
  obtain ⟨x1, h2, hf⟩ := zz_bind hf
  refine zz_cut 35 [(0, .ref (ad 47)), (1, .int parcel_)] [.int x1.1] (zz_wm U ad ρ x1.2 X) ?_ (fun J3 => ?_)
  · cases hf
    exact zz_iret C dX8_parcel_35 (And.intro rfl rfl) (Nat.le_of_ble_eq_true rfl) (Nat.le_of_ble_eq_true rfl)
  refine zz_aload_n C 0 dX8_parcel_5 rfl rfl ?_
  refine zz_iload_n C 1 dX8_parcel_6 rfl rfl ?_
  obtain ⟨x4, h5, h2⟩ := zz_bind h2
  refine zz_callV1 (As := [.int parcel_]) (rest := []) C 47 (mX8_isParcel (zz_u σ 47 0 (0 : Int32)) parcel_ x4 h5) dX8_parcel_7 rfl rfl rfl zw_194 zy_X8_isParcel rfl (by decide) (by decide) (Nat.le_of_ble_eq_true rfl) (Nat.le_of_ble_eq_true rfl) (Nat.le_of_ble_eq_true rfl) rfl ?_
  refine zz_if_eq (tgt := 30) C dX8_parcel_10 (by decide) (fun g6 => ?_) (fun g6 => ?_)
  · rw [if_pos g6] at h2
    refine zz_aload_n C 0 dX8_parcel_30 rfl rfl ?_
    refine zz_iconst (v := (1 : Int32)) C dX8_parcel_31 (by decide) ?_
    obtain ⟨x7, h8, h2⟩ := zz_bind h2
    refine zz_callV1 (As := [.int (1 : Int32)]) (rest := []) C 47 (mX8_no x4.2 (1 : Int32) x7 h8) dX8_parcel_32 rfl rfl rfl zw_147 zy_X8_no rfl (by decide) (by decide) (Nat.le_of_ble_eq_true rfl) (Nat.le_of_ble_eq_true rfl) (Nat.le_of_ble_eq_true rfl) rfl ?_
    cases h2
    exact J3
  · rw [if_neg g6] at h2
    refine zz_aload_n C 0 dX8_parcel_13 rfl rfl ?_
    refine zz_aload_n C 0 dX8_parcel_14 rfl rfl ?_
    refine zf8_bundles C dX8_parcel_15 zw_190 ?_
    refine zz_aload_n C 0 dX8_parcel_18 rfl rfl ?_
    refine zf8_order C dX8_parcel_19 zw_192 ?_
    refine zz_iload_n C 1 dX8_parcel_22 rfl rfl ?_
    obtain ⟨x9, h10, h2⟩ := zz_bind h2
    refine zl_58 C dX8_parcel_23 h10 ?_
    obtain ⟨x11, h12, h2⟩ := zz_bind h2
    refine zz_callV1 (As := [.ref (ad 57), .int x9]) (rest := []) C 47 (mX8_setOf_a57 x4.2 x9 x11 h12) dX8_parcel_24 rfl rfl rfl zw_183 zy_X8_setOf rfl (by decide) (by decide) (Nat.le_of_ble_eq_true rfl) (Nat.le_of_ble_eq_true rfl) (Nat.le_of_ble_eq_true rfl) rfl ?_
    refine zz_goto (tgt := 35) C dX8_parcel_27 (by decide) ?_
    cases h2
    exact J3
theorem dX8_parcelOf_0 : decode cX8_parcelOf 0 = .ok (.aload_n 0, 1) := by decide +kernel
theorem dX8_parcelOf_1 : decode cX8_parcelOf 1 = .ok (.iconst 0, 1) := by decide +kernel
theorem dX8_parcelOf_2 : decode cX8_parcelOf 2 = .ok (.putfield 63, 3) := by decide +kernel
theorem dX8_parcelOf_5 : decode cX8_parcelOf 5 = .ok (.aload_n 0, 1) := by decide +kernel
theorem dX8_parcelOf_6 : decode cX8_parcelOf 6 = .ok (.iload_n 1, 1) := by decide +kernel
theorem dX8_parcelOf_7 : decode cX8_parcelOf 7 = .ok (.invokevirtual 77, 3) := by decide +kernel
theorem dX8_parcelOf_10 : decode cX8_parcelOf 10 = .ok (.ifCond .ne 9, 3) := by decide +kernel
theorem dX8_parcelOf_13 : decode cX8_parcelOf 13 = .ok (.aload_n 0, 1) := by decide +kernel
theorem dX8_parcelOf_14 : decode cX8_parcelOf 14 = .ok (.iconst 1, 1) := by decide +kernel
theorem dX8_parcelOf_15 : decode cX8_parcelOf 15 = .ok (.invokevirtual 73, 3) := by decide +kernel
theorem dX8_parcelOf_18 : decode cX8_parcelOf 18 = .ok (.ireturn, 1) := by decide +kernel
theorem dX8_parcelOf_19 : decode cX8_parcelOf 19 = .ok (.aload_n 0, 1) := by decide +kernel
theorem dX8_parcelOf_20 : decode cX8_parcelOf 20 = .ok (.invokevirtual 176, 3) := by decide +kernel
theorem dX8_parcelOf_23 : decode cX8_parcelOf 23 = .ok (.iconst 0, 1) := by decide +kernel
theorem dX8_parcelOf_24 : decode cX8_parcelOf 24 = .ok (.istore_n 2, 1) := by decide +kernel
theorem dX8_parcelOf_25 : decode cX8_parcelOf 25 = .ok (.aload_n 0, 1) := by decide +kernel
theorem dX8_parcelOf_26 : decode cX8_parcelOf 26 = .ok (.getfield 51, 3) := by decide +kernel
theorem dX8_parcelOf_29 : decode cX8_parcelOf 29 = .ok (.iload_n 2, 1) := by decide +kernel
theorem dX8_parcelOf_30 : decode cX8_parcelOf 30 = .ok (.iaload, 1) := by decide +kernel
theorem dX8_parcelOf_31 : decode cX8_parcelOf 31 = .ok (.aload_n 0, 1) := by decide +kernel
theorem dX8_parcelOf_32 : decode cX8_parcelOf 32 = .ok (.getfield 48, 3) := by decide +kernel
theorem dX8_parcelOf_35 : decode cX8_parcelOf 35 = .ok (.iload_n 1, 1) := by decide +kernel
theorem dX8_parcelOf_36 : decode cX8_parcelOf 36 = .ok (.iaload, 1) := by decide +kernel
theorem dX8_parcelOf_37 : decode cX8_parcelOf 37 = .ok (.if_icmp .eq 9, 3) := by decide +kernel
theorem dX8_parcelOf_40 : decode cX8_parcelOf 40 = .ok (.iinc 2 1, 3) := by decide +kernel
theorem dX8_parcelOf_43 : decode cX8_parcelOf 43 = .ok (.goto (-18), 3) := by decide +kernel
theorem dX8_parcelOf_46 : decode cX8_parcelOf 46 = .ok (.iload_n 2, 1) := by decide +kernel
theorem dX8_parcelOf_47 : decode cX8_parcelOf 47 = .ok (.ireturn, 1) := by decide +kernel
set_option maxHeartbeats 4000000 in
set_option maxRecDepth 100000 in
theorem mX8_parcelOf_L1 {p : Program} {l : Launch} {e : Env} {R : Room} {s : State} {m : MethodId} {args : Array Value} {below : List Frame} {meth : Method} {c : Code} {Q : State → Prop} {D : va_G} {U : zz_U} {A : Nat → Prop} {cells slots : Nat} {ad : Nat → Nat} {X : va_W} {ρ : zz_St} (C : zz_C p l R s m meth c D U A RX8 cX8_parcelOf 3 (some .int) [] 6) (hcR : cells ≤ R.cells) (hsR : slots ≤ R.slots) (σ : zz_St) (piece_ : Int32) : ∀ (n : Nat) (parcel_ : Int32) (q : (Int32)), fX8_parcelOf_L1 σ piece_ n parcel_ = some q → (zz_Z p l e R s m args below meth c Q D A 3 cells slots (zz_wm U ad ρ σ X) 46 [(0, .ref (ad 47)), (1, .int piece_), (2, .int q)] []) → zz_Z p l e R s m args below meth c Q D A 3 cells slots (zz_wm U ad ρ σ X) 25 [(0, .ref (ad 47)), (1, .int piece_), (2, .int parcel_)] [] := by
  intro n
  induction n with
  | zero => intro parcel_ q hf; rw [fX8_parcelOf_L1] at hf; cases hf
  | succ n ih =>
    intro parcel_ q hf kx
    rw [fX8_parcelOf_L1] at hf
    refine zz_aload_n C 0 dX8_parcelOf_25 rfl rfl ?_
    refine zf8_order C dX8_parcelOf_26 zw_192 ?_
    refine zz_iload_n C 2 dX8_parcelOf_29 rfl rfl ?_
    obtain ⟨x6, h7, hf⟩ := zz_bind hf
    refine zl_58 C dX8_parcelOf_30 h7 ?_
    refine zz_aload_n C 0 dX8_parcelOf_31 rfl rfl ?_
    refine zf8_bundles C dX8_parcelOf_32 zw_190 ?_
    refine zz_iload_n C 1 dX8_parcelOf_35 rfl rfl ?_
    obtain ⟨x8, h9, hf⟩ := zz_bind hf
    refine zl_57 C dX8_parcelOf_36 h9 ?_
    refine zz_icmp_eq (tgt := 46) C dX8_parcelOf_37 (by decide) (fun g10 => ?_) (fun g10 => ?_)
    · rw [if_pos g10] at hf
      cases hf
      exact kx
    · rw [if_neg g10] at hf
      refine zz_iinc (v := (parcel_ + (1 : Int32))) C 2 dX8_parcelOf_40 rfl (by rfl) (by decide) (lv' := [(2, .int (parcel_ + (1 : Int32))), (0, .ref (ad 47)), (1, .int piece_)]) rfl ?_
      refine zz_goto (tgt := 25) C dX8_parcelOf_43 (by decide) ?_
      refine zz_sub [1, 2, 0] rfl ?_
      exact ih (parcel_ + (1 : Int32)) _ hf kx
set_option maxHeartbeats 4000000 in
set_option maxRecDepth 100000 in
theorem mX8_parcelOf {D : va_G} {U : zz_U} {ad : Nat → Nat} {X : va_W} {ρ : zz_St} (σ : zz_St) (piece_ : Int32) (r : (Int32 × zz_St)) (hf : fX8_parcelOf σ piece_ = some r) : zz_Met yX8_parcelOf (.code yX8_parcelOf cX8_parcelOf 3 (some .int)) 6 0 0 D U [.ref (ad 47), .int piece_] (zz_wm U ad ρ σ X) (zz_ok (some (.int r.1)) (zz_wm U ad ρ r.2 X)) zz_noth := by
  unfold fX8_parcelOf at hf
  refine zz_method RX8 rfl (by decide +kernel) (Nat.le_of_ble_eq_true rfl) ?_
  intro p l e s m args below meth c A _ C
  refine zz_lvs (lv1 := [(0, .ref (ad 47)), (1, .int piece_)]) rfl ?_
  refine zz_aload_n C 0 dX8_parcelOf_0 rfl rfl ?_
  refine zz_iconst (v := (0 : Int32)) C dX8_parcelOf_1 (by decide) ?_
  refine zp8_thrown C dX8_parcelOf_2 zw_145 ?_
  refine zz_aload_n C 0 dX8_parcelOf_5 rfl rfl ?_
  refine zz_iload_n C 1 dX8_parcelOf_6 rfl rfl ?_
  obtain ⟨x1, h2, hf⟩ := zz_bind hf
  refine zz_callV1 (As := [.int piece_]) (rest := []) C 47 (mX8_isPiece (zz_u σ 47 0 (0 : Int32)) piece_ x1 h2) dX8_parcelOf_7 rfl rfl rfl zw_154 zy_X8_isPiece rfl (by decide) (by decide) (Nat.le_of_ble_eq_true rfl) (Nat.le_of_ble_eq_true rfl) (Nat.le_of_ble_eq_true rfl) rfl ?_
  refine zz_if_ne (tgt := 19) C dX8_parcelOf_10 (by decide) (fun g3 => ?_) (fun g3 => ?_)
  · rw [if_neg g3] at hf
    refine zz_aload_n C 0 dX8_parcelOf_19 rfl rfl ?_
    obtain ⟨x4, h5, hf⟩ := zz_bind hf
    refine zz_callV1 (As := []) (rest := []) C 47 (mX8_makeParcels (zz_u σ 47 0 (0 : Int32)) x4 h5) dX8_parcelOf_20 rfl rfl rfl zw_193 zy_X8_makeParcels rfl (by decide) (by decide) (Nat.le_of_ble_eq_true rfl) (Nat.le_of_ble_eq_true rfl) (Nat.le_of_ble_eq_true rfl) rfl ?_
    refine zz_iconst (v := (0 : Int32)) C dX8_parcelOf_23 (by decide) ?_
    refine zz_istore_n C dX8_parcelOf_24 rfl (by decide) (lv' := [(2, .int (0 : Int32)), (0, .ref (ad 47)), (1, .int piece_)]) rfl ?_
    obtain ⟨q11, h12, hf⟩ := zz_bind hf
    refine zz_sub [1, 2, 0] rfl ?_
    refine mX8_parcelOf_L1 C (Nat.le_of_ble_eq_true rfl) (Nat.le_of_ble_eq_true rfl) x4 piece_ 1000 (0 : Int32) q11 h12 ?_
    refine zz_iload_n C 2 dX8_parcelOf_46 rfl rfl ?_
    cases hf
    exact zz_iret C dX8_parcelOf_47 (And.intro rfl rfl) (Nat.le_of_ble_eq_true rfl) (Nat.le_of_ble_eq_true rfl)
  · rw [if_pos g3] at hf
    refine zz_aload_n C 0 dX8_parcelOf_13 rfl rfl ?_
    refine zz_iconst (v := (1 : Int32)) C dX8_parcelOf_14 (by decide) ?_
    obtain ⟨x13, h14, hf⟩ := zz_bind hf
    refine zz_callV1 (As := [.int (1 : Int32)]) (rest := []) C 47 (mX8_no (zz_u σ 47 0 (0 : Int32)) (1 : Int32) x13 h14) dX8_parcelOf_15 rfl rfl rfl zw_147 zy_X8_no rfl (by decide) (by decide) (Nat.le_of_ble_eq_true rfl) (Nat.le_of_ble_eq_true rfl) (Nat.le_of_ble_eq_true rfl) rfl ?_
    cases hf
    exact zz_iret C dX8_parcelOf_18 (And.intro rfl rfl) (Nat.le_of_ble_eq_true rfl) (Nat.le_of_ble_eq_true rfl)
theorem dX8_knots_0 : decode cX8_knots 0 = .ok (.aload_n 0, 1) := by decide +kernel
theorem dX8_knots_1 : decode cX8_knots 1 = .ok (.iconst 0, 1) := by decide +kernel
theorem dX8_knots_2 : decode cX8_knots 2 = .ok (.putfield 63, 3) := by decide +kernel
theorem dX8_knots_5 : decode cX8_knots 5 = .ok (.aload_n 0, 1) := by decide +kernel
theorem dX8_knots_6 : decode cX8_knots 6 = .ok (.invokevirtual 176, 3) := by decide +kernel
theorem dX8_knots_9 : decode cX8_knots 9 = .ok (.iconst 0, 1) := by decide +kernel
theorem dX8_knots_10 : decode cX8_knots 10 = .ok (.istore_n 1, 1) := by decide +kernel
theorem dX8_knots_11 : decode cX8_knots 11 = .ok (.iconst 0, 1) := by decide +kernel
theorem dX8_knots_12 : decode cX8_knots 12 = .ok (.istore_n 2, 1) := by decide +kernel
theorem dX8_knots_13 : decode cX8_knots 13 = .ok (.iload_n 2, 1) := by decide +kernel
theorem dX8_knots_14 : decode cX8_knots 14 = .ok (.aload_n 0, 1) := by decide +kernel
theorem dX8_knots_15 : decode cX8_knots 15 = .ok (.getfield 173, 3) := by decide +kernel
theorem dX8_knots_18 : decode cX8_knots 18 = .ok (.if_icmp .ge 48, 3) := by decide +kernel
theorem dX8_knots_21 : decode cX8_knots 21 = .ok (.iload_n 1, 1) := by decide +kernel
theorem dX8_knots_22 : decode cX8_knots 22 = .ok (.aload_n 0, 1) := by decide +kernel
theorem dX8_knots_23 : decode cX8_knots 23 = .ok (.aload_n 0, 1) := by decide +kernel
theorem dX8_knots_24 : decode cX8_knots 24 = .ok (.getfield 48, 3) := by decide +kernel
theorem dX8_knots_27 : decode cX8_knots 27 = .ok (.aload_n 0, 1) := by decide +kernel
theorem dX8_knots_28 : decode cX8_knots 28 = .ok (.getfield 51, 3) := by decide +kernel
theorem dX8_knots_31 : decode cX8_knots 31 = .ok (.iload_n 2, 1) := by decide +kernel
theorem dX8_knots_32 : decode cX8_knots 32 = .ok (.iaload, 1) := by decide +kernel
theorem dX8_knots_33 : decode cX8_knots 33 = .ok (.invokevirtual 157, 3) := by decide +kernel
theorem dX8_knots_36 : decode cX8_knots 36 = .ok (.aload_n 0, 1) := by decide +kernel
theorem dX8_knots_37 : decode cX8_knots 37 = .ok (.aload_n 0, 1) := by decide +kernel
theorem dX8_knots_38 : decode cX8_knots 38 = .ok (.getfield 42, 3) := by decide +kernel
theorem dX8_knots_41 : decode cX8_knots 41 = .ok (.aload_n 0, 1) := by decide +kernel
theorem dX8_knots_42 : decode cX8_knots 42 = .ok (.getfield 51, 3) := by decide +kernel
theorem dX8_knots_45 : decode cX8_knots 45 = .ok (.iload_n 2, 1) := by decide +kernel
theorem dX8_knots_46 : decode cX8_knots 46 = .ok (.iaload, 1) := by decide +kernel
theorem dX8_knots_47 : decode cX8_knots 47 = .ok (.invokevirtual 157, 3) := by decide +kernel
theorem dX8_knots_50 : decode cX8_knots 50 = .ok (.if_icmp .ne 7, 3) := by decide +kernel
theorem dX8_knots_53 : decode cX8_knots 53 = .ok (.iconst 0, 1) := by decide +kernel
theorem dX8_knots_54 : decode cX8_knots 54 = .ok (.goto 4, 3) := by decide +kernel
theorem dX8_knots_57 : decode cX8_knots 57 = .ok (.iconst 1, 1) := by decide +kernel
theorem dX8_knots_58 : decode cX8_knots 58 = .ok (.iadd, 1) := by decide +kernel
theorem dX8_knots_59 : decode cX8_knots 59 = .ok (.istore_n 1, 1) := by decide +kernel
theorem dX8_knots_60 : decode cX8_knots 60 = .ok (.iinc 2 1, 3) := by decide +kernel
theorem dX8_knots_63 : decode cX8_knots 63 = .ok (.goto (-50), 3) := by decide +kernel
theorem dX8_knots_66 : decode cX8_knots 66 = .ok (.iload_n 1, 1) := by decide +kernel
theorem dX8_knots_67 : decode cX8_knots 67 = .ok (.ireturn, 1) := by decide +kernel
set_option maxHeartbeats 4000000 in
set_option maxRecDepth 100000 in
theorem mX8_knots_L1 {p : Program} {l : Launch} {e : Env} {R : Room} {s : State} {m : MethodId} {args : Array Value} {below : List Frame} {meth : Method} {c : Code} {Q : State → Prop} {D : va_G} {U : zz_U} {A : Nat → Prop} {cells slots : Nat} {ad : Nat → Nat} {X : va_W} {ρ : zz_St} (C : zz_C p l R s m meth c D U A RX8 cX8_knots 3 (some .int) [] 6) (hcR : cells ≤ R.cells) (hsR : slots ≤ R.slots) (σ : zz_St) : ∀ (n : Nat) (many_ : Int32) (k_ : Int32) (q : (Int32 × Int32)), fX8_knots_L1 σ n many_ k_ = some q → (zz_Z p l e R s m args below meth c Q D A 3 cells slots (zz_wm U ad ρ σ X) 66 [(0, .ref (ad 47)), (1, .int q.1), (2, .int q.2)] []) → zz_Z p l e R s m args below meth c Q D A 3 cells slots (zz_wm U ad ρ σ X) 13 [(0, .ref (ad 47)), (1, .int many_), (2, .int k_)] [] := by
  intro n
  induction n with
  | zero => intro many_ k_ q hf; rw [fX8_knots_L1] at hf; cases hf
  | succ n ih =>
    intro many_ k_ q hf kx
    rw [fX8_knots_L1] at hf
    refine zz_iload_n C 2 dX8_knots_13 rfl rfl ?_
    refine zz_aload_n C 0 dX8_knots_14 rfl rfl ?_
    refine zf8_parcels C dX8_knots_15 zw_191 ?_
    refine zz_icmp_ge (tgt := 66) C dX8_knots_18 (by decide) (fun g3 => ?_) (fun g3 => ?_)
    · rw [if_pos g3] at hf
      cases hf
      exact kx
    · rw [if_neg g3] at hf
      refine zz_iload_n C 1 dX8_knots_21 rfl rfl ?_
      obtain ⟨x4, h5, hf⟩ := zz_bind hf
      refine zz_cut 58 [(0, .ref (ad 47)), (1, .int many_), (2, .int k_)] [.int x4, .int many_] (zz_wm U ad ρ σ X) ?_ (fun J6 => ?_)
      · refine zz_iadd C dX8_knots_58 ?_
        obtain ⟨x16, h17, hf⟩ := zz_bind hf
        refine zz_topi (Option.some.inj h17) ?_
        refine zz_istore_n C dX8_knots_59 rfl (by decide) (lv' := [(1, .int x16), (0, .ref (ad 47)), (2, .int k_)]) rfl ?_
        refine zz_iinc (v := (k_ + (1 : Int32))) C 2 dX8_knots_60 rfl (by rfl) (by decide) (lv' := [(2, .int (k_ + (1 : Int32))), (1, .int x16), (0, .ref (ad 47))]) rfl ?_
        refine zz_goto (tgt := 13) C dX8_knots_63 (by decide) ?_
        refine zz_sub [2, 1, 0] rfl ?_
        exact ih x16 (k_ + (1 : Int32)) _ hf kx
      refine zz_aload_n C 0 dX8_knots_22 rfl rfl ?_
      refine zz_aload_n C 0 dX8_knots_23 rfl rfl ?_
      refine zf8_bundles C dX8_knots_24 zw_190 ?_
      refine zz_aload_n C 0 dX8_knots_27 rfl rfl ?_
      refine zf8_order C dX8_knots_28 zw_192 ?_
      refine zz_iload_n C 2 dX8_knots_31 rfl rfl ?_
      obtain ⟨x7, h8, h5⟩ := zz_bind h5
      refine zl_58 C dX8_knots_32 h8 ?_
      obtain ⟨x9, h10, h5⟩ := zz_bind h5
      refine zz_callV1 (As := [.ref (ad 57), .int x7]) (rest := [.int many_]) C 47 (mX8_setOf_a57 σ x7 x9 h10) dX8_knots_33 rfl rfl rfl zw_183 zy_X8_setOf rfl (by decide) (by decide) (Nat.le_of_ble_eq_true rfl) hcR hsR rfl ?_
      refine zz_aload_n C 0 dX8_knots_36 rfl rfl ?_
      refine zz_aload_n C 0 dX8_knots_37 rfl rfl ?_
      refine zf8_heads C dX8_knots_38 zw_170 ?_
      refine zz_aload_n C 0 dX8_knots_41 rfl rfl ?_
      refine zf8_order C dX8_knots_42 zw_192 ?_
      refine zz_iload_n C 2 dX8_knots_45 rfl rfl ?_
      obtain ⟨x11, h12, h5⟩ := zz_bind h5
      refine zl_58 C dX8_knots_46 h12 ?_
      obtain ⟨x13, h14, h5⟩ := zz_bind h5
      refine zz_callV1 (As := [.ref (ad 55), .int x11]) (rest := [.int x9, .int many_]) C 47 (mX8_setOf_a55 σ x11 x13 h14) dX8_knots_47 rfl rfl rfl zw_183 zy_X8_setOf rfl (by decide) (by decide) (Nat.le_of_ble_eq_true rfl) hcR hsR rfl ?_
      refine zz_icmp_ne (tgt := 57) C dX8_knots_50 (by decide) (fun g15 => ?_) (fun g15 => ?_)
      · rw [if_neg g15] at h5
        refine zz_iconst (v := (1 : Int32)) C dX8_knots_57 (by decide) ?_
        cases h5
        exact J6
      · rw [if_pos g15] at h5
        refine zz_iconst (v := (0 : Int32)) C dX8_knots_53 (by decide) ?_
        refine zz_goto (tgt := 58) C dX8_knots_54 (by decide) ?_
        cases h5
        exact J6
set_option maxHeartbeats 4000000 in
set_option maxRecDepth 100000 in
theorem mX8_knots {D : va_G} {U : zz_U} {ad : Nat → Nat} {X : va_W} {ρ : zz_St} (σ : zz_St) (r : (Int32 × zz_St)) (hf : fX8_knots σ = some r) : zz_Met yX8_knots (.code yX8_knots cX8_knots 3 (some .int)) 6 0 0 D U [.ref (ad 47)] (zz_wm U ad ρ σ X) (zz_ok (some (.int r.1)) (zz_wm U ad ρ r.2 X)) zz_noth := by
  unfold fX8_knots at hf
  refine zz_method RX8 rfl (by decide +kernel) (Nat.le_of_ble_eq_true rfl) ?_
  intro p l e s m args below meth c A _ C
  refine zz_lvs (lv1 := [(0, .ref (ad 47))]) rfl ?_
  refine zz_aload_n C 0 dX8_knots_0 rfl rfl ?_
  refine zz_iconst (v := (0 : Int32)) C dX8_knots_1 (by decide) ?_
  refine zp8_thrown C dX8_knots_2 zw_145 ?_
  refine zz_aload_n C 0 dX8_knots_5 rfl rfl ?_
  obtain ⟨x1, h2, hf⟩ := zz_bind hf
  refine zz_callV1 (As := []) (rest := []) C 47 (mX8_makeParcels (zz_u σ 47 0 (0 : Int32)) x1 h2) dX8_knots_6 rfl rfl rfl zw_193 zy_X8_makeParcels rfl (by decide) (by decide) (Nat.le_of_ble_eq_true rfl) (Nat.le_of_ble_eq_true rfl) (Nat.le_of_ble_eq_true rfl) rfl ?_
  refine zz_iconst (v := (0 : Int32)) C dX8_knots_9 (by decide) ?_
  refine zz_istore_n C dX8_knots_10 rfl (by decide) (lv' := [(1, .int (0 : Int32)), (0, .ref (ad 47))]) rfl ?_
  refine zz_iconst (v := (0 : Int32)) C dX8_knots_11 (by decide) ?_
  refine zz_istore_n C dX8_knots_12 rfl (by decide) (lv' := [(2, .int (0 : Int32)), (1, .int (0 : Int32)), (0, .ref (ad 47))]) rfl ?_
  obtain ⟨q18, h19, hf⟩ := zz_bind hf
  refine zz_sub [2, 1, 0] rfl ?_
  refine mX8_knots_L1 C (Nat.le_of_ble_eq_true rfl) (Nat.le_of_ble_eq_true rfl) x1 1000 (0 : Int32) (0 : Int32) q18 h19 ?_
  refine zz_iload_n C 1 dX8_knots_66 rfl rfl ?_
  cases hf
  exact zz_iret C dX8_knots_67 (And.intro rfl rfl) (Nat.le_of_ble_eq_true rfl) (Nat.le_of_ble_eq_true rfl)
theorem dX8_lines_0 : decode cX8_lines 0 = .ok (.aload_n 0, 1) := by decide +kernel
theorem dX8_lines_1 : decode cX8_lines 1 = .ok (.iconst 0, 1) := by decide +kernel
theorem dX8_lines_2 : decode cX8_lines 2 = .ok (.putfield 63, 3) := by decide +kernel
theorem dX8_lines_5 : decode cX8_lines 5 = .ok (.aload_n 0, 1) := by decide +kernel
theorem dX8_lines_6 : decode cX8_lines 6 = .ok (.iload_n 1, 1) := by decide +kernel
theorem dX8_lines_7 : decode cX8_lines 7 = .ok (.invokevirtual 179, 3) := by decide +kernel
theorem dX8_lines_10 : decode cX8_lines 10 = .ok (.ifCond .ne 9, 3) := by decide +kernel
theorem dX8_lines_13 : decode cX8_lines 13 = .ok (.aload_n 0, 1) := by decide +kernel
theorem dX8_lines_14 : decode cX8_lines 14 = .ok (.iconst 1, 1) := by decide +kernel
theorem dX8_lines_15 : decode cX8_lines 15 = .ok (.invokevirtual 73, 3) := by decide +kernel
theorem dX8_lines_18 : decode cX8_lines 18 = .ok (.ireturn, 1) := by decide +kernel
theorem dX8_lines_19 : decode cX8_lines 19 = .ok (.iconst 0, 1) := by decide +kernel
theorem dX8_lines_20 : decode cX8_lines 20 = .ok (.istore_n 2, 1) := by decide +kernel
theorem dX8_lines_21 : decode cX8_lines 21 = .ok (.iconst 0, 1) := by decide +kernel
theorem dX8_lines_22 : decode cX8_lines 22 = .ok (.istore_n 3, 1) := by decide +kernel
theorem dX8_lines_23 : decode cX8_lines 23 = .ok (.iload_n 3, 1) := by decide +kernel
theorem dX8_lines_24 : decode cX8_lines 24 = .ok (.aload_n 0, 1) := by decide +kernel
theorem dX8_lines_25 : decode cX8_lines 25 = .ok (.getfield 66, 3) := by decide +kernel
theorem dX8_lines_28 : decode cX8_lines 28 = .ok (.if_icmp .ge 52, 3) := by decide +kernel
theorem dX8_lines_31 : decode cX8_lines 31 = .ok (.iload_n 2, 1) := by decide +kernel
theorem dX8_lines_32 : decode cX8_lines 32 = .ok (.aload_n 0, 1) := by decide +kernel
theorem dX8_lines_33 : decode cX8_lines 33 = .ok (.getfield 48, 3) := by decide +kernel
theorem dX8_lines_36 : decode cX8_lines 36 = .ok (.iload_n 3, 1) := by decide +kernel
theorem dX8_lines_37 : decode cX8_lines 37 = .ok (.iaload, 1) := by decide +kernel
theorem dX8_lines_38 : decode cX8_lines 38 = .ok (.aload_n 0, 1) := by decide +kernel
theorem dX8_lines_39 : decode cX8_lines 39 = .ok (.getfield 51, 3) := by decide +kernel
theorem dX8_lines_42 : decode cX8_lines 42 = .ok (.iload_n 1, 1) := by decide +kernel
theorem dX8_lines_43 : decode cX8_lines 43 = .ok (.iaload, 1) := by decide +kernel
theorem dX8_lines_44 : decode cX8_lines 44 = .ok (.if_icmp .ne 27, 3) := by decide +kernel
theorem dX8_lines_47 : decode cX8_lines 47 = .ok (.aload_n 0, 1) := by decide +kernel
theorem dX8_lines_48 : decode cX8_lines 48 = .ok (.getfield 9, 3) := by decide +kernel
theorem dX8_lines_51 : decode cX8_lines 51 = .ok (.iconst 4, 1) := by decide +kernel
theorem dX8_lines_52 : decode cX8_lines 52 = .ok (.iload_n 3, 1) := by decide +kernel
theorem dX8_lines_53 : decode cX8_lines 53 = .ok (.imul, 1) := by decide +kernel
theorem dX8_lines_54 : decode cX8_lines 54 = .ok (.iconst 2, 1) := by decide +kernel
theorem dX8_lines_55 : decode cX8_lines 55 = .ok (.iadd, 1) := by decide +kernel
theorem dX8_lines_56 : decode cX8_lines 56 = .ok (.iaload, 1) := by decide +kernel
theorem dX8_lines_57 : decode cX8_lines 57 = .ok (.aload_n 0, 1) := by decide +kernel
theorem dX8_lines_58 : decode cX8_lines 58 = .ok (.getfield 9, 3) := by decide +kernel
theorem dX8_lines_61 : decode cX8_lines 61 = .ok (.iconst 4, 1) := by decide +kernel
theorem dX8_lines_62 : decode cX8_lines 62 = .ok (.iload_n 3, 1) := by decide +kernel
theorem dX8_lines_63 : decode cX8_lines 63 = .ok (.imul, 1) := by decide +kernel
theorem dX8_lines_64 : decode cX8_lines 64 = .ok (.iconst 3, 1) := by decide +kernel
theorem dX8_lines_65 : decode cX8_lines 65 = .ok (.iadd, 1) := by decide +kernel
theorem dX8_lines_66 : decode cX8_lines 66 = .ok (.iaload, 1) := by decide +kernel
theorem dX8_lines_67 : decode cX8_lines 67 = .ok (.iadd, 1) := by decide +kernel
theorem dX8_lines_68 : decode cX8_lines 68 = .ok (.goto 4, 3) := by decide +kernel
theorem dX8_lines_71 : decode cX8_lines 71 = .ok (.iconst 0, 1) := by decide +kernel
theorem dX8_lines_72 : decode cX8_lines 72 = .ok (.iadd, 1) := by decide +kernel
theorem dX8_lines_73 : decode cX8_lines 73 = .ok (.istore_n 2, 1) := by decide +kernel
theorem dX8_lines_74 : decode cX8_lines 74 = .ok (.iinc 3 1, 3) := by decide +kernel
theorem dX8_lines_77 : decode cX8_lines 77 = .ok (.goto (-54), 3) := by decide +kernel
theorem dX8_lines_80 : decode cX8_lines 80 = .ok (.iload_n 2, 1) := by decide +kernel
theorem dX8_lines_81 : decode cX8_lines 81 = .ok (.ireturn, 1) := by decide +kernel
set_option maxHeartbeats 4000000 in
set_option maxRecDepth 100000 in
theorem mX8_lines_L1 {p : Program} {l : Launch} {e : Env} {R : Room} {s : State} {m : MethodId} {args : Array Value} {below : List Frame} {meth : Method} {c : Code} {Q : State → Prop} {D : va_G} {U : zz_U} {A : Nat → Prop} {cells slots : Nat} {ad : Nat → Nat} {X : va_W} {ρ : zz_St} (C : zz_C p l R s m meth c D U A RX8 cX8_lines 4 (some .int) [] 7) (hcR : cells ≤ R.cells) (hsR : slots ≤ R.slots) (σ : zz_St) (parcel_ : Int32) : ∀ (n : Nat) (sum_ : Int32) (p_ : Int32) (q : (Int32 × Int32)), fX8_lines_L1 σ parcel_ n sum_ p_ = some q → (zz_Z p l e R s m args below meth c Q D A 4 cells slots (zz_wm U ad ρ σ X) 80 [(0, .ref (ad 47)), (1, .int parcel_), (2, .int q.1), (3, .int q.2)] []) → zz_Z p l e R s m args below meth c Q D A 4 cells slots (zz_wm U ad ρ σ X) 23 [(0, .ref (ad 47)), (1, .int parcel_), (2, .int sum_), (3, .int p_)] [] := by
  intro n
  induction n with
  | zero => intro sum_ p_ q hf; rw [fX8_lines_L1] at hf; cases hf
  | succ n ih =>
    intro sum_ p_ q hf kx
    rw [fX8_lines_L1] at hf
    refine zz_iload_n C 3 dX8_lines_23 rfl rfl ?_
    refine zz_aload_n C 0 dX8_lines_24 rfl rfl ?_
    refine zf8_pieces C dX8_lines_25 zw_148 ?_
    refine zz_icmp_ge (tgt := 80) C dX8_lines_28 (by decide) (fun g4 => ?_) (fun g4 => ?_)
    · rw [if_pos g4] at hf
      cases hf
      exact kx
    · rw [if_neg g4] at hf
      refine zz_iload_n C 2 dX8_lines_31 rfl rfl ?_
      obtain ⟨x5, h6, hf⟩ := zz_bind hf
      refine zz_cut 72 [(0, .ref (ad 47)), (1, .int parcel_), (2, .int sum_), (3, .int p_)] [.int x5, .int sum_] (zz_wm U ad ρ σ X) ?_ (fun J7 => ?_)
      · refine zz_iadd C dX8_lines_72 ?_
        obtain ⟨x17, h18, hf⟩ := zz_bind hf
        refine zz_topi (Option.some.inj h18) ?_
        refine zz_istore_n C dX8_lines_73 rfl (by decide) (lv' := [(2, .int x17), (0, .ref (ad 47)), (1, .int parcel_), (3, .int p_)]) rfl ?_
        refine zz_iinc (v := (p_ + (1 : Int32))) C 3 dX8_lines_74 rfl (by rfl) (by decide) (lv' := [(3, .int (p_ + (1 : Int32))), (2, .int x17), (0, .ref (ad 47)), (1, .int parcel_)]) rfl ?_
        refine zz_goto (tgt := 23) C dX8_lines_77 (by decide) ?_
        refine zz_sub [2, 3, 1, 0] rfl ?_
        exact ih x17 (p_ + (1 : Int32)) _ hf kx
      refine zz_aload_n C 0 dX8_lines_32 rfl rfl ?_
      refine zf8_bundles C dX8_lines_33 zw_190 ?_
      refine zz_iload_n C 3 dX8_lines_36 rfl rfl ?_
      obtain ⟨x8, h9, h6⟩ := zz_bind h6
      refine zl_57 C dX8_lines_37 h9 ?_
      refine zz_aload_n C 0 dX8_lines_38 rfl rfl ?_
      refine zf8_order C dX8_lines_39 zw_192 ?_
      refine zz_iload_n C 1 dX8_lines_42 rfl rfl ?_
      obtain ⟨x10, h11, h6⟩ := zz_bind h6
      refine zl_58 C dX8_lines_43 h11 ?_
      refine zz_icmp_ne (tgt := 71) C dX8_lines_44 (by decide) (fun g12 => ?_) (fun g12 => ?_)
      · rw [if_neg g12] at h6
        refine zz_iconst (v := (0 : Int32)) C dX8_lines_71 (by decide) ?_
        cases h6
        exact J7
      · rw [if_pos g12] at h6
        refine zz_aload_n C 0 dX8_lines_47 rfl rfl ?_
        refine zf8_places C dX8_lines_48 zw_152 ?_
        refine zz_iconst (v := (4 : Int32)) C dX8_lines_51 (by decide) ?_
        refine zz_iload_n C 3 dX8_lines_52 rfl rfl ?_
        refine zz_imul C dX8_lines_53 ?_
        refine zz_iconst (v := (2 : Int32)) C dX8_lines_54 (by decide) ?_
        refine zz_iadd C dX8_lines_55 ?_
        obtain ⟨x13, h14, h6⟩ := zz_bind h6
        refine zl_48 C dX8_lines_56 h14 ?_
        refine zz_aload_n C 0 dX8_lines_57 rfl rfl ?_
        refine zf8_places C dX8_lines_58 zw_152 ?_
        refine zz_iconst (v := (4 : Int32)) C dX8_lines_61 (by decide) ?_
        refine zz_iload_n C 3 dX8_lines_62 rfl rfl ?_
        refine zz_imul C dX8_lines_63 ?_
        refine zz_iconst (v := (3 : Int32)) C dX8_lines_64 (by decide) ?_
        refine zz_iadd C dX8_lines_65 ?_
        obtain ⟨x15, h16, h6⟩ := zz_bind h6
        refine zl_48 C dX8_lines_66 h16 ?_
        refine zz_iadd C dX8_lines_67 ?_
        refine zz_goto (tgt := 72) C dX8_lines_68 (by decide) ?_
        cases h6
        exact J7
set_option maxHeartbeats 4000000 in
set_option maxRecDepth 100000 in
theorem mX8_lines {D : va_G} {U : zz_U} {ad : Nat → Nat} {X : va_W} {ρ : zz_St} (σ : zz_St) (parcel_ : Int32) (r : (Int32 × zz_St)) (hf : fX8_lines σ parcel_ = some r) : zz_Met yX8_lines (.code yX8_lines cX8_lines 4 (some .int)) 7 0 0 D U [.ref (ad 47), .int parcel_] (zz_wm U ad ρ σ X) (zz_ok (some (.int r.1)) (zz_wm U ad ρ r.2 X)) zz_noth := by
  unfold fX8_lines at hf
  refine zz_method RX8 rfl (by decide +kernel) (Nat.le_of_ble_eq_true rfl) ?_
  intro p l e s m args below meth c A _ C
  refine zz_lvs (lv1 := [(0, .ref (ad 47)), (1, .int parcel_)]) rfl ?_
  refine zz_aload_n C 0 dX8_lines_0 rfl rfl ?_
  refine zz_iconst (v := (0 : Int32)) C dX8_lines_1 (by decide) ?_
  refine zp8_thrown C dX8_lines_2 zw_145 ?_
  refine zz_aload_n C 0 dX8_lines_5 rfl rfl ?_
  refine zz_iload_n C 1 dX8_lines_6 rfl rfl ?_
  obtain ⟨x1, h2, hf⟩ := zz_bind hf
  refine zz_callV1 (As := [.int parcel_]) (rest := []) C 47 (mX8_isParcel (zz_u σ 47 0 (0 : Int32)) parcel_ x1 h2) dX8_lines_7 rfl rfl rfl zw_194 zy_X8_isParcel rfl (by decide) (by decide) (Nat.le_of_ble_eq_true rfl) (Nat.le_of_ble_eq_true rfl) (Nat.le_of_ble_eq_true rfl) rfl ?_
  refine zz_if_ne (tgt := 19) C dX8_lines_10 (by decide) (fun g3 => ?_) (fun g3 => ?_)
  · rw [if_neg g3] at hf
    refine zz_iconst (v := (0 : Int32)) C dX8_lines_19 (by decide) ?_
    refine zz_istore_n C dX8_lines_20 rfl (by decide) (lv' := [(2, .int (0 : Int32)), (0, .ref (ad 47)), (1, .int parcel_)]) rfl ?_
    refine zz_iconst (v := (0 : Int32)) C dX8_lines_21 (by decide) ?_
    refine zz_istore_n C dX8_lines_22 rfl (by decide) (lv' := [(3, .int (0 : Int32)), (2, .int (0 : Int32)), (0, .ref (ad 47)), (1, .int parcel_)]) rfl ?_
    obtain ⟨q19, h20, hf⟩ := zz_bind hf
    refine zz_sub [2, 3, 1, 0] rfl ?_
    refine mX8_lines_L1 C (Nat.le_of_ble_eq_true rfl) (Nat.le_of_ble_eq_true rfl) x1.2 parcel_ 1000 (0 : Int32) (0 : Int32) q19 h20 ?_
    refine zz_iload_n C 2 dX8_lines_80 rfl rfl ?_
    cases hf
    exact zz_iret C dX8_lines_81 (And.intro rfl rfl) (Nat.le_of_ble_eq_true rfl) (Nat.le_of_ble_eq_true rfl)
  · rw [if_pos g3] at hf
    refine zz_aload_n C 0 dX8_lines_13 rfl rfl ?_
    refine zz_iconst (v := (1 : Int32)) C dX8_lines_14 (by decide) ?_
    obtain ⟨x21, h22, hf⟩ := zz_bind hf
    refine zz_callV1 (As := [.int (1 : Int32)]) (rest := []) C 47 (mX8_no x1.2 (1 : Int32) x21 h22) dX8_lines_15 rfl rfl rfl zw_147 zy_X8_no rfl (by decide) (by decide) (Nat.le_of_ble_eq_true rfl) (Nat.le_of_ble_eq_true rfl) (Nat.le_of_ble_eq_true rfl) rfl ?_
    cases hf
    exact zz_iret C dX8_lines_18 (And.intro rfl rfl) (Nat.le_of_ble_eq_true rfl) (Nat.le_of_ble_eq_true rfl)
theorem dX8_isBroken_0 : decode cX8_isBroken 0 = .ok (.aload_n 0, 1) := by decide +kernel
theorem dX8_isBroken_1 : decode cX8_isBroken 1 = .ok (.getfield 22, 3) := by decide +kernel
theorem dX8_isBroken_4 : decode cX8_isBroken 4 = .ok (.iload_n 1, 1) := by decide +kernel
theorem dX8_isBroken_5 : decode cX8_isBroken 5 = .ok (.baload, 1) := by decide +kernel
theorem dX8_isBroken_6 : decode cX8_isBroken 6 = .ok (.ifCond .eq 7, 3) := by decide +kernel
theorem dX8_isBroken_9 : decode cX8_isBroken 9 = .ok (.iconst 1, 1) := by decide +kernel
theorem dX8_isBroken_10 : decode cX8_isBroken 10 = .ok (.goto 4, 3) := by decide +kernel
theorem dX8_isBroken_13 : decode cX8_isBroken 13 = .ok (.iconst 0, 1) := by decide +kernel
theorem dX8_isBroken_14 : decode cX8_isBroken 14 = .ok (.istore_n 3, 1) := by decide +kernel
theorem dX8_isBroken_15 : decode cX8_isBroken 15 = .ok (.aload_n 0, 1) := by decide +kernel
theorem dX8_isBroken_16 : decode cX8_isBroken 16 = .ok (.getfield 26, 3) := by decide +kernel
theorem dX8_isBroken_19 : decode cX8_isBroken 19 = .ok (.iload_n 1, 1) := by decide +kernel
theorem dX8_isBroken_20 : decode cX8_isBroken 20 = .ok (.iaload, 1) := by decide +kernel
theorem dX8_isBroken_21 : decode cX8_isBroken 21 = .ok (.istore 4, 2) := by decide +kernel
theorem dX8_isBroken_23 : decode cX8_isBroken 23 = .ok (.iconst 0, 1) := by decide +kernel
theorem dX8_isBroken_24 : decode cX8_isBroken 24 = .ok (.istore 5, 2) := by decide +kernel
theorem dX8_isBroken_26 : decode cX8_isBroken 26 = .ok (.iload 5, 2) := by decide +kernel
theorem dX8_isBroken_28 : decode cX8_isBroken 28 = .ok (.aload_n 0, 1) := by decide +kernel
theorem dX8_isBroken_29 : decode cX8_isBroken 29 = .ok (.getfield 66, 3) := by decide +kernel
theorem dX8_isBroken_32 : decode cX8_isBroken 32 = .ok (.if_icmp .ge 75, 3) := by decide +kernel
theorem dX8_isBroken_35 : decode cX8_isBroken 35 = .ok (.iload_n 2, 1) := by decide +kernel
theorem dX8_isBroken_36 : decode cX8_isBroken 36 = .ok (.iload 5, 2) := by decide +kernel
theorem dX8_isBroken_38 : decode cX8_isBroken 38 = .ok (.invokestatic 170, 3) := by decide +kernel
theorem dX8_isBroken_41 : decode cX8_isBroken 41 = .ok (.ifCond .ne 6, 3) := by decide +kernel
theorem dX8_isBroken_44 : decode cX8_isBroken 44 = .ok (.goto 57, 3) := by decide +kernel
theorem dX8_isBroken_47 : decode cX8_isBroken 47 = .ok (.iload_n 3, 1) := by decide +kernel
theorem dX8_isBroken_48 : decode cX8_isBroken 48 = .ok (.aload_n 0, 1) := by decide +kernel
theorem dX8_isBroken_49 : decode cX8_isBroken 49 = .ok (.iload 5, 2) := by decide +kernel
theorem dX8_isBroken_51 : decode cX8_isBroken 51 = .ok (.iconst 0, 1) := by decide +kernel
theorem dX8_isBroken_52 : decode cX8_isBroken 52 = .ok (.invokevirtual 85, 3) := by decide +kernel
theorem dX8_isBroken_55 : decode cX8_isBroken 55 = .ok (.iload_n 1, 1) := by decide +kernel
theorem dX8_isBroken_56 : decode cX8_isBroken 56 = .ok (.ishr, 1) := by decide +kernel
theorem dX8_isBroken_57 : decode cX8_isBroken 57 = .ok (.iconst 1, 1) := by decide +kernel
theorem dX8_isBroken_58 : decode cX8_isBroken 58 = .ok (.iand, 1) := by decide +kernel
theorem dX8_isBroken_59 : decode cX8_isBroken 59 = .ok (.aload_n 0, 1) := by decide +kernel
theorem dX8_isBroken_60 : decode cX8_isBroken 60 = .ok (.iload 5, 2) := by decide +kernel
theorem dX8_isBroken_62 : decode cX8_isBroken 62 = .ok (.iconst 1, 1) := by decide +kernel
theorem dX8_isBroken_63 : decode cX8_isBroken 63 = .ok (.invokevirtual 85, 3) := by decide +kernel
theorem dX8_isBroken_66 : decode cX8_isBroken 66 = .ok (.iload_n 1, 1) := by decide +kernel
theorem dX8_isBroken_67 : decode cX8_isBroken 67 = .ok (.ishr, 1) := by decide +kernel
theorem dX8_isBroken_68 : decode cX8_isBroken 68 = .ok (.iconst 1, 1) := by decide +kernel
theorem dX8_isBroken_69 : decode cX8_isBroken 69 = .ok (.iand, 1) := by decide +kernel
theorem dX8_isBroken_70 : decode cX8_isBroken 70 = .ok (.isub, 1) := by decide +kernel
theorem dX8_isBroken_71 : decode cX8_isBroken 71 = .ok (.iadd, 1) := by decide +kernel
theorem dX8_isBroken_72 : decode cX8_isBroken 72 = .ok (.istore_n 3, 1) := by decide +kernel
theorem dX8_isBroken_73 : decode cX8_isBroken 73 = .ok (.iload 4, 2) := by decide +kernel
theorem dX8_isBroken_75 : decode cX8_isBroken 75 = .ok (.aload_n 0, 1) := by decide +kernel
theorem dX8_isBroken_76 : decode cX8_isBroken 76 = .ok (.iload 5, 2) := by decide +kernel
theorem dX8_isBroken_78 : decode cX8_isBroken 78 = .ok (.iconst 2, 1) := by decide +kernel
theorem dX8_isBroken_79 : decode cX8_isBroken 79 = .ok (.invokevirtual 85, 3) := by decide +kernel
theorem dX8_isBroken_82 : decode cX8_isBroken 82 = .ok (.iload_n 1, 1) := by decide +kernel
theorem dX8_isBroken_83 : decode cX8_isBroken 83 = .ok (.ishr, 1) := by decide +kernel
theorem dX8_isBroken_84 : decode cX8_isBroken 84 = .ok (.iconst 1, 1) := by decide +kernel
theorem dX8_isBroken_85 : decode cX8_isBroken 85 = .ok (.iand, 1) := by decide +kernel
theorem dX8_isBroken_86 : decode cX8_isBroken 86 = .ok (.aload_n 0, 1) := by decide +kernel
theorem dX8_isBroken_87 : decode cX8_isBroken 87 = .ok (.iload 5, 2) := by decide +kernel
theorem dX8_isBroken_89 : decode cX8_isBroken 89 = .ok (.iconst 3, 1) := by decide +kernel
theorem dX8_isBroken_90 : decode cX8_isBroken 90 = .ok (.invokevirtual 85, 3) := by decide +kernel
theorem dX8_isBroken_93 : decode cX8_isBroken 93 = .ok (.iload_n 1, 1) := by decide +kernel
theorem dX8_isBroken_94 : decode cX8_isBroken 94 = .ok (.ishr, 1) := by decide +kernel
theorem dX8_isBroken_95 : decode cX8_isBroken 95 = .ok (.iconst 1, 1) := by decide +kernel
theorem dX8_isBroken_96 : decode cX8_isBroken 96 = .ok (.iand, 1) := by decide +kernel
theorem dX8_isBroken_97 : decode cX8_isBroken 97 = .ok (.isub, 1) := by decide +kernel
theorem dX8_isBroken_98 : decode cX8_isBroken 98 = .ok (.iadd, 1) := by decide +kernel
theorem dX8_isBroken_99 : decode cX8_isBroken 99 = .ok (.istore 4, 2) := by decide +kernel
theorem dX8_isBroken_101 : decode cX8_isBroken 101 = .ok (.iinc 5 1, 3) := by decide +kernel
theorem dX8_isBroken_104 : decode cX8_isBroken 104 = .ok (.goto (-78), 3) := by decide +kernel
theorem dX8_isBroken_107 : decode cX8_isBroken 107 = .ok (.iload_n 3, 1) := by decide +kernel
theorem dX8_isBroken_108 : decode cX8_isBroken 108 = .ok (.iconst 1, 1) := by decide +kernel
theorem dX8_isBroken_109 : decode cX8_isBroken 109 = .ok (.if_icmp .gt 13, 3) := by decide +kernel
theorem dX8_isBroken_112 : decode cX8_isBroken 112 = .ok (.iload_n 3, 1) := by decide +kernel
theorem dX8_isBroken_113 : decode cX8_isBroken 113 = .ok (.iconst 1, 1) := by decide +kernel
theorem dX8_isBroken_114 : decode cX8_isBroken 114 = .ok (.if_icmp .ge 12, 3) := by decide +kernel
theorem dX8_isBroken_117 : decode cX8_isBroken 117 = .ok (.iload 4, 2) := by decide +kernel
theorem dX8_isBroken_119 : decode cX8_isBroken 119 = .ok (.ifCond .le 7, 3) := by decide +kernel
theorem dX8_isBroken_122 : decode cX8_isBroken 122 = .ok (.iconst 1, 1) := by decide +kernel
theorem dX8_isBroken_123 : decode cX8_isBroken 123 = .ok (.goto 4, 3) := by decide +kernel
theorem dX8_isBroken_126 : decode cX8_isBroken 126 = .ok (.iconst 0, 1) := by decide +kernel
theorem dX8_isBroken_127 : decode cX8_isBroken 127 = .ok (.ireturn, 1) := by decide +kernel
set_option maxHeartbeats 4000000 in
set_option maxRecDepth 100000 in
theorem mX8_isBroken_L1 {p : Program} {l : Launch} {e : Env} {R : Room} {s : State} {m : MethodId} {args : Array Value} {below : List Frame} {meth : Method} {c : Code} {Q : State → Prop} {D : va_G} {U : zz_U} {A : Nat → Prop} {cells slots : Nat} {ad : Nat → Nat} {X : va_W} {ρ : zz_St} (C : zz_C p l R s m meth c D U A RX8 cX8_isBroken 6 (some .boolean) [] 1) (hcR : cells ≤ R.cells) (hsR : slots ≤ R.slots) (σ : zz_St) (name_ : Int32) (set_ : Int32) : ∀ (n : Nat) (definitions_ : Int32) (uses_ : Int32) (p_ : Int32) (q : (Int32 × Int32 × Int32)), fX8_isBroken_L1 σ name_ set_ n definitions_ uses_ p_ = some q → (zz_Z p l e R s m args below meth c Q D A 6 cells slots (zz_wm U ad ρ σ X) 107 [(0, .ref (ad 47)), (1, .int name_), (2, .int set_), (3, .int q.1), (4, .int q.2.1), (5, .int q.2.2)] []) → zz_Z p l e R s m args below meth c Q D A 6 cells slots (zz_wm U ad ρ σ X) 26 [(0, .ref (ad 47)), (1, .int name_), (2, .int set_), (3, .int definitions_), (4, .int uses_), (5, .int p_)] [] := by
  intro n
  induction n with
  | zero => intro definitions_ uses_ p_ q hf; rw [fX8_isBroken_L1] at hf; cases hf
  | succ n ih =>
    intro definitions_ uses_ p_ q hf kx
    rw [fX8_isBroken_L1] at hf
    refine zz_iload C 5 dX8_isBroken_26 rfl ?_
    refine zz_aload_n C 0 dX8_isBroken_28 rfl rfl ?_
    refine zf8_pieces C dX8_isBroken_29 zw_148 ?_
    refine zz_icmp_ge (tgt := 107) C dX8_isBroken_32 (by decide) (fun g9 => ?_) (fun g9 => ?_)
    · rw [if_pos g9] at hf
      cases hf
      exact kx
    · rw [if_neg g9] at hf
      refine zz_iload_n C 2 dX8_isBroken_35 rfl rfl ?_
      refine zz_iload C 5 dX8_isBroken_36 rfl ?_
      obtain ⟨x10, h11, hf⟩ := zz_bind hf
      refine zz_callS1 (As := [.int set_, .int p_]) (rest := []) C (mX8_has σ set_ p_ x10 h11) dX8_isBroken_38 rfl zw_189 zy_X8_has rfl (by decide) (by decide) (Nat.le_of_ble_eq_true rfl) hcR hsR rfl ?_
      refine zz_if_ne (tgt := 47) C dX8_isBroken_41 (by decide) (fun g12 => ?_) (fun g12 => ?_)
      · rw [if_neg g12] at hf
        refine zz_iload_n C 3 dX8_isBroken_47 rfl rfl ?_
        refine zz_aload_n C 0 dX8_isBroken_48 rfl rfl ?_
        refine zz_iload C 5 dX8_isBroken_49 rfl ?_
        refine zz_iconst (v := (0 : Int32)) C dX8_isBroken_51 (by decide) ?_
        obtain ⟨x13, h14, hf⟩ := zz_bind hf
        refine zz_callV1 (As := [.int p_, .int (0 : Int32)]) (rest := [.int definitions_]) C 47 (mX8_namesOf σ p_ (0 : Int32) x13 h14) dX8_isBroken_52 rfl rfl rfl zw_156 zy_X8_namesOf rfl (by decide) (by decide) (Nat.le_of_ble_eq_true rfl) hcR hsR rfl ?_
        refine zz_iload_n C 1 dX8_isBroken_55 rfl rfl ?_
        refine zz_ishr C dX8_isBroken_56 ?_
        refine zz_iconst (v := (1 : Int32)) C dX8_isBroken_57 (by decide) ?_
        refine zz_iand C dX8_isBroken_58 ?_
        refine zz_aload_n C 0 dX8_isBroken_59 rfl rfl ?_
        refine zz_iload C 5 dX8_isBroken_60 rfl ?_
        refine zz_iconst (v := (1 : Int32)) C dX8_isBroken_62 (by decide) ?_
        obtain ⟨x15, h16, hf⟩ := zz_bind hf
        refine zz_callV1 (As := [.int p_, .int (1 : Int32)]) (rest := [.int ((x13 >>> (name_ &&& 31)) &&& (1 : Int32)), .int definitions_]) C 47 (mX8_namesOf σ p_ (1 : Int32) x15 h16) dX8_isBroken_63 rfl rfl rfl zw_156 zy_X8_namesOf rfl (by decide) (by decide) (Nat.le_of_ble_eq_true rfl) hcR hsR rfl ?_
        refine zz_iload_n C 1 dX8_isBroken_66 rfl rfl ?_
        refine zz_ishr C dX8_isBroken_67 ?_
        refine zz_iconst (v := (1 : Int32)) C dX8_isBroken_68 (by decide) ?_
        refine zz_iand C dX8_isBroken_69 ?_
        refine zz_isub C dX8_isBroken_70 ?_
        refine zz_iadd C dX8_isBroken_71 ?_
        obtain ⟨x17, h18, hf⟩ := zz_bind hf
        refine zz_topi (Option.some.inj h18) ?_
        refine zz_istore_n C dX8_isBroken_72 rfl (by decide) (lv' := [(3, .int x17), (0, .ref (ad 47)), (1, .int name_), (2, .int set_), (4, .int uses_), (5, .int p_)]) rfl ?_
        refine zz_iload C 4 dX8_isBroken_73 rfl ?_
        refine zz_aload_n C 1 dX8_isBroken_75 rfl rfl ?_
        refine zz_iload C 5 dX8_isBroken_76 rfl ?_
        refine zz_iconst (v := (2 : Int32)) C dX8_isBroken_78 (by decide) ?_
        obtain ⟨x19, h20, hf⟩ := zz_bind hf
        refine zz_callV1 (As := [.int p_, .int (2 : Int32)]) (rest := [.int uses_]) C 47 (mX8_namesOf σ p_ (2 : Int32) x19 h20) dX8_isBroken_79 rfl rfl rfl zw_156 zy_X8_namesOf rfl (by decide) (by decide) (Nat.le_of_ble_eq_true rfl) hcR hsR rfl ?_
        refine zz_iload_n C 2 dX8_isBroken_82 rfl rfl ?_
        refine zz_ishr C dX8_isBroken_83 ?_
        refine zz_iconst (v := (1 : Int32)) C dX8_isBroken_84 (by decide) ?_
        refine zz_iand C dX8_isBroken_85 ?_
        refine zz_aload_n C 1 dX8_isBroken_86 rfl rfl ?_
        refine zz_iload C 5 dX8_isBroken_87 rfl ?_
        refine zz_iconst (v := (3 : Int32)) C dX8_isBroken_89 (by decide) ?_
        obtain ⟨x21, h22, hf⟩ := zz_bind hf
        refine zz_callV1 (As := [.int p_, .int (3 : Int32)]) (rest := [.int ((x19 >>> (name_ &&& 31)) &&& (1 : Int32)), .int uses_]) C 47 (mX8_namesOf σ p_ (3 : Int32) x21 h22) dX8_isBroken_90 rfl rfl rfl zw_156 zy_X8_namesOf rfl (by decide) (by decide) (Nat.le_of_ble_eq_true rfl) hcR hsR rfl ?_
        refine zz_iload_n C 2 dX8_isBroken_93 rfl rfl ?_
        refine zz_ishr C dX8_isBroken_94 ?_
        refine zz_iconst (v := (1 : Int32)) C dX8_isBroken_95 (by decide) ?_
        refine zz_iand C dX8_isBroken_96 ?_
        refine zz_isub C dX8_isBroken_97 ?_
        refine zz_iadd C dX8_isBroken_98 ?_
        obtain ⟨x23, h24, hf⟩ := zz_bind hf
        refine zz_topi (Option.some.inj h24) ?_
        refine zz_istore C dX8_isBroken_99 (by decide) (lv' := [(4, .int x23), (3, .int x17), (0, .ref (ad 47)), (1, .int name_), (2, .int set_), (5, .int p_)]) rfl ?_
        refine zz_iinc (v := (p_ + (1 : Int32))) C 5 dX8_isBroken_101 rfl (by rfl) (by decide) (lv' := [(5, .int (p_ + (1 : Int32))), (4, .int x23), (3, .int x17), (0, .ref (ad 47)), (1, .int name_), (2, .int set_)]) rfl ?_
        refine zz_goto (tgt := 26) C dX8_isBroken_104 (by decide) ?_
        refine zz_sub [3, 4, 5, 2, 1, 0] rfl ?_
        exact ih x17 x23 (p_ + (1 : Int32)) _ hf kx
      · rw [if_pos g12] at hf
        refine zz_goto (tgt := 101) C dX8_isBroken_44 (by decide) ?_
        refine zz_iinc (v := (p_ + (1 : Int32))) C 5 dX8_isBroken_101 rfl (by rfl) (by decide) (lv' := [(5, .int (p_ + (1 : Int32))), (0, .ref (ad 47)), (1, .int name_), (2, .int set_), (3, .int definitions_), (4, .int uses_)]) rfl ?_
        refine zz_goto (tgt := 26) C dX8_isBroken_104 (by decide) ?_
        refine zz_sub [1, 2, 3, 4, 5, 0] rfl ?_
        exact ih definitions_ uses_ (p_ + (1 : Int32)) _ hf kx
set_option maxHeartbeats 4000000 in
set_option maxRecDepth 100000 in
theorem mX8_isBroken {D : va_G} {U : zz_U} {ad : Nat → Nat} {X : va_W} {ρ : zz_St} (σ : zz_St) (name_ : Int32) (set_ : Int32) (r : Int32) (hf : fX8_isBroken σ name_ set_ = some r) : zz_Met yX8_isBroken (.code yX8_isBroken cX8_isBroken 6 (some .boolean)) 1 0 0 D U [.ref (ad 47), .int name_, .int set_] (zz_wm U ad ρ σ X) (zz_ok (some (.int r)) (zz_wm U ad ρ σ X)) zz_noth := by
  unfold fX8_isBroken at hf
  refine zz_method RX8 rfl (by decide +kernel) (Nat.le_of_ble_eq_true rfl) ?_
  intro p l e s m args below meth c A _ C
  refine zz_lvs (lv1 := [(0, .ref (ad 47)), (1, .int name_), (2, .int set_)]) rfl ?_
  obtain ⟨x1, h2, hf⟩ := zz_bind hf
  refine zz_cut 14 [(0, .ref (ad 47)), (1, .int name_), (2, .int set_)] [.int x1] (zz_wm U ad ρ σ X) ?_ (fun J3 => ?_)
  · refine zz_istore_n C dX8_isBroken_14 rfl (by decide) (lv' := [(3, .int x1), (0, .ref (ad 47)), (1, .int name_), (2, .int set_)]) rfl ?_
    refine zz_aload_n C 1 dX8_isBroken_15 rfl rfl ?_
    refine zf8_otherUses C dX8_isBroken_16 zw_157 ?_
    refine zz_iload_n C 2 dX8_isBroken_19 rfl rfl ?_
    obtain ⟨x7, h8, hf⟩ := zz_bind hf
    refine zl_53 C dX8_isBroken_20 h8 ?_
    refine zz_istore C dX8_isBroken_21 (by decide) (lv' := [(4, .int x7), (3, .int x1), (0, .ref (ad 47)), (1, .int name_), (2, .int set_)]) rfl ?_
    refine zz_iconst (v := (0 : Int32)) C dX8_isBroken_23 (by decide) ?_
    refine zz_istore C dX8_isBroken_24 (by decide) (lv' := [(5, .int (0 : Int32)), (4, .int x7), (3, .int x1), (0, .ref (ad 47)), (1, .int name_), (2, .int set_)]) rfl ?_
    obtain ⟨q25, h26, hf⟩ := zz_bind hf
    refine zz_sub [3, 4, 5, 2, 1, 0] rfl ?_
    refine mX8_isBroken_L1 C (Nat.le_of_ble_eq_true rfl) (Nat.le_of_ble_eq_true rfl) σ name_ set_ 1000 x1 x7 (0 : Int32) q25 h26 ?_
    obtain ⟨b27, h28, hf⟩ := zz_bind hf
    refine zz_cut 127 [(0, .ref (ad 47)), (1, .int name_), (2, .int set_), (3, .int q25.1), (4, .int q25.2.1), (5, .int q25.2.2)] [.int (zz_bi b27)] (zz_wm U ad ρ σ X) ?_ (fun J29 => ?_)
    · cases hf
      exact zz_zret C dX8_isBroken_127 (zz_bi01 _) (And.intro rfl rfl) (Nat.le_of_ble_eq_true rfl) (Nat.le_of_ble_eq_true rfl)
    refine zz_iload_n C 3 dX8_isBroken_107 rfl rfl ?_
    refine zz_iconst (v := (1 : Int32)) C dX8_isBroken_108 (by decide) ?_
    refine zz_icmp_gt (tgt := 122) C dX8_isBroken_109 (by decide) (fun g30 => ?_) (fun g30 => ?_)
    · rw [if_pos g30] at h28
      refine zz_iconst (v := 1) C dX8_isBroken_122 (by decide) ?_
      refine zz_goto (tgt := 127) C dX8_isBroken_123 (by decide) ?_
      cases h28
      exact J29
    · rw [if_neg g30] at h28
      refine zz_iload_n C 3 dX8_isBroken_112 rfl rfl ?_
      refine zz_iconst (v := (1 : Int32)) C dX8_isBroken_113 (by decide) ?_
      refine zz_icmp_ge (tgt := 126) C dX8_isBroken_114 (by decide) (fun g31 => ?_) (fun g31 => ?_)
      · rw [if_pos g31] at h28
        refine zz_iconst (v := 0) C dX8_isBroken_126 (by decide) ?_
        cases h28
        exact J29
      · rw [if_neg g31] at h28
        refine zz_iload C 4 dX8_isBroken_117 rfl ?_
        refine zz_if_le (tgt := 126) C dX8_isBroken_119 (by decide) (fun g32 => ?_) (fun g32 => ?_)
        · rw [if_pos g32] at h28
          refine zz_iconst (v := 0) C dX8_isBroken_126 (by decide) ?_
          cases h28
          exact J29
        · rw [if_neg g32] at h28
          refine zz_iconst (v := 1) C dX8_isBroken_122 (by decide) ?_
          refine zz_goto (tgt := 127) C dX8_isBroken_123 (by decide) ?_
          cases h28
          exact J29
  refine zz_aload_n C 0 dX8_isBroken_0 rfl rfl ?_
  refine zf8_areDefined C dX8_isBroken_1 zw_158 ?_
  refine zz_iload_n C 1 dX8_isBroken_4 rfl rfl ?_
  obtain ⟨x4, h5, h2⟩ := zz_bind h2
  refine zl_52 C dX8_isBroken_5 h5 ?_
  refine zz_if_eq (tgt := 13) C dX8_isBroken_6 (by decide) (fun g6 => ?_) (fun g6 => ?_)
  · rw [if_pos g6] at h2
    refine zz_iconst (v := (0 : Int32)) C dX8_isBroken_13 (by decide) ?_
    cases h2
    exact J3
  · rw [if_neg g6] at h2
    refine zz_iconst (v := (1 : Int32)) C dX8_isBroken_9 (by decide) ?_
    refine zz_goto (tgt := 14) C dX8_isBroken_10 (by decide) ?_
    cases h2
    exact J3
theorem dX8_brokenBy_0 : decode cX8_brokenBy 0 = .ok (.iconst 0, 1) := by decide +kernel
theorem dX8_brokenBy_1 : decode cX8_brokenBy 1 = .ok (.istore_n 2, 1) := by decide +kernel
theorem dX8_brokenBy_2 : decode cX8_brokenBy 2 = .ok (.iconst 0, 1) := by decide +kernel
theorem dX8_brokenBy_3 : decode cX8_brokenBy 3 = .ok (.istore_n 3, 1) := by decide +kernel
theorem dX8_brokenBy_4 : decode cX8_brokenBy 4 = .ok (.iload_n 3, 1) := by decide +kernel
theorem dX8_brokenBy_5 : decode cX8_brokenBy 5 = .ok (.bipush 16, 2) := by decide +kernel
theorem dX8_brokenBy_7 : decode cX8_brokenBy 7 = .ok (.if_icmp .ge 24, 3) := by decide +kernel
theorem dX8_brokenBy_10 : decode cX8_brokenBy 10 = .ok (.aload_n 0, 1) := by decide +kernel
theorem dX8_brokenBy_11 : decode cX8_brokenBy 11 = .ok (.iload_n 3, 1) := by decide +kernel
theorem dX8_brokenBy_12 : decode cX8_brokenBy 12 = .ok (.iload_n 1, 1) := by decide +kernel
theorem dX8_brokenBy_13 : decode cX8_brokenBy 13 = .ok (.invokevirtual 182, 3) := by decide +kernel
theorem dX8_brokenBy_16 : decode cX8_brokenBy 16 = .ok (.ifCond .eq 9, 3) := by decide +kernel
theorem dX8_brokenBy_19 : decode cX8_brokenBy 19 = .ok (.iload_n 2, 1) := by decide +kernel
theorem dX8_brokenBy_20 : decode cX8_brokenBy 20 = .ok (.iconst 1, 1) := by decide +kernel
theorem dX8_brokenBy_21 : decode cX8_brokenBy 21 = .ok (.iload_n 3, 1) := by decide +kernel
theorem dX8_brokenBy_22 : decode cX8_brokenBy 22 = .ok (.ishl, 1) := by decide +kernel
theorem dX8_brokenBy_23 : decode cX8_brokenBy 23 = .ok (.ior, 1) := by decide +kernel
theorem dX8_brokenBy_24 : decode cX8_brokenBy 24 = .ok (.istore_n 2, 1) := by decide +kernel
theorem dX8_brokenBy_25 : decode cX8_brokenBy 25 = .ok (.iinc 3 1, 3) := by decide +kernel
theorem dX8_brokenBy_28 : decode cX8_brokenBy 28 = .ok (.goto (-24), 3) := by decide +kernel
theorem dX8_brokenBy_31 : decode cX8_brokenBy 31 = .ok (.iload_n 2, 1) := by decide +kernel
theorem dX8_brokenBy_32 : decode cX8_brokenBy 32 = .ok (.ireturn, 1) := by decide +kernel
set_option maxHeartbeats 4000000 in
set_option maxRecDepth 100000 in
theorem mX8_brokenBy_L1 {p : Program} {l : Launch} {e : Env} {R : Room} {s : State} {m : MethodId} {args : Array Value} {below : List Frame} {meth : Method} {c : Code} {Q : State → Prop} {D : va_G} {U : zz_U} {A : Nat → Prop} {cells slots : Nat} {ad : Nat → Nat} {X : va_W} {ρ : zz_St} (C : zz_C p l R s m meth c D U A RX8 cX8_brokenBy 4 (some .int) [] 2) (hcR : cells ≤ R.cells) (hsR : slots ≤ R.slots) (σ : zz_St) (set_ : Int32) : ∀ (n : Nat) (found_ : Int32) (name_ : Int32) (q : (Int32 × Int32)), fX8_brokenBy_L1 σ set_ n found_ name_ = some q → (zz_Z p l e R s m args below meth c Q D A 4 cells slots (zz_wm U ad ρ σ X) 31 [(0, .ref (ad 47)), (1, .int set_), (2, .int q.1), (3, .int q.2)] []) → zz_Z p l e R s m args below meth c Q D A 4 cells slots (zz_wm U ad ρ σ X) 4 [(0, .ref (ad 47)), (1, .int set_), (2, .int found_), (3, .int name_)] [] := by
  intro n
  induction n with
  | zero => intro found_ name_ q hf; rw [fX8_brokenBy_L1] at hf; cases hf
  | succ n ih =>
    intro found_ name_ q hf kx
    rw [fX8_brokenBy_L1] at hf
    refine zz_iload_n C 3 dX8_brokenBy_4 rfl rfl ?_
    refine zz_bipush (v := (16 : Int32)) C dX8_brokenBy_5 (by decide) ?_
    refine zz_icmp_ge (tgt := 31) C dX8_brokenBy_7 (by decide) (fun g1 => ?_) (fun g1 => ?_)
    · rw [if_pos g1] at hf
      cases hf
      exact kx
    · rw [if_neg g1] at hf
      obtain ⟨x2, h3, hf⟩ := zz_bind hf
      refine zz_cut 25 [(0, .ref (ad 47)), (1, .int set_), (2, .int x2), (3, .int name_)] [] (zz_wm U ad ρ σ X) ?_ (fun J4 => ?_)
      · refine zz_iinc (v := (name_ + (1 : Int32))) C 3 dX8_brokenBy_25 rfl (by rfl) (by decide) (lv' := [(3, .int (name_ + (1 : Int32))), (0, .ref (ad 47)), (1, .int set_), (2, .int x2)]) rfl ?_
        refine zz_goto (tgt := 4) C dX8_brokenBy_28 (by decide) ?_
        refine zz_sub [1, 2, 3, 0] rfl ?_
        exact ih x2 (name_ + (1 : Int32)) _ hf kx
      refine zz_aload_n C 0 dX8_brokenBy_10 rfl rfl ?_
      refine zz_iload_n C 3 dX8_brokenBy_11 rfl rfl ?_
      refine zz_iload_n C 1 dX8_brokenBy_12 rfl rfl ?_
      obtain ⟨x5, h6, h3⟩ := zz_bind h3
      refine zz_callV1 (As := [.int name_, .int set_]) (rest := []) C 47 (mX8_isBroken σ name_ set_ x5 h6) dX8_brokenBy_13 rfl rfl rfl zw_195 zy_X8_isBroken rfl (by decide) (by decide) (Nat.le_of_ble_eq_true rfl) hcR hsR rfl ?_
      refine zz_if_eq (tgt := 25) C dX8_brokenBy_16 (by decide) (fun g7 => ?_) (fun g7 => ?_)
      · rw [if_pos g7] at h3
        cases h3
        exact J4
      · rw [if_neg g7] at h3
        refine zz_iload_n C 2 dX8_brokenBy_19 rfl rfl ?_
        refine zz_iconst (v := (1 : Int32)) C dX8_brokenBy_20 (by decide) ?_
        refine zz_iload_n C 3 dX8_brokenBy_21 rfl rfl ?_
        refine zz_ishl C dX8_brokenBy_22 ?_
        refine zz_ior C dX8_brokenBy_23 ?_
        obtain ⟨x8, h9, h3⟩ := zz_bind h3
        refine zz_topi (Option.some.inj h9) ?_
        refine zz_istore_n C dX8_brokenBy_24 rfl (by decide) (lv' := [(2, .int x8), (0, .ref (ad 47)), (1, .int set_), (3, .int name_)]) rfl ?_
        refine zz_sub [1, 2, 0, 3] rfl ?_
        cases h3
        exact J4
set_option maxHeartbeats 4000000 in
set_option maxRecDepth 100000 in
theorem mX8_brokenBy {D : va_G} {U : zz_U} {ad : Nat → Nat} {X : va_W} {ρ : zz_St} (σ : zz_St) (set_ : Int32) (r : Int32) (hf : fX8_brokenBy σ set_ = some r) : zz_Met yX8_brokenBy (.code yX8_brokenBy cX8_brokenBy 4 (some .int)) 2 0 0 D U [.ref (ad 47), .int set_] (zz_wm U ad ρ σ X) (zz_ok (some (.int r)) (zz_wm U ad ρ σ X)) zz_noth := by
  unfold fX8_brokenBy at hf
  refine zz_method RX8 rfl (by decide +kernel) (Nat.le_of_ble_eq_true rfl) ?_
  intro p l e s m args below meth c A _ C
  refine zz_lvs (lv1 := [(0, .ref (ad 47)), (1, .int set_)]) rfl ?_
  refine zz_iconst (v := (0 : Int32)) C dX8_brokenBy_0 (by decide) ?_
  refine zz_istore_n C dX8_brokenBy_1 rfl (by decide) (lv' := [(2, .int (0 : Int32)), (0, .ref (ad 47)), (1, .int set_)]) rfl ?_
  refine zz_iconst (v := (0 : Int32)) C dX8_brokenBy_2 (by decide) ?_
  refine zz_istore_n C dX8_brokenBy_3 rfl (by decide) (lv' := [(3, .int (0 : Int32)), (2, .int (0 : Int32)), (0, .ref (ad 47)), (1, .int set_)]) rfl ?_
  obtain ⟨q10, h11, hf⟩ := zz_bind hf
  refine zz_sub [2, 3, 1, 0] rfl ?_
  refine mX8_brokenBy_L1 C (Nat.le_of_ble_eq_true rfl) (Nat.le_of_ble_eq_true rfl) σ set_ 1000 (0 : Int32) (0 : Int32) q10 h11 ?_
  refine zz_iload_n C 2 dX8_brokenBy_31 rfl rfl ?_
  cases hf
  exact zz_iret C dX8_brokenBy_32 (And.intro rfl rfl) (Nat.le_of_ble_eq_true rfl) (Nat.le_of_ble_eq_true rfl)
theorem dX8_broken_0 : decode cX8_broken 0 = .ok (.aload_n 0, 1) := by decide +kernel
theorem dX8_broken_1 : decode cX8_broken 1 = .ok (.iconst 0, 1) := by decide +kernel
theorem dX8_broken_2 : decode cX8_broken 2 = .ok (.putfield 63, 3) := by decide +kernel
theorem dX8_broken_5 : decode cX8_broken 5 = .ok (.iload_n 1, 1) := by decide +kernel
theorem dX8_broken_6 : decode cX8_broken 6 = .ok (.iconst 0, 1) := by decide +kernel
theorem dX8_broken_7 : decode cX8_broken 7 = .ok (.iconst 1, 1) := by decide +kernel
theorem dX8_broken_8 : decode cX8_broken 8 = .ok (.aload_n 0, 1) := by decide +kernel
theorem dX8_broken_9 : decode cX8_broken 9 = .ok (.getfield 66, 3) := by decide +kernel
theorem dX8_broken_12 : decode cX8_broken 12 = .ok (.ishl, 1) := by decide +kernel
theorem dX8_broken_13 : decode cX8_broken 13 = .ok (.iconst 1, 1) := by decide +kernel
theorem dX8_broken_14 : decode cX8_broken 14 = .ok (.isub, 1) := by decide +kernel
theorem dX8_broken_15 : decode cX8_broken 15 = .ok (.invokestatic 69, 3) := by decide +kernel
theorem dX8_broken_18 : decode cX8_broken 18 = .ok (.ifCond .eq 11, 3) := by decide +kernel
theorem dX8_broken_21 : decode cX8_broken 21 = .ok (.aload_n 0, 1) := by decide +kernel
theorem dX8_broken_22 : decode cX8_broken 22 = .ok (.iload_n 1, 1) := by decide +kernel
theorem dX8_broken_23 : decode cX8_broken 23 = .ok (.invokevirtual 185, 3) := by decide +kernel
theorem dX8_broken_26 : decode cX8_broken 26 = .ok (.goto 8, 3) := by decide +kernel
theorem dX8_broken_29 : decode cX8_broken 29 = .ok (.aload_n 0, 1) := by decide +kernel
theorem dX8_broken_30 : decode cX8_broken 30 = .ok (.iconst 1, 1) := by decide +kernel
theorem dX8_broken_31 : decode cX8_broken 31 = .ok (.invokevirtual 73, 3) := by decide +kernel
theorem dX8_broken_34 : decode cX8_broken 34 = .ok (.ireturn, 1) := by decide +kernel
set_option maxHeartbeats 4000000 in
set_option maxRecDepth 100000 in
theorem mX8_broken {D : va_G} {U : zz_U} {ad : Nat → Nat} {X : va_W} {ρ : zz_St} (σ : zz_St) (set_ : Int32) (r : (Int32 × zz_St)) (hf : fX8_broken σ set_ = some r) : zz_Met yX8_broken (.code yX8_broken cX8_broken 2 (some .int)) 3 0 0 D U [.ref (ad 47), .int set_] (zz_wm U ad ρ σ X) (zz_ok (some (.int r.1)) (zz_wm U ad ρ r.2 X)) zz_noth := by
  unfold fX8_broken at hf
  refine zz_method RX8 rfl (by decide +kernel) (Nat.le_of_ble_eq_true rfl) ?_
  intro p l e s m args below meth c A _ C
  refine zz_lvs (lv1 := [(0, .ref (ad 47)), (1, .int set_)]) rfl ?_
  refine zz_aload_n C 0 dX8_broken_0 rfl rfl ?_
  refine zz_iconst (v := (0 : Int32)) C dX8_broken_1 (by decide) ?_
  refine zp8_thrown C dX8_broken_2 zw_145 ?_
  obtain ⟨x1, h2, hf⟩ := zz_bind hf
  refine zz_cut 34 [(0, .ref (ad 47)), (1, .int set_)] [.int x1.1] (zz_wm U ad ρ x1.2 X) ?_ (fun J3 => ?_)
  · cases hf
    exact zz_iret C dX8_broken_34 (And.intro rfl rfl) (Nat.le_of_ble_eq_true rfl) (Nat.le_of_ble_eq_true rfl)
  refine zz_iload_n C 1 dX8_broken_5 rfl rfl ?_
  refine zz_iconst (v := (0 : Int32)) C dX8_broken_6 (by decide) ?_
  refine zz_iconst (v := (1 : Int32)) C dX8_broken_7 (by decide) ?_
  refine zz_aload_n C 0 dX8_broken_8 rfl rfl ?_
  refine zf8_pieces C dX8_broken_9 zw_148 ?_
  refine zz_ishl C dX8_broken_12 ?_
  refine zz_iconst (v := (1 : Int32)) C dX8_broken_13 (by decide) ?_
  refine zz_isub C dX8_broken_14 ?_
  obtain ⟨x4, h5, h2⟩ := zz_bind h2
  refine zz_callS1 (As := [.int set_, .int (0 : Int32), .int (((1 : Int32) <<< (((zz_u σ 47 0 (0 : Int32)) 47 1) &&& 31)) - (1 : Int32))]) (rest := []) C (mX8_isIn (zz_u σ 47 0 (0 : Int32)) set_ (0 : Int32) (((1 : Int32) <<< (((zz_u σ 47 0 (0 : Int32)) 47 1) &&& 31)) - (1 : Int32)) x4 h5) dX8_broken_15 rfl zw_146 zy_X8_isIn rfl (by decide) (by decide) (Nat.le_of_ble_eq_true rfl) (Nat.le_of_ble_eq_true rfl) (Nat.le_of_ble_eq_true rfl) rfl ?_
  refine zz_if_eq (tgt := 29) C dX8_broken_18 (by decide) (fun g6 => ?_) (fun g6 => ?_)
  · rw [if_pos g6] at h2
    refine zz_aload_n C 0 dX8_broken_29 rfl rfl ?_
    refine zz_iconst (v := (1 : Int32)) C dX8_broken_30 (by decide) ?_
    obtain ⟨x7, h8, h2⟩ := zz_bind h2
    refine zz_callV1 (As := [.int (1 : Int32)]) (rest := []) C 47 (mX8_no (zz_u σ 47 0 (0 : Int32)) (1 : Int32) x7 h8) dX8_broken_31 rfl rfl rfl zw_147 zy_X8_no rfl (by decide) (by decide) (Nat.le_of_ble_eq_true rfl) (Nat.le_of_ble_eq_true rfl) (Nat.le_of_ble_eq_true rfl) rfl ?_
    cases h2
    exact J3
  · rw [if_neg g6] at h2
    refine zz_aload_n C 0 dX8_broken_21 rfl rfl ?_
    refine zz_iload_n C 1 dX8_broken_22 rfl rfl ?_
    obtain ⟨x9, h10, h2⟩ := zz_bind h2
    refine zz_callV1 (As := [.int set_]) (rest := []) C 47 (mX8_brokenBy (zz_u σ 47 0 (0 : Int32)) set_ x9 h10) dX8_broken_23 rfl rfl rfl zw_196 zy_X8_brokenBy rfl (by decide) (by decide) (Nat.le_of_ble_eq_true rfl) (Nat.le_of_ble_eq_true rfl) (Nat.le_of_ble_eq_true rfl) rfl ?_
    refine zz_goto (tgt := 34) C dX8_broken_26 (by decide) ?_
    cases h2
    exact J3
theorem dX8_piecesOf_0 : decode cX8_piecesOf 0 = .ok (.iconst 0, 1) := by decide +kernel
theorem dX8_piecesOf_1 : decode cX8_piecesOf 1 = .ok (.istore_n 2, 1) := by decide +kernel
theorem dX8_piecesOf_2 : decode cX8_piecesOf 2 = .ok (.iconst 0, 1) := by decide +kernel
theorem dX8_piecesOf_3 : decode cX8_piecesOf 3 = .ok (.istore_n 3, 1) := by decide +kernel
theorem dX8_piecesOf_4 : decode cX8_piecesOf 4 = .ok (.iload_n 3, 1) := by decide +kernel
theorem dX8_piecesOf_5 : decode cX8_piecesOf 5 = .ok (.aload_n 0, 1) := by decide +kernel
theorem dX8_piecesOf_6 : decode cX8_piecesOf 6 = .ok (.getfield 173, 3) := by decide +kernel
theorem dX8_piecesOf_9 : decode cX8_piecesOf 9 = .ok (.if_icmp .ge 34, 3) := by decide +kernel
theorem dX8_piecesOf_12 : decode cX8_piecesOf 12 = .ok (.iload_n 1, 1) := by decide +kernel
theorem dX8_piecesOf_13 : decode cX8_piecesOf 13 = .ok (.iload_n 3, 1) := by decide +kernel
theorem dX8_piecesOf_14 : decode cX8_piecesOf 14 = .ok (.invokestatic 170, 3) := by decide +kernel
theorem dX8_piecesOf_17 : decode cX8_piecesOf 17 = .ok (.ifCond .eq 20, 3) := by decide +kernel
theorem dX8_piecesOf_20 : decode cX8_piecesOf 20 = .ok (.iload_n 2, 1) := by decide +kernel
theorem dX8_piecesOf_21 : decode cX8_piecesOf 21 = .ok (.aload_n 0, 1) := by decide +kernel
theorem dX8_piecesOf_22 : decode cX8_piecesOf 22 = .ok (.aload_n 0, 1) := by decide +kernel
theorem dX8_piecesOf_23 : decode cX8_piecesOf 23 = .ok (.getfield 48, 3) := by decide +kernel
theorem dX8_piecesOf_26 : decode cX8_piecesOf 26 = .ok (.aload_n 0, 1) := by decide +kernel
theorem dX8_piecesOf_27 : decode cX8_piecesOf 27 = .ok (.getfield 51, 3) := by decide +kernel
theorem dX8_piecesOf_30 : decode cX8_piecesOf 30 = .ok (.iload_n 3, 1) := by decide +kernel
theorem dX8_piecesOf_31 : decode cX8_piecesOf 31 = .ok (.iaload, 1) := by decide +kernel
theorem dX8_piecesOf_32 : decode cX8_piecesOf 32 = .ok (.invokevirtual 157, 3) := by decide +kernel
theorem dX8_piecesOf_35 : decode cX8_piecesOf 35 = .ok (.ior, 1) := by decide +kernel
theorem dX8_piecesOf_36 : decode cX8_piecesOf 36 = .ok (.istore_n 2, 1) := by decide +kernel
theorem dX8_piecesOf_37 : decode cX8_piecesOf 37 = .ok (.iinc 3 1, 3) := by decide +kernel
theorem dX8_piecesOf_40 : decode cX8_piecesOf 40 = .ok (.goto (-36), 3) := by decide +kernel
theorem dX8_piecesOf_43 : decode cX8_piecesOf 43 = .ok (.iload_n 2, 1) := by decide +kernel
theorem dX8_piecesOf_44 : decode cX8_piecesOf 44 = .ok (.ireturn, 1) := by decide +kernel
set_option maxHeartbeats 4000000 in
set_option maxRecDepth 100000 in
theorem mX8_piecesOf_L1 {p : Program} {l : Launch} {e : Env} {R : Room} {s : State} {m : MethodId} {args : Array Value} {below : List Frame} {meth : Method} {c : Code} {Q : State → Prop} {D : va_G} {U : zz_U} {A : Nat → Prop} {cells slots : Nat} {ad : Nat → Nat} {X : va_W} {ρ : zz_St} (C : zz_C p l R s m meth c D U A RX8 cX8_piecesOf 4 (some .int) [] 1) (hcR : cells ≤ R.cells) (hsR : slots ≤ R.slots) (σ : zz_St) (some_ : Int32) : ∀ (n : Nat) (set_ : Int32) (k_ : Int32) (q : (Int32 × Int32)), fX8_piecesOf_L1 σ some_ n set_ k_ = some q → (zz_Z p l e R s m args below meth c Q D A 4 cells slots (zz_wm U ad ρ σ X) 43 [(0, .ref (ad 47)), (1, .int some_), (2, .int q.1), (3, .int q.2)] []) → zz_Z p l e R s m args below meth c Q D A 4 cells slots (zz_wm U ad ρ σ X) 4 [(0, .ref (ad 47)), (1, .int some_), (2, .int set_), (3, .int k_)] [] := by
  intro n
  induction n with
  | zero => intro set_ k_ q hf; rw [fX8_piecesOf_L1] at hf; cases hf
  | succ n ih =>
    intro set_ k_ q hf kx
    rw [fX8_piecesOf_L1] at hf
    refine zz_iload_n C 3 dX8_piecesOf_4 rfl rfl ?_
    refine zz_aload_n C 0 dX8_piecesOf_5 rfl rfl ?_
    refine zf8_parcels C dX8_piecesOf_6 zw_191 ?_
    refine zz_icmp_ge (tgt := 43) C dX8_piecesOf_9 (by decide) (fun g1 => ?_) (fun g1 => ?_)
    · rw [if_pos g1] at hf
      cases hf
      exact kx
    · rw [if_neg g1] at hf
      obtain ⟨x2, h3, hf⟩ := zz_bind hf
      refine zz_cut 37 [(0, .ref (ad 47)), (1, .int some_), (2, .int x2), (3, .int k_)] [] (zz_wm U ad ρ σ X) ?_ (fun J4 => ?_)
      · refine zz_iinc (v := (k_ + (1 : Int32))) C 3 dX8_piecesOf_37 rfl (by rfl) (by decide) (lv' := [(3, .int (k_ + (1 : Int32))), (0, .ref (ad 47)), (1, .int some_), (2, .int x2)]) rfl ?_
        refine zz_goto (tgt := 4) C dX8_piecesOf_40 (by decide) ?_
        refine zz_sub [1, 2, 3, 0] rfl ?_
        exact ih x2 (k_ + (1 : Int32)) _ hf kx
      refine zz_iload_n C 1 dX8_piecesOf_12 rfl rfl ?_
      refine zz_iload_n C 3 dX8_piecesOf_13 rfl rfl ?_
      obtain ⟨x5, h6, h3⟩ := zz_bind h3
      refine zz_callS1 (As := [.int some_, .int k_]) (rest := []) C (mX8_has σ some_ k_ x5 h6) dX8_piecesOf_14 rfl zw_189 zy_X8_has rfl (by decide) (by decide) (Nat.le_of_ble_eq_true rfl) hcR hsR rfl ?_
      refine zz_if_eq (tgt := 37) C dX8_piecesOf_17 (by decide) (fun g7 => ?_) (fun g7 => ?_)
      · rw [if_pos g7] at h3
        cases h3
        exact J4
      · rw [if_neg g7] at h3
        refine zz_iload_n C 2 dX8_piecesOf_20 rfl rfl ?_
        refine zz_aload_n C 0 dX8_piecesOf_21 rfl rfl ?_
        refine zz_aload_n C 0 dX8_piecesOf_22 rfl rfl ?_
        refine zf8_bundles C dX8_piecesOf_23 zw_190 ?_
        refine zz_aload_n C 0 dX8_piecesOf_26 rfl rfl ?_
        refine zf8_order C dX8_piecesOf_27 zw_192 ?_
        refine zz_iload_n C 3 dX8_piecesOf_30 rfl rfl ?_
        obtain ⟨x8, h9, h3⟩ := zz_bind h3
        refine zl_58 C dX8_piecesOf_31 h9 ?_
        obtain ⟨x10, h11, h3⟩ := zz_bind h3
        refine zz_callV1 (As := [.ref (ad 57), .int x8]) (rest := [.int set_]) C 47 (mX8_setOf_a57 σ x8 x10 h11) dX8_piecesOf_32 rfl rfl rfl zw_183 zy_X8_setOf rfl (by decide) (by decide) (Nat.le_of_ble_eq_true rfl) hcR hsR rfl ?_
        refine zz_ior C dX8_piecesOf_35 ?_
        obtain ⟨x12, h13, h3⟩ := zz_bind h3
        refine zz_topi (Option.some.inj h13) ?_
        refine zz_istore_n C dX8_piecesOf_36 rfl (by decide) (lv' := [(2, .int x12), (0, .ref (ad 47)), (1, .int some_), (3, .int k_)]) rfl ?_
        refine zz_sub [1, 2, 0, 3] rfl ?_
        cases h3
        exact J4
set_option maxHeartbeats 4000000 in
set_option maxRecDepth 100000 in
theorem mX8_piecesOf {D : va_G} {U : zz_U} {ad : Nat → Nat} {X : va_W} {ρ : zz_St} (σ : zz_St) (some_ : Int32) (r : Int32) (hf : fX8_piecesOf σ some_ = some r) : zz_Met yX8_piecesOf (.code yX8_piecesOf cX8_piecesOf 4 (some .int)) 1 0 0 D U [.ref (ad 47), .int some_] (zz_wm U ad ρ σ X) (zz_ok (some (.int r)) (zz_wm U ad ρ σ X)) zz_noth := by
  unfold fX8_piecesOf at hf
  refine zz_method RX8 rfl (by decide +kernel) (Nat.le_of_ble_eq_true rfl) ?_
  intro p l e s m args below meth c A _ C
  refine zz_lvs (lv1 := [(0, .ref (ad 47)), (1, .int some_)]) rfl ?_
  refine zz_iconst (v := (0 : Int32)) C dX8_piecesOf_0 (by decide) ?_
  refine zz_istore_n C dX8_piecesOf_1 rfl (by decide) (lv' := [(2, .int (0 : Int32)), (0, .ref (ad 47)), (1, .int some_)]) rfl ?_
  refine zz_iconst (v := (0 : Int32)) C dX8_piecesOf_2 (by decide) ?_
  refine zz_istore_n C dX8_piecesOf_3 rfl (by decide) (lv' := [(3, .int (0 : Int32)), (2, .int (0 : Int32)), (0, .ref (ad 47)), (1, .int some_)]) rfl ?_
  obtain ⟨q14, h15, hf⟩ := zz_bind hf
  refine zz_sub [2, 3, 1, 0] rfl ?_
  refine mX8_piecesOf_L1 C (Nat.le_of_ble_eq_true rfl) (Nat.le_of_ble_eq_true rfl) σ some_ 1000 (0 : Int32) (0 : Int32) q14 h15 ?_
  refine zz_iload_n C 2 dX8_piecesOf_43 rfl rfl ?_
  cases hf
  exact zz_iret C dX8_piecesOf_44 (And.intro rfl rfl) (Nat.le_of_ble_eq_true rfl) (Nat.le_of_ble_eq_true rfl)
theorem dX8_breakageOf_0 : decode cX8_breakageOf 0 = .ok (.aload_n 0, 1) := by decide +kernel
theorem dX8_breakageOf_1 : decode cX8_breakageOf 1 = .ok (.invokevirtual 176, 3) := by decide +kernel
theorem dX8_breakageOf_4 : decode cX8_breakageOf 4 = .ok (.iconst 0, 1) := by decide +kernel
theorem dX8_breakageOf_5 : decode cX8_breakageOf 5 = .ok (.istore_n 1, 1) := by decide +kernel
theorem dX8_breakageOf_6 : decode cX8_breakageOf 6 = .ok (.iconst 1, 1) := by decide +kernel
theorem dX8_breakageOf_7 : decode cX8_breakageOf 7 = .ok (.istore_n 2, 1) := by decide +kernel
theorem dX8_breakageOf_8 : decode cX8_breakageOf 8 = .ok (.iload_n 2, 1) := by decide +kernel
theorem dX8_breakageOf_9 : decode cX8_breakageOf 9 = .ok (.aload_n 0, 1) := by decide +kernel
theorem dX8_breakageOf_10 : decode cX8_breakageOf 10 = .ok (.getfield 173, 3) := by decide +kernel
theorem dX8_breakageOf_13 : decode cX8_breakageOf 13 = .ok (.if_icmp .gt 28, 3) := by decide +kernel
theorem dX8_breakageOf_16 : decode cX8_breakageOf 16 = .ok (.iload_n 1, 1) := by decide +kernel
theorem dX8_breakageOf_17 : decode cX8_breakageOf 17 = .ok (.aload_n 0, 1) := by decide +kernel
theorem dX8_breakageOf_18 : decode cX8_breakageOf 18 = .ok (.aload_n 0, 1) := by decide +kernel
theorem dX8_breakageOf_19 : decode cX8_breakageOf 19 = .ok (.iconst 1, 1) := by decide +kernel
theorem dX8_breakageOf_20 : decode cX8_breakageOf 20 = .ok (.iload_n 2, 1) := by decide +kernel
theorem dX8_breakageOf_21 : decode cX8_breakageOf 21 = .ok (.ishl, 1) := by decide +kernel
theorem dX8_breakageOf_22 : decode cX8_breakageOf 22 = .ok (.iconst 1, 1) := by decide +kernel
theorem dX8_breakageOf_23 : decode cX8_breakageOf 23 = .ok (.isub, 1) := by decide +kernel
theorem dX8_breakageOf_24 : decode cX8_breakageOf 24 = .ok (.invokevirtual 188, 3) := by decide +kernel
theorem dX8_breakageOf_27 : decode cX8_breakageOf 27 = .ok (.invokevirtual 185, 3) := by decide +kernel
theorem dX8_breakageOf_30 : decode cX8_breakageOf 30 = .ok (.invokestatic 89, 3) := by decide +kernel
theorem dX8_breakageOf_33 : decode cX8_breakageOf 33 = .ok (.iadd, 1) := by decide +kernel
theorem dX8_breakageOf_34 : decode cX8_breakageOf 34 = .ok (.istore_n 1, 1) := by decide +kernel
theorem dX8_breakageOf_35 : decode cX8_breakageOf 35 = .ok (.iinc 2 1, 3) := by decide +kernel
theorem dX8_breakageOf_38 : decode cX8_breakageOf 38 = .ok (.goto (-30), 3) := by decide +kernel
theorem dX8_breakageOf_41 : decode cX8_breakageOf 41 = .ok (.iload_n 1, 1) := by decide +kernel
theorem dX8_breakageOf_42 : decode cX8_breakageOf 42 = .ok (.ireturn, 1) := by decide +kernel
set_option maxHeartbeats 4000000 in
set_option maxRecDepth 100000 in
theorem mX8_breakageOf_L1 {p : Program} {l : Launch} {e : Env} {R : Room} {s : State} {m : MethodId} {args : Array Value} {below : List Frame} {meth : Method} {c : Code} {Q : State → Prop} {D : va_G} {U : zz_U} {A : Nat → Prop} {cells slots : Nat} {ad : Nat → Nat} {X : va_W} {ρ : zz_St} (C : zz_C p l R s m meth c D U A RX8 cX8_breakageOf 3 (some .int) [] 6) (hcR : cells ≤ R.cells) (hsR : slots ≤ R.slots) (σ : zz_St) : ∀ (n : Nat) (sum_ : Int32) (many_ : Int32) (q : (Int32 × Int32)), fX8_breakageOf_L1 σ n sum_ many_ = some q → (zz_Z p l e R s m args below meth c Q D A 3 cells slots (zz_wm U ad ρ σ X) 41 [(0, .ref (ad 47)), (1, .int q.1), (2, .int q.2)] []) → zz_Z p l e R s m args below meth c Q D A 3 cells slots (zz_wm U ad ρ σ X) 8 [(0, .ref (ad 47)), (1, .int sum_), (2, .int many_)] [] := by
  intro n
  induction n with
  | zero => intro sum_ many_ q hf; rw [fX8_breakageOf_L1] at hf; cases hf
  | succ n ih =>
    intro sum_ many_ q hf kx
    rw [fX8_breakageOf_L1] at hf
    refine zz_iload_n C 2 dX8_breakageOf_8 rfl rfl ?_
    refine zz_aload_n C 0 dX8_breakageOf_9 rfl rfl ?_
    refine zf8_parcels C dX8_breakageOf_10 zw_191 ?_
    refine zz_icmp_gt (tgt := 41) C dX8_breakageOf_13 (by decide) (fun g3 => ?_) (fun g3 => ?_)
    · rw [if_pos g3] at hf
      cases hf
      exact kx
    · rw [if_neg g3] at hf
      refine zz_iload_n C 1 dX8_breakageOf_16 rfl rfl ?_
      refine zz_aload_n C 0 dX8_breakageOf_17 rfl rfl ?_
      refine zz_aload_n C 0 dX8_breakageOf_18 rfl rfl ?_
      refine zz_iconst (v := (1 : Int32)) C dX8_breakageOf_19 (by decide) ?_
      refine zz_iload_n C 2 dX8_breakageOf_20 rfl rfl ?_
      refine zz_ishl C dX8_breakageOf_21 ?_
      refine zz_iconst (v := (1 : Int32)) C dX8_breakageOf_22 (by decide) ?_
      refine zz_isub C dX8_breakageOf_23 ?_
      obtain ⟨x4, h5, hf⟩ := zz_bind hf
      refine zz_callV1 (As := [.int (((1 : Int32) <<< (many_ &&& 31)) - (1 : Int32))]) (rest := [.ref (ad 47), .int sum_]) C 47 (mX8_piecesOf σ (((1 : Int32) <<< (many_ &&& 31)) - (1 : Int32)) x4 h5) dX8_breakageOf_24 rfl rfl rfl zw_197 zy_X8_piecesOf rfl (by decide) (by decide) (Nat.le_of_ble_eq_true rfl) hcR hsR rfl ?_
      obtain ⟨x6, h7, hf⟩ := zz_bind hf
      refine zz_callV1 (As := [.int x4]) (rest := [.int sum_]) C 47 (mX8_brokenBy σ x4 x6 h7) dX8_breakageOf_27 rfl rfl rfl zw_196 zy_X8_brokenBy rfl (by decide) (by decide) (Nat.le_of_ble_eq_true rfl) hcR hsR rfl ?_
      obtain ⟨x8, h9, hf⟩ := zz_bind hf
      refine zz_callS1 (As := [.int x6]) (rest := [.int sum_]) C (mJ6_bitCount x6 x8 h9) dX8_breakageOf_30 rfl zw_161 zy_J6_bitCount_0f7a4 rfl (by decide) (by decide) (Nat.le_of_ble_eq_true rfl) hcR hsR rfl ?_
      refine zz_iadd C dX8_breakageOf_33 ?_
      obtain ⟨x10, h11, hf⟩ := zz_bind hf
      refine zz_topi (Option.some.inj h11) ?_
      refine zz_istore_n C dX8_breakageOf_34 rfl (by decide) (lv' := [(1, .int x10), (0, .ref (ad 47)), (2, .int many_)]) rfl ?_
      refine zz_iinc (v := (many_ + (1 : Int32))) C 2 dX8_breakageOf_35 rfl (by rfl) (by decide) (lv' := [(2, .int (many_ + (1 : Int32))), (1, .int x10), (0, .ref (ad 47))]) rfl ?_
      refine zz_goto (tgt := 8) C dX8_breakageOf_38 (by decide) ?_
      refine zz_sub [2, 1, 0] rfl ?_
      exact ih x10 (many_ + (1 : Int32)) _ hf kx
set_option maxHeartbeats 4000000 in
set_option maxRecDepth 100000 in
theorem mX8_breakageOf {D : va_G} {U : zz_U} {ad : Nat → Nat} {X : va_W} {ρ : zz_St} (σ : zz_St) (r : (Int32 × zz_St)) (hf : fX8_breakageOf σ = some r) : zz_Met yX8_breakageOf (.code yX8_breakageOf cX8_breakageOf 3 (some .int)) 6 0 0 D U [.ref (ad 47)] (zz_wm U ad ρ σ X) (zz_ok (some (.int r.1)) (zz_wm U ad ρ r.2 X)) zz_noth := by
  unfold fX8_breakageOf at hf
  refine zz_method RX8 rfl (by decide +kernel) (Nat.le_of_ble_eq_true rfl) ?_
  intro p l e s m args below meth c A _ C
  refine zz_lvs (lv1 := [(0, .ref (ad 47))]) rfl ?_
  refine zz_aload_n C 0 dX8_breakageOf_0 rfl rfl ?_
  obtain ⟨x1, h2, hf⟩ := zz_bind hf
  refine zz_callV1 (As := []) (rest := []) C 47 (mX8_makeParcels σ x1 h2) dX8_breakageOf_1 rfl rfl rfl zw_193 zy_X8_makeParcels rfl (by decide) (by decide) (Nat.le_of_ble_eq_true rfl) (Nat.le_of_ble_eq_true rfl) (Nat.le_of_ble_eq_true rfl) rfl ?_
  refine zz_iconst (v := (0 : Int32)) C dX8_breakageOf_4 (by decide) ?_
  refine zz_istore_n C dX8_breakageOf_5 rfl (by decide) (lv' := [(1, .int (0 : Int32)), (0, .ref (ad 47))]) rfl ?_
  refine zz_iconst (v := (1 : Int32)) C dX8_breakageOf_6 (by decide) ?_
  refine zz_istore_n C dX8_breakageOf_7 rfl (by decide) (lv' := [(2, .int (1 : Int32)), (1, .int (0 : Int32)), (0, .ref (ad 47))]) rfl ?_
  obtain ⟨q12, h13, hf⟩ := zz_bind hf
  refine zz_sub [2, 1, 0] rfl ?_
  refine mX8_breakageOf_L1 C (Nat.le_of_ble_eq_true rfl) (Nat.le_of_ble_eq_true rfl) x1 1000 (0 : Int32) (1 : Int32) q12 h13 ?_
  refine zz_iload_n C 1 dX8_breakageOf_41 rfl rfl ?_
  cases hf
  exact zz_iret C dX8_breakageOf_42 (And.intro rfl rfl) (Nat.le_of_ble_eq_true rfl) (Nat.le_of_ble_eq_true rfl)
theorem dX8_breakage_0 : decode cX8_breakage 0 = .ok (.aload_n 0, 1) := by decide +kernel
theorem dX8_breakage_1 : decode cX8_breakage 1 = .ok (.iconst 0, 1) := by decide +kernel
theorem dX8_breakage_2 : decode cX8_breakage 2 = .ok (.putfield 63, 3) := by decide +kernel
theorem dX8_breakage_5 : decode cX8_breakage 5 = .ok (.aload_n 0, 1) := by decide +kernel
theorem dX8_breakage_6 : decode cX8_breakage 6 = .ok (.invokevirtual 191, 3) := by decide +kernel
theorem dX8_breakage_9 : decode cX8_breakage 9 = .ok (.ireturn, 1) := by decide +kernel
set_option maxHeartbeats 4000000 in
set_option maxRecDepth 100000 in
theorem mX8_breakage {D : va_G} {U : zz_U} {ad : Nat → Nat} {X : va_W} {ρ : zz_St} (σ : zz_St) (r : (Int32 × zz_St)) (hf : fX8_breakage σ = some r) : zz_Met yX8_breakage (.code yX8_breakage cX8_breakage 1 (some .int)) 7 0 0 D U [.ref (ad 47)] (zz_wm U ad ρ σ X) (zz_ok (some (.int r.1)) (zz_wm U ad ρ r.2 X)) zz_noth := by
  unfold fX8_breakage at hf
  refine zz_method RX8 rfl (by decide +kernel) (Nat.le_of_ble_eq_true rfl) ?_
  intro p l e s m args below meth c A _ C
  refine zz_lvs (lv1 := [(0, .ref (ad 47))]) rfl ?_
  refine zz_aload_n C 0 dX8_breakage_0 rfl rfl ?_
  refine zz_iconst (v := (0 : Int32)) C dX8_breakage_1 (by decide) ?_
  refine zp8_thrown C dX8_breakage_2 zw_145 ?_
  refine zz_aload_n C 0 dX8_breakage_5 rfl rfl ?_
  obtain ⟨x1, h2, hf⟩ := zz_bind hf
  refine zz_callV1 (As := []) (rest := []) C 47 (mX8_breakageOf (zz_u σ 47 0 (0 : Int32)) x1 h2) dX8_breakage_6 rfl rfl rfl zw_198 zy_X8_breakageOf rfl (by decide) (by decide) (Nat.le_of_ble_eq_true rfl) (Nat.le_of_ble_eq_true rfl) (Nat.le_of_ble_eq_true rfl) rfl ?_
  cases hf
  exact zz_iret C dX8_breakage_9 (And.intro rfl rfl) (Nat.le_of_ble_eq_true rfl) (Nat.le_of_ble_eq_true rfl)
theorem dX8_findLeast_0 : decode cX8_findLeast 0 = .ok (.iconst 1, 1) := by decide +kernel
theorem dX8_findLeast_1 : decode cX8_findLeast 1 = .ok (.aload_n 0, 1) := by decide +kernel
theorem dX8_findLeast_2 : decode cX8_findLeast 2 = .ok (.getfield 173, 3) := by decide +kernel
theorem dX8_findLeast_5 : decode cX8_findLeast 5 = .ok (.ishl, 1) := by decide +kernel
theorem dX8_findLeast_6 : decode cX8_findLeast 6 = .ok (.iconst 1, 1) := by decide +kernel
theorem dX8_findLeast_7 : decode cX8_findLeast 7 = .ok (.isub, 1) := by decide +kernel
theorem dX8_findLeast_8 : decode cX8_findLeast 8 = .ok (.istore_n 1, 1) := by decide +kernel
theorem dX8_findLeast_9 : decode cX8_findLeast 9 = .ok (.iload_n 1, 1) := by decide +kernel
theorem dX8_findLeast_10 : decode cX8_findLeast 10 = .ok (.istore_n 2, 1) := by decide +kernel
theorem dX8_findLeast_11 : decode cX8_findLeast 11 = .ok (.iload_n 2, 1) := by decide +kernel
theorem dX8_findLeast_12 : decode cX8_findLeast 12 = .ok (.ifCond .lt 104, 3) := by decide +kernel
theorem dX8_findLeast_15 : decode cX8_findLeast 15 = .ok (.aload_n 0, 1) := by decide +kernel
theorem dX8_findLeast_16 : decode cX8_findLeast 16 = .ok (.getfield 57, 3) := by decide +kernel
theorem dX8_findLeast_19 : decode cX8_findLeast 19 = .ok (.iload_n 2, 1) := by decide +kernel
theorem dX8_findLeast_20 : decode cX8_findLeast 20 = .ok (.aload_n 0, 1) := by decide +kernel
theorem dX8_findLeast_21 : decode cX8_findLeast 21 = .ok (.aload_n 0, 1) := by decide +kernel
theorem dX8_findLeast_22 : decode cX8_findLeast 22 = .ok (.iload_n 2, 1) := by decide +kernel
theorem dX8_findLeast_23 : decode cX8_findLeast 23 = .ok (.invokevirtual 188, 3) := by decide +kernel
theorem dX8_findLeast_26 : decode cX8_findLeast 26 = .ok (.invokevirtual 185, 3) := by decide +kernel
theorem dX8_findLeast_29 : decode cX8_findLeast 29 = .ok (.invokestatic 89, 3) := by decide +kernel
theorem dX8_findLeast_32 : decode cX8_findLeast 32 = .ok (.iastore, 1) := by decide +kernel
theorem dX8_findLeast_33 : decode cX8_findLeast 33 = .ok (.aload_n 0, 1) := by decide +kernel
theorem dX8_findLeast_34 : decode cX8_findLeast 34 = .ok (.getfield 60, 3) := by decide +kernel
theorem dX8_findLeast_37 : decode cX8_findLeast 37 = .ok (.iload_n 2, 1) := by decide +kernel
theorem dX8_findLeast_38 : decode cX8_findLeast 38 = .ok (.iload_n 2, 1) := by decide +kernel
theorem dX8_findLeast_39 : decode cX8_findLeast 39 = .ok (.iload_n 1, 1) := by decide +kernel
theorem dX8_findLeast_40 : decode cX8_findLeast 40 = .ok (.if_icmp .ne 7, 3) := by decide +kernel
theorem dX8_findLeast_43 : decode cX8_findLeast 43 = .ok (.iconst 0, 1) := by decide +kernel
theorem dX8_findLeast_44 : decode cX8_findLeast 44 = .ok (.goto 5, 3) := by decide +kernel
theorem dX8_findLeast_47 : decode cX8_findLeast 47 = .ok (.ldc 194, 2) := by decide +kernel
theorem dX8_findLeast_49 : decode cX8_findLeast 49 = .ok (.iastore, 1) := by decide +kernel
theorem dX8_findLeast_50 : decode cX8_findLeast 50 = .ok (.iconst 0, 1) := by decide +kernel
theorem dX8_findLeast_51 : decode cX8_findLeast 51 = .ok (.istore_n 3, 1) := by decide +kernel
theorem dX8_findLeast_52 : decode cX8_findLeast 52 = .ok (.iload_n 3, 1) := by decide +kernel
theorem dX8_findLeast_53 : decode cX8_findLeast 53 = .ok (.aload_n 0, 1) := by decide +kernel
theorem dX8_findLeast_54 : decode cX8_findLeast 54 = .ok (.getfield 173, 3) := by decide +kernel
theorem dX8_findLeast_57 : decode cX8_findLeast 57 = .ok (.if_icmp .ge 53, 3) := by decide +kernel
theorem dX8_findLeast_60 : decode cX8_findLeast 60 = .ok (.iload_n 2, 1) := by decide +kernel
theorem dX8_findLeast_61 : decode cX8_findLeast 61 = .ok (.iload_n 3, 1) := by decide +kernel
theorem dX8_findLeast_62 : decode cX8_findLeast 62 = .ok (.invokestatic 170, 3) := by decide +kernel
theorem dX8_findLeast_65 : decode cX8_findLeast 65 = .ok (.ifCond .ne 39, 3) := by decide +kernel
theorem dX8_findLeast_68 : decode cX8_findLeast 68 = .ok (.aload_n 0, 1) := by decide +kernel
theorem dX8_findLeast_69 : decode cX8_findLeast 69 = .ok (.getfield 60, 3) := by decide +kernel
theorem dX8_findLeast_72 : decode cX8_findLeast 72 = .ok (.iload_n 2, 1) := by decide +kernel
theorem dX8_findLeast_73 : decode cX8_findLeast 73 = .ok (.aload_n 0, 1) := by decide +kernel
theorem dX8_findLeast_74 : decode cX8_findLeast 74 = .ok (.getfield 60, 3) := by decide +kernel
theorem dX8_findLeast_77 : decode cX8_findLeast 77 = .ok (.iload_n 2, 1) := by decide +kernel
theorem dX8_findLeast_78 : decode cX8_findLeast 78 = .ok (.iaload, 1) := by decide +kernel
theorem dX8_findLeast_79 : decode cX8_findLeast 79 = .ok (.aload_n 0, 1) := by decide +kernel
theorem dX8_findLeast_80 : decode cX8_findLeast 80 = .ok (.getfield 57, 3) := by decide +kernel
theorem dX8_findLeast_83 : decode cX8_findLeast 83 = .ok (.iload_n 2, 1) := by decide +kernel
theorem dX8_findLeast_84 : decode cX8_findLeast 84 = .ok (.iconst 1, 1) := by decide +kernel
theorem dX8_findLeast_85 : decode cX8_findLeast 85 = .ok (.iload_n 3, 1) := by decide +kernel
theorem dX8_findLeast_86 : decode cX8_findLeast 86 = .ok (.ishl, 1) := by decide +kernel
theorem dX8_findLeast_87 : decode cX8_findLeast 87 = .ok (.ior, 1) := by decide +kernel
theorem dX8_findLeast_88 : decode cX8_findLeast 88 = .ok (.iaload, 1) := by decide +kernel
theorem dX8_findLeast_89 : decode cX8_findLeast 89 = .ok (.aload_n 0, 1) := by decide +kernel
theorem dX8_findLeast_90 : decode cX8_findLeast 90 = .ok (.getfield 60, 3) := by decide +kernel
theorem dX8_findLeast_93 : decode cX8_findLeast 93 = .ok (.iload_n 2, 1) := by decide +kernel
theorem dX8_findLeast_94 : decode cX8_findLeast 94 = .ok (.iconst 1, 1) := by decide +kernel
theorem dX8_findLeast_95 : decode cX8_findLeast 95 = .ok (.iload_n 3, 1) := by decide +kernel
theorem dX8_findLeast_96 : decode cX8_findLeast 96 = .ok (.ishl, 1) := by decide +kernel
theorem dX8_findLeast_97 : decode cX8_findLeast 97 = .ok (.ior, 1) := by decide +kernel
theorem dX8_findLeast_98 : decode cX8_findLeast 98 = .ok (.iaload, 1) := by decide +kernel
theorem dX8_findLeast_99 : decode cX8_findLeast 99 = .ok (.iadd, 1) := by decide +kernel
theorem dX8_findLeast_100 : decode cX8_findLeast 100 = .ok (.invokestatic 120, 3) := by decide +kernel
theorem dX8_findLeast_103 : decode cX8_findLeast 103 = .ok (.iastore, 1) := by decide +kernel
theorem dX8_findLeast_104 : decode cX8_findLeast 104 = .ok (.iinc 3 1, 3) := by decide +kernel
theorem dX8_findLeast_107 : decode cX8_findLeast 107 = .ok (.goto (-55), 3) := by decide +kernel
theorem dX8_findLeast_110 : decode cX8_findLeast 110 = .ok (.iinc 2 (-1), 3) := by decide +kernel
theorem dX8_findLeast_113 : decode cX8_findLeast 113 = .ok (.goto (-102), 3) := by decide +kernel
theorem dX8_findLeast_116 : decode cX8_findLeast 116 = .ok (.return_, 1) := by decide +kernel
set_option maxHeartbeats 4000000 in
set_option maxRecDepth 100000 in
theorem mX8_findLeast_L2 {p : Program} {l : Launch} {e : Env} {R : Room} {s : State} {m : MethodId} {args : Array Value} {below : List Frame} {meth : Method} {c : Code} {Q : State → Prop} {D : va_G} {U : zz_U} {A : Nat → Prop} {cells slots : Nat} {ad : Nat → Nat} {X : va_W} {ρ : zz_St} (C : zz_C p l R s m meth c D U A RX8 cX8_findLeast 4 none [] 3) (hcR : cells ≤ R.cells) (hsR : slots ≤ R.slots) (all_ : Int32) (some_ : Int32) : ∀ (n : Nat) (k_ : Int32) (σ : zz_St) (q : (Int32 × zz_St)), fX8_findLeast_L2 all_ some_ n k_ σ = some q → (zz_Z p l e R s m args below meth c Q D A 4 cells slots (zz_wm U ad ρ q.2 X) 110 [(0, .ref (ad 47)), (1, .int all_), (2, .int some_), (3, .int q.1)] []) → zz_Z p l e R s m args below meth c Q D A 4 cells slots (zz_wm U ad ρ σ X) 52 [(0, .ref (ad 47)), (1, .int all_), (2, .int some_), (3, .int k_)] [] := by
  intro n
  induction n with
  | zero => intro k_ σ q hf; rw [fX8_findLeast_L2] at hf; cases hf
  | succ n ih =>
    intro k_ σ q hf kx
    rw [fX8_findLeast_L2] at hf
    refine zz_iload_n C 3 dX8_findLeast_52 rfl rfl ?_
    refine zz_aload_n C 0 dX8_findLeast_53 rfl rfl ?_
    refine zf8_parcels C dX8_findLeast_54 zw_191 ?_
    refine zz_icmp_ge (tgt := 110) C dX8_findLeast_57 (by decide) (fun g18 => ?_) (fun g18 => ?_)
    · rw [if_pos g18] at hf
      cases hf
      exact kx
    · rw [if_neg g18] at hf
      obtain ⟨x19, h20, hf⟩ := zz_bind hf
      refine zz_cut 104 [(0, .ref (ad 47)), (1, .int all_), (2, .int some_), (3, .int k_)] [] (zz_wm U ad ρ x19 X) ?_ (fun J21 => ?_)
      · refine zz_iinc (v := (k_ + (1 : Int32))) C 3 dX8_findLeast_104 rfl (by rfl) (by decide) (lv' := [(3, .int (k_ + (1 : Int32))), (0, .ref (ad 47)), (1, .int all_), (2, .int some_)]) rfl ?_
        refine zz_goto (tgt := 52) C dX8_findLeast_107 (by decide) ?_
        refine zz_sub [1, 2, 3, 0] rfl ?_
        exact ih (k_ + (1 : Int32)) x19 _ hf kx
      refine zz_iload_n C 2 dX8_findLeast_60 rfl rfl ?_
      refine zz_iload_n C 3 dX8_findLeast_61 rfl rfl ?_
      obtain ⟨x22, h23, h20⟩ := zz_bind h20
      refine zz_callS1 (As := [.int some_, .int k_]) (rest := []) C (mX8_has σ some_ k_ x22 h23) dX8_findLeast_62 rfl zw_189 zy_X8_has rfl (by decide) (by decide) (Nat.le_of_ble_eq_true rfl) hcR hsR rfl ?_
      refine zz_if_ne (tgt := 104) C dX8_findLeast_65 (by decide) (fun g24 => ?_) (fun g24 => ?_)
      · rw [if_neg g24] at h20
        cases h20
        exact J21
      · rw [if_pos g24] at h20
        refine zz_aload_n C 0 dX8_findLeast_68 rfl rfl ?_
        refine zf8_rests C dX8_findLeast_69 zw_200 ?_
        refine zz_iload_n C 2 dX8_findLeast_72 rfl rfl ?_
        refine zz_aload_n C 0 dX8_findLeast_73 rfl rfl ?_
        refine zf8_rests C dX8_findLeast_74 zw_200 ?_
        refine zz_iload_n C 2 dX8_findLeast_77 rfl rfl ?_
        obtain ⟨x25, h26, h20⟩ := zz_bind h20
        refine zl_61 C dX8_findLeast_78 h26 ?_
        refine zz_aload_n C 0 dX8_findLeast_79 rfl rfl ?_
        refine zf8_counts C dX8_findLeast_80 zw_201 ?_
        refine zz_iload_n C 2 dX8_findLeast_83 rfl rfl ?_
        refine zz_iconst (v := (1 : Int32)) C dX8_findLeast_84 (by decide) ?_
        refine zz_iload_n C 3 dX8_findLeast_85 rfl rfl ?_
        refine zz_ishl C dX8_findLeast_86 ?_
        refine zz_ior C dX8_findLeast_87 ?_
        obtain ⟨x27, h28, h20⟩ := zz_bind h20
        refine zl_60 C dX8_findLeast_88 h28 ?_
        refine zz_aload_n C 0 dX8_findLeast_89 rfl rfl ?_
        refine zf8_rests C dX8_findLeast_90 zw_200 ?_
        refine zz_iload_n C 2 dX8_findLeast_93 rfl rfl ?_
        refine zz_iconst (v := (1 : Int32)) C dX8_findLeast_94 (by decide) ?_
        refine zz_iload_n C 3 dX8_findLeast_95 rfl rfl ?_
        refine zz_ishl C dX8_findLeast_96 ?_
        refine zz_ior C dX8_findLeast_97 ?_
        obtain ⟨x29, h30, h20⟩ := zz_bind h20
        refine zl_61 C dX8_findLeast_98 h30 ?_
        refine zz_iadd C dX8_findLeast_99 ?_
        refine zz_mmin C dX8_findLeast_100 zw_173 zm_min_1 zm_min_2 zm_min_3 (by decide) (Nat.le_of_ble_eq_true rfl) hcR hsR ?_
        obtain ⟨σ31, h32, h20⟩ := zz_bind h20
        refine zs_61 C dX8_findLeast_103 h32 ?_
        cases h20
        exact J21
set_option maxHeartbeats 4000000 in
set_option maxRecDepth 100000 in
theorem mX8_findLeast_L1 {p : Program} {l : Launch} {e : Env} {R : Room} {s : State} {m : MethodId} {args : Array Value} {below : List Frame} {meth : Method} {c : Code} {Q : State → Prop} {D : va_G} {U : zz_U} {A : Nat → Prop} {cells slots : Nat} {ad : Nat → Nat} {X : va_W} {ρ : zz_St} (C : zz_C p l R s m meth c D U A RX8 cX8_findLeast 4 none [] 3) (hcR : cells ≤ R.cells) (hsR : slots ≤ R.slots) (all_ : Int32) : ∀ (n : Nat) (some_ : Int32) (σ : zz_St) (q : (Int32 × zz_St)), fX8_findLeast_L1 all_ n some_ σ = some q → (zz_Z p l e R s m args below meth c Q D A 4 cells slots (zz_wm U ad ρ q.2 X) 116 [(0, .ref (ad 47)), (1, .int all_), (2, .int q.1)] []) → zz_Z p l e R s m args below meth c Q D A 4 cells slots (zz_wm U ad ρ σ X) 11 [(0, .ref (ad 47)), (1, .int all_), (2, .int some_)] [] := by
  intro n
  induction n with
  | zero => intro some_ σ q hf; rw [fX8_findLeast_L1] at hf; cases hf
  | succ n ih =>
    intro some_ σ q hf kx
    rw [fX8_findLeast_L1] at hf
    refine zz_iload_n C 2 dX8_findLeast_11 rfl rfl ?_
    refine zz_if_lt (tgt := 116) C dX8_findLeast_12 (by decide) (fun g3 => ?_) (fun g3 => ?_)
    · rw [if_pos g3] at hf
      cases hf
      exact kx
    · rw [if_neg g3] at hf
      refine zz_aload_n C 0 dX8_findLeast_15 rfl rfl ?_
      refine zf8_counts C dX8_findLeast_16 zw_201 ?_
      refine zz_iload_n C 2 dX8_findLeast_19 rfl rfl ?_
      refine zz_aload_n C 0 dX8_findLeast_20 rfl rfl ?_
      refine zz_aload_n C 0 dX8_findLeast_21 rfl rfl ?_
      refine zz_iload_n C 2 dX8_findLeast_22 rfl rfl ?_
      obtain ⟨x4, h5, hf⟩ := zz_bind hf
      refine zz_callV1 (As := [.int some_]) (rest := [.ref (ad 47), .int some_, .ref (ad 60)]) C 47 (mX8_piecesOf σ some_ x4 h5) dX8_findLeast_23 rfl rfl rfl zw_197 zy_X8_piecesOf rfl (by decide) (by decide) (Nat.le_of_ble_eq_true rfl) hcR hsR rfl ?_
      obtain ⟨x6, h7, hf⟩ := zz_bind hf
      refine zz_callV1 (As := [.int x4]) (rest := [.int some_, .ref (ad 60)]) C 47 (mX8_brokenBy σ x4 x6 h7) dX8_findLeast_26 rfl rfl rfl zw_196 zy_X8_brokenBy rfl (by decide) (by decide) (Nat.le_of_ble_eq_true rfl) hcR hsR rfl ?_
      obtain ⟨x8, h9, hf⟩ := zz_bind hf
      refine zz_callS1 (As := [.int x6]) (rest := [.int some_, .ref (ad 60)]) C (mJ6_bitCount x6 x8 h9) dX8_findLeast_29 rfl zw_161 zy_J6_bitCount_0f7a4 rfl (by decide) (by decide) (Nat.le_of_ble_eq_true rfl) hcR hsR rfl ?_
      obtain ⟨σ10, h11, hf⟩ := zz_bind hf
      refine zs_60 C dX8_findLeast_32 h11 ?_
      refine zz_aload_n C 0 dX8_findLeast_33 rfl rfl ?_
      refine zf8_rests C dX8_findLeast_34 zw_200 ?_
      refine zz_iload_n C 2 dX8_findLeast_37 rfl rfl ?_
      obtain ⟨x12, h13, hf⟩ := zz_bind hf
      refine zz_cut 49 [(0, .ref (ad 47)), (1, .int all_), (2, .int some_)] [.int x12, .int some_, .ref (ad 61)] (zz_wm U ad ρ σ10 X) ?_ (fun J14 => ?_)
      · obtain ⟨σ16, h17, hf⟩ := zz_bind hf
        refine zs_61 C dX8_findLeast_49 h17 ?_
        refine zz_iconst (v := (0 : Int32)) C dX8_findLeast_50 (by decide) ?_
        refine zz_istore_n C dX8_findLeast_51 rfl (by decide) (lv' := [(3, .int (0 : Int32)), (0, .ref (ad 47)), (1, .int all_), (2, .int some_)]) rfl ?_
        obtain ⟨q33, h34, hf⟩ := zz_bind hf
        refine zz_sub [1, 2, 3, 0] rfl ?_
        refine mX8_findLeast_L2 C hcR hsR all_ some_ 1000 (0 : Int32) σ16 q33 h34 ?_
        refine zz_iinc (v := (some_ + (-1 : Int32))) C 2 dX8_findLeast_110 rfl (by rfl) (by decide) (lv' := [(2, .int (some_ + (-1 : Int32))), (0, .ref (ad 47)), (1, .int all_), (3, .int q33.1)]) rfl ?_
        refine zz_goto (tgt := 11) C dX8_findLeast_113 (by decide) ?_
        refine zz_sub [1, 2, 0] rfl ?_
        exact ih (some_ + (-1 : Int32)) q33.2 _ hf kx
      refine zz_iload_n C 2 dX8_findLeast_38 rfl rfl ?_
      refine zz_iload_n C 1 dX8_findLeast_39 rfl rfl ?_
      refine zz_icmp_ne (tgt := 47) C dX8_findLeast_40 (by decide) (fun g15 => ?_) (fun g15 => ?_)
      · rw [if_neg g15] at h13
        refine zz_ldc (v := (2147483647 : Int32)) C dX8_findLeast_47 zw_199 ?_
        cases h13
        exact J14
      · rw [if_pos g15] at h13
        refine zz_iconst (v := (0 : Int32)) C dX8_findLeast_43 (by decide) ?_
        refine zz_goto (tgt := 49) C dX8_findLeast_44 (by decide) ?_
        cases h13
        exact J14
set_option maxHeartbeats 4000000 in
set_option maxRecDepth 100000 in
theorem mX8_findLeast {D : va_G} {U : zz_U} {ad : Nat → Nat} {X : va_W} {ρ : zz_St} (σ : zz_St) (r : zz_St) (hf : fX8_findLeast σ = some r) : zz_Met yX8_findLeast (.code yX8_findLeast cX8_findLeast 4 none) 3 0 0 D U [.ref (ad 47)] (zz_wm U ad ρ σ X) (zz_ok none (zz_wm U ad ρ r X)) zz_noth := by
  unfold fX8_findLeast at hf
  refine zz_method RX8 rfl (by decide +kernel) (Nat.le_of_ble_eq_true rfl) ?_
  intro p l e s m args below meth c A _ C
  refine zz_lvs (lv1 := [(0, .ref (ad 47))]) rfl ?_
  refine zz_iconst (v := (1 : Int32)) C dX8_findLeast_0 (by decide) ?_
  refine zz_aload_n C 0 dX8_findLeast_1 rfl rfl ?_
  refine zf8_parcels C dX8_findLeast_2 zw_191 ?_
  refine zz_ishl C dX8_findLeast_5 ?_
  refine zz_iconst (v := (1 : Int32)) C dX8_findLeast_6 (by decide) ?_
  refine zz_isub C dX8_findLeast_7 ?_
  obtain ⟨x1, h2, hf⟩ := zz_bind hf
  refine zz_topi (Option.some.inj h2) ?_
  refine zz_istore_n C dX8_findLeast_8 rfl (by decide) (lv' := [(1, .int x1), (0, .ref (ad 47))]) rfl ?_
  refine zz_iload_n C 0 dX8_findLeast_9 rfl rfl ?_
  refine zz_istore_n C dX8_findLeast_10 rfl (by decide) (lv' := [(2, .int x1), (1, .int x1), (0, .ref (ad 47))]) rfl ?_
  obtain ⟨q35, h36, hf⟩ := zz_bind hf
  refine zz_sub [2, 1, 0] rfl ?_
  refine mX8_findLeast_L1 C (Nat.le_of_ble_eq_true rfl) (Nat.le_of_ble_eq_true rfl) x1 1000 x1 σ q35 h36 ?_
  cases hf
  exact zz_vret C dX8_findLeast_116 (And.intro rfl rfl) (Nat.le_of_ble_eq_true rfl) (Nat.le_of_ble_eq_true rfl)
theorem dX8_leastBreakage_0 : decode cX8_leastBreakage 0 = .ok (.aload_n 0, 1) := by decide +kernel
theorem dX8_leastBreakage_1 : decode cX8_leastBreakage 1 = .ok (.iconst 0, 1) := by decide +kernel
theorem dX8_leastBreakage_2 : decode cX8_leastBreakage 2 = .ok (.putfield 63, 3) := by decide +kernel
theorem dX8_leastBreakage_5 : decode cX8_leastBreakage 5 = .ok (.aload_n 0, 1) := by decide +kernel
theorem dX8_leastBreakage_6 : decode cX8_leastBreakage 6 = .ok (.invokevirtual 176, 3) := by decide +kernel
theorem dX8_leastBreakage_9 : decode cX8_leastBreakage 9 = .ok (.aload_n 0, 1) := by decide +kernel
theorem dX8_leastBreakage_10 : decode cX8_leastBreakage 10 = .ok (.getfield 173, 3) := by decide +kernel
theorem dX8_leastBreakage_13 : decode cX8_leastBreakage 13 = .ok (.bipush 9, 2) := by decide +kernel
theorem dX8_leastBreakage_15 : decode cX8_leastBreakage 15 = .ok (.if_icmp .le 9, 3) := by decide +kernel
theorem dX8_leastBreakage_18 : decode cX8_leastBreakage 18 = .ok (.aload_n 0, 1) := by decide +kernel
theorem dX8_leastBreakage_19 : decode cX8_leastBreakage 19 = .ok (.iconst 1, 1) := by decide +kernel
theorem dX8_leastBreakage_20 : decode cX8_leastBreakage 20 = .ok (.invokevirtual 73, 3) := by decide +kernel
theorem dX8_leastBreakage_23 : decode cX8_leastBreakage 23 = .ok (.ireturn, 1) := by decide +kernel
theorem dX8_leastBreakage_24 : decode cX8_leastBreakage 24 = .ok (.aload_n 0, 1) := by decide +kernel
theorem dX8_leastBreakage_25 : decode cX8_leastBreakage 25 = .ok (.invokevirtual 195, 3) := by decide +kernel
theorem dX8_leastBreakage_28 : decode cX8_leastBreakage 28 = .ok (.aload_n 0, 1) := by decide +kernel
theorem dX8_leastBreakage_29 : decode cX8_leastBreakage 29 = .ok (.getfield 60, 3) := by decide +kernel
theorem dX8_leastBreakage_32 : decode cX8_leastBreakage 32 = .ok (.iconst 0, 1) := by decide +kernel
theorem dX8_leastBreakage_33 : decode cX8_leastBreakage 33 = .ok (.iaload, 1) := by decide +kernel
theorem dX8_leastBreakage_34 : decode cX8_leastBreakage 34 = .ok (.ireturn, 1) := by decide +kernel
set_option maxHeartbeats 4000000 in
set_option maxRecDepth 100000 in
theorem mX8_leastBreakage {D : va_G} {U : zz_U} {ad : Nat → Nat} {X : va_W} {ρ : zz_St} (σ : zz_St) (r : (Int32 × zz_St)) (hf : fX8_leastBreakage σ = some r) : zz_Met yX8_leastBreakage (.code yX8_leastBreakage cX8_leastBreakage 1 (some .int)) 6 0 0 D U [.ref (ad 47)] (zz_wm U ad ρ σ X) (zz_ok (some (.int r.1)) (zz_wm U ad ρ r.2 X)) zz_noth := by
  unfold fX8_leastBreakage at hf
  refine zz_method RX8 rfl (by decide +kernel) (Nat.le_of_ble_eq_true rfl) ?_
  intro p l e s m args below meth c A _ C
  refine zz_lvs (lv1 := [(0, .ref (ad 47))]) rfl ?_
  refine zz_aload_n C 0 dX8_leastBreakage_0 rfl rfl ?_
  refine zz_iconst (v := (0 : Int32)) C dX8_leastBreakage_1 (by decide) ?_
  refine zp8_thrown C dX8_leastBreakage_2 zw_145 ?_
  refine zz_aload_n C 0 dX8_leastBreakage_5 rfl rfl ?_
  obtain ⟨x1, h2, hf⟩ := zz_bind hf
  refine zz_callV1 (As := []) (rest := []) C 47 (mX8_makeParcels (zz_u σ 47 0 (0 : Int32)) x1 h2) dX8_leastBreakage_6 rfl rfl rfl zw_193 zy_X8_makeParcels rfl (by decide) (by decide) (Nat.le_of_ble_eq_true rfl) (Nat.le_of_ble_eq_true rfl) (Nat.le_of_ble_eq_true rfl) rfl ?_
  refine zz_aload_n C 0 dX8_leastBreakage_9 rfl rfl ?_
  refine zf8_parcels C dX8_leastBreakage_10 zw_191 ?_
  refine zz_bipush (v := (9 : Int32)) C dX8_leastBreakage_13 (by decide) ?_
  refine zz_icmp_le (tgt := 24) C dX8_leastBreakage_15 (by decide) (fun g3 => ?_) (fun g3 => ?_)
  · rw [if_pos g3] at hf
    refine zz_aload_n C 0 dX8_leastBreakage_24 rfl rfl ?_
    obtain ⟨x4, h5, hf⟩ := zz_bind hf
    refine zz_callV1 (As := []) (rest := []) C 47 (mX8_findLeast x1 x4 h5) dX8_leastBreakage_25 rfl rfl rfl zw_202 zy_X8_findLeast rfl (by decide) (by decide) (Nat.le_of_ble_eq_true rfl) (Nat.le_of_ble_eq_true rfl) (Nat.le_of_ble_eq_true rfl) rfl ?_
    refine zz_aload_n C 0 dX8_leastBreakage_28 rfl rfl ?_
    refine zf8_rests C dX8_leastBreakage_29 zw_200 ?_
    refine zz_iconst (v := (0 : Int32)) C dX8_leastBreakage_32 (by decide) ?_
    obtain ⟨x6, h7, hf⟩ := zz_bind hf
    refine zl_61 C dX8_leastBreakage_33 h7 ?_
    cases hf
    exact zz_iret C dX8_leastBreakage_34 (And.intro rfl rfl) (Nat.le_of_ble_eq_true rfl) (Nat.le_of_ble_eq_true rfl)
  · rw [if_neg g3] at hf
    refine zz_aload_n C 0 dX8_leastBreakage_18 rfl rfl ?_
    refine zz_iconst (v := (1 : Int32)) C dX8_leastBreakage_19 (by decide) ?_
    obtain ⟨x8, h9, hf⟩ := zz_bind hf
    refine zz_callV1 (As := [.int (1 : Int32)]) (rest := []) C 47 (mX8_no x1 (1 : Int32) x8 h9) dX8_leastBreakage_20 rfl rfl rfl zw_147 zy_X8_no rfl (by decide) (by decide) (Nat.le_of_ble_eq_true rfl) (Nat.le_of_ble_eq_true rfl) (Nat.le_of_ble_eq_true rfl) rfl ?_
    cases hf
    exact zz_iret C dX8_leastBreakage_23 (And.intro rfl rfl) (Nat.le_of_ble_eq_true rfl) (Nat.le_of_ble_eq_true rfl)
theorem dX8_best_0 : decode cX8_best 0 = .ok (.aload_n 0, 1) := by decide +kernel
theorem dX8_best_1 : decode cX8_best 1 = .ok (.iconst 0, 1) := by decide +kernel
theorem dX8_best_2 : decode cX8_best 2 = .ok (.putfield 63, 3) := by decide +kernel
theorem dX8_best_5 : decode cX8_best 5 = .ok (.aload_n 0, 1) := by decide +kernel
theorem dX8_best_6 : decode cX8_best 6 = .ok (.invokevirtual 176, 3) := by decide +kernel
theorem dX8_best_9 : decode cX8_best 9 = .ok (.aload_n 0, 1) := by decide +kernel
theorem dX8_best_10 : decode cX8_best 10 = .ok (.getfield 173, 3) := by decide +kernel
theorem dX8_best_13 : decode cX8_best 13 = .ok (.bipush 9, 2) := by decide +kernel
theorem dX8_best_15 : decode cX8_best 15 = .ok (.if_icmp .le 9, 3) := by decide +kernel
theorem dX8_best_18 : decode cX8_best 18 = .ok (.aload_n 0, 1) := by decide +kernel
theorem dX8_best_19 : decode cX8_best 19 = .ok (.iconst 1, 1) := by decide +kernel
theorem dX8_best_20 : decode cX8_best 20 = .ok (.invokevirtual 73, 3) := by decide +kernel
theorem dX8_best_23 : decode cX8_best 23 = .ok (.ireturn, 1) := by decide +kernel
theorem dX8_best_24 : decode cX8_best 24 = .ok (.iload_n 1, 1) := by decide +kernel
theorem dX8_best_25 : decode cX8_best 25 = .ok (.iconst 0, 1) := by decide +kernel
theorem dX8_best_26 : decode cX8_best 26 = .ok (.aload_n 0, 1) := by decide +kernel
theorem dX8_best_27 : decode cX8_best 27 = .ok (.getfield 173, 3) := by decide +kernel
theorem dX8_best_30 : decode cX8_best 30 = .ok (.iconst 1, 1) := by decide +kernel
theorem dX8_best_31 : decode cX8_best 31 = .ok (.isub, 1) := by decide +kernel
theorem dX8_best_32 : decode cX8_best 32 = .ok (.invokestatic 69, 3) := by decide +kernel
theorem dX8_best_35 : decode cX8_best 35 = .ok (.ifCond .ne 9, 3) := by decide +kernel
theorem dX8_best_38 : decode cX8_best 38 = .ok (.aload_n 0, 1) := by decide +kernel
theorem dX8_best_39 : decode cX8_best 39 = .ok (.iconst 2, 1) := by decide +kernel
theorem dX8_best_40 : decode cX8_best 40 = .ok (.invokevirtual 73, 3) := by decide +kernel
theorem dX8_best_43 : decode cX8_best 43 = .ok (.ireturn, 1) := by decide +kernel
theorem dX8_best_44 : decode cX8_best 44 = .ok (.aload_n 0, 1) := by decide +kernel
theorem dX8_best_45 : decode cX8_best 45 = .ok (.invokevirtual 195, 3) := by decide +kernel
theorem dX8_best_48 : decode cX8_best 48 = .ok (.iconst 0, 1) := by decide +kernel
theorem dX8_best_49 : decode cX8_best 49 = .ok (.istore_n 2, 1) := by decide +kernel
theorem dX8_best_50 : decode cX8_best 50 = .ok (.iconst 0, 1) := by decide +kernel
theorem dX8_best_51 : decode cX8_best 51 = .ok (.istore_n 3, 1) := by decide +kernel
theorem dX8_best_52 : decode cX8_best 52 = .ok (.iconst 0, 1) := by decide +kernel
theorem dX8_best_53 : decode cX8_best 53 = .ok (.istore 4, 2) := by decide +kernel
theorem dX8_best_55 : decode cX8_best 55 = .ok (.iload 4, 2) := by decide +kernel
theorem dX8_best_57 : decode cX8_best 57 = .ok (.iload_n 1, 1) := by decide +kernel
theorem dX8_best_58 : decode cX8_best 58 = .ok (.if_icmp .gt 61, 3) := by decide +kernel
theorem dX8_best_61 : decode cX8_best 61 = .ok (.iconst 0, 1) := by decide +kernel
theorem dX8_best_62 : decode cX8_best 62 = .ok (.istore_n 3, 1) := by decide +kernel
theorem dX8_best_63 : decode cX8_best 63 = .ok (.iload_n 2, 1) := by decide +kernel
theorem dX8_best_64 : decode cX8_best 64 = .ok (.iload_n 3, 1) := by decide +kernel
theorem dX8_best_65 : decode cX8_best 65 = .ok (.invokestatic 170, 3) := by decide +kernel
theorem dX8_best_68 : decode cX8_best 68 = .ok (.ifCond .ne 33, 3) := by decide +kernel
theorem dX8_best_71 : decode cX8_best 71 = .ok (.aload_n 0, 1) := by decide +kernel
theorem dX8_best_72 : decode cX8_best 72 = .ok (.getfield 57, 3) := by decide +kernel
theorem dX8_best_75 : decode cX8_best 75 = .ok (.iload_n 2, 1) := by decide +kernel
theorem dX8_best_76 : decode cX8_best 76 = .ok (.iconst 1, 1) := by decide +kernel
theorem dX8_best_77 : decode cX8_best 77 = .ok (.iload_n 3, 1) := by decide +kernel
theorem dX8_best_78 : decode cX8_best 78 = .ok (.ishl, 1) := by decide +kernel
theorem dX8_best_79 : decode cX8_best 79 = .ok (.ior, 1) := by decide +kernel
theorem dX8_best_80 : decode cX8_best 80 = .ok (.iaload, 1) := by decide +kernel
theorem dX8_best_81 : decode cX8_best 81 = .ok (.aload_n 0, 1) := by decide +kernel
theorem dX8_best_82 : decode cX8_best 82 = .ok (.getfield 60, 3) := by decide +kernel
theorem dX8_best_85 : decode cX8_best 85 = .ok (.iload_n 2, 1) := by decide +kernel
theorem dX8_best_86 : decode cX8_best 86 = .ok (.iconst 1, 1) := by decide +kernel
theorem dX8_best_87 : decode cX8_best 87 = .ok (.iload_n 3, 1) := by decide +kernel
theorem dX8_best_88 : decode cX8_best 88 = .ok (.ishl, 1) := by decide +kernel
theorem dX8_best_89 : decode cX8_best 89 = .ok (.ior, 1) := by decide +kernel
theorem dX8_best_90 : decode cX8_best 90 = .ok (.iaload, 1) := by decide +kernel
theorem dX8_best_91 : decode cX8_best 91 = .ok (.iadd, 1) := by decide +kernel
theorem dX8_best_92 : decode cX8_best 92 = .ok (.aload_n 0, 1) := by decide +kernel
theorem dX8_best_93 : decode cX8_best 93 = .ok (.getfield 60, 3) := by decide +kernel
theorem dX8_best_96 : decode cX8_best 96 = .ok (.iload_n 2, 1) := by decide +kernel
theorem dX8_best_97 : decode cX8_best 97 = .ok (.iaload, 1) := by decide +kernel
theorem dX8_best_98 : decode cX8_best 98 = .ok (.if_icmp .eq 9, 3) := by decide +kernel
theorem dX8_best_101 : decode cX8_best 101 = .ok (.iinc 3 1, 3) := by decide +kernel
theorem dX8_best_104 : decode cX8_best 104 = .ok (.goto (-41), 3) := by decide +kernel
theorem dX8_best_107 : decode cX8_best 107 = .ok (.iload_n 2, 1) := by decide +kernel
theorem dX8_best_108 : decode cX8_best 108 = .ok (.iconst 1, 1) := by decide +kernel
theorem dX8_best_109 : decode cX8_best 109 = .ok (.iload_n 3, 1) := by decide +kernel
theorem dX8_best_110 : decode cX8_best 110 = .ok (.ishl, 1) := by decide +kernel
theorem dX8_best_111 : decode cX8_best 111 = .ok (.ior, 1) := by decide +kernel
theorem dX8_best_112 : decode cX8_best 112 = .ok (.istore_n 2, 1) := by decide +kernel
theorem dX8_best_113 : decode cX8_best 113 = .ok (.iinc 4 1, 3) := by decide +kernel
theorem dX8_best_116 : decode cX8_best 116 = .ok (.goto (-61), 3) := by decide +kernel
theorem dX8_best_119 : decode cX8_best 119 = .ok (.iload_n 3, 1) := by decide +kernel
theorem dX8_best_120 : decode cX8_best 120 = .ok (.ireturn, 1) := by decide +kernel
set_option maxHeartbeats 4000000 in
set_option maxRecDepth 100000 in
theorem mX8_best_L2 {p : Program} {l : Launch} {e : Env} {R : Room} {s : State} {m : MethodId} {args : Array Value} {below : List Frame} {meth : Method} {c : Code} {Q : State → Prop} {D : va_G} {U : zz_U} {A : Nat → Prop} {cells slots : Nat} {ad : Nat → Nat} {X : va_W} {ρ : zz_St} (C : zz_C p l R s m meth c D U A RX8 cX8_best 5 (some .int) [] 6) (hcR : cells ≤ R.cells) (hsR : slots ≤ R.slots) (σ : zz_St) (place_ : Int32) (some_ : Int32) (k_ : Int32) : ∀ (n : Nat) (chosen_ : Int32) (q : (Int32)), fX8_best_L2 σ place_ some_ k_ n chosen_ = some q → (zz_Z p l e R s m args below meth c Q D A 5 cells slots (zz_wm U ad ρ σ X) 107 [(0, .ref (ad 47)), (1, .int place_), (2, .int some_), (3, .int q), (4, .int k_)] []) → zz_Z p l e R s m args below meth c Q D A 5 cells slots (zz_wm U ad ρ σ X) 63 [(0, .ref (ad 47)), (1, .int place_), (2, .int some_), (3, .int chosen_), (4, .int k_)] [] := by
  intro n
  induction n with
  | zero => intro chosen_ q hf; rw [fX8_best_L2] at hf; cases hf
  | succ n ih =>
    intro chosen_ q hf kx
    rw [fX8_best_L2] at hf
    obtain ⟨b10, h11, hf⟩ := zz_bind hf
    refine zz_cutI (P := b10 = true) 101 [(0, .ref (ad 47)), (1, .int place_), (2, .int some_), (3, .int chosen_), (4, .int k_)] [] (zz_wm U ad ρ σ X) (fun g14 => ?_) (fun J12 => ?_)
    · rw [if_pos g14] at hf
      refine zz_iinc (v := (chosen_ + (1 : Int32))) C 3 dX8_best_101 rfl (by rfl) (by decide) (lv' := [(3, .int (chosen_ + (1 : Int32))), (0, .ref (ad 47)), (1, .int place_), (2, .int some_), (4, .int k_)]) rfl ?_
      refine zz_goto (tgt := 63) C dX8_best_104 (by decide) ?_
      refine zz_sub [1, 2, 3, 0, 4] rfl ?_
      exact ih (chosen_ + (1 : Int32)) _ hf kx
    refine zz_cutI (P := b10 = false) 107 [(0, .ref (ad 47)), (1, .int place_), (2, .int some_), (3, .int chosen_), (4, .int k_)] [] (zz_wm U ad ρ σ X) (fun g14 => ?_) (fun J13 => ?_)
    · rw [if_neg (show ¬ b10 = true by rw [g14]; decide)] at hf
      cases hf
      exact kx
    refine zz_iload_n C 2 dX8_best_63 rfl rfl ?_
    refine zz_iload_n C 3 dX8_best_64 rfl rfl ?_
    obtain ⟨x15, h16, h11⟩ := zz_bind h11
    refine zz_callS1 (As := [.int some_, .int chosen_]) (rest := []) C (mX8_has σ some_ chosen_ x15 h16) dX8_best_65 rfl zw_189 zy_X8_has rfl (by decide) (by decide) (Nat.le_of_ble_eq_true rfl) hcR hsR rfl ?_
    refine zz_if_ne (tgt := 101) C dX8_best_68 (by decide) (fun g17 => ?_) (fun g17 => ?_)
    · rw [if_neg g17] at h11
      cases h11
      exact J12 rfl
    · rw [if_pos g17] at h11
      refine zz_aload_n C 0 dX8_best_71 rfl rfl ?_
      refine zf8_counts C dX8_best_72 zw_201 ?_
      refine zz_iload_n C 2 dX8_best_75 rfl rfl ?_
      refine zz_iconst (v := (1 : Int32)) C dX8_best_76 (by decide) ?_
      refine zz_iload_n C 3 dX8_best_77 rfl rfl ?_
      refine zz_ishl C dX8_best_78 ?_
      refine zz_ior C dX8_best_79 ?_
      obtain ⟨x18, h19, h11⟩ := zz_bind h11
      refine zl_60 C dX8_best_80 h19 ?_
      refine zz_aload_n C 0 dX8_best_81 rfl rfl ?_
      refine zf8_rests C dX8_best_82 zw_200 ?_
      refine zz_iload_n C 2 dX8_best_85 rfl rfl ?_
      refine zz_iconst (v := (1 : Int32)) C dX8_best_86 (by decide) ?_
      refine zz_iload_n C 3 dX8_best_87 rfl rfl ?_
      refine zz_ishl C dX8_best_88 ?_
      refine zz_ior C dX8_best_89 ?_
      obtain ⟨x20, h21, h11⟩ := zz_bind h11
      refine zl_61 C dX8_best_90 h21 ?_
      refine zz_iadd C dX8_best_91 ?_
      refine zz_aload_n C 0 dX8_best_92 rfl rfl ?_
      refine zf8_rests C dX8_best_93 zw_200 ?_
      refine zz_iload_n C 2 dX8_best_96 rfl rfl ?_
      obtain ⟨x22, h23, h11⟩ := zz_bind h11
      refine zl_61 C dX8_best_97 h23 ?_
      refine zz_icmp_eq (tgt := 107) C dX8_best_98 (by decide) (fun g24 => ?_) (fun g24 => ?_)
      · rw [if_pos g24] at h11
        cases h11
        exact J13 rfl
      · rw [if_neg g24] at h11
        cases h11
        exact J12 rfl
set_option maxHeartbeats 4000000 in
set_option maxRecDepth 100000 in
theorem mX8_best_L1 {p : Program} {l : Launch} {e : Env} {R : Room} {s : State} {m : MethodId} {args : Array Value} {below : List Frame} {meth : Method} {c : Code} {Q : State → Prop} {D : va_G} {U : zz_U} {A : Nat → Prop} {cells slots : Nat} {ad : Nat → Nat} {X : va_W} {ρ : zz_St} (C : zz_C p l R s m meth c D U A RX8 cX8_best 5 (some .int) [] 6) (hcR : cells ≤ R.cells) (hsR : slots ≤ R.slots) (σ : zz_St) (place_ : Int32) : ∀ (n : Nat) (some_ : Int32) (chosen_ : Int32) (k_ : Int32) (q : (Int32 × Int32 × Int32)), fX8_best_L1 σ place_ n some_ chosen_ k_ = some q → (zz_Z p l e R s m args below meth c Q D A 5 cells slots (zz_wm U ad ρ σ X) 119 [(0, .ref (ad 47)), (1, .int place_), (2, .int q.1), (3, .int q.2.1), (4, .int q.2.2)] []) → zz_Z p l e R s m args below meth c Q D A 5 cells slots (zz_wm U ad ρ σ X) 55 [(0, .ref (ad 47)), (1, .int place_), (2, .int some_), (3, .int chosen_), (4, .int k_)] [] := by
  intro n
  induction n with
  | zero => intro some_ chosen_ k_ q hf; rw [fX8_best_L1] at hf; cases hf
  | succ n ih =>
    intro some_ chosen_ k_ q hf kx
    rw [fX8_best_L1] at hf
    refine zz_iload C 4 dX8_best_55 rfl ?_
    refine zz_iload_n C 1 dX8_best_57 rfl rfl ?_
    refine zz_icmp_gt (tgt := 119) C dX8_best_58 (by decide) (fun g9 => ?_) (fun g9 => ?_)
    · rw [if_pos g9] at hf
      cases hf
      exact kx
    · rw [if_neg g9] at hf
      refine zz_iconst (v := (0 : Int32)) C dX8_best_61 (by decide) ?_
      refine zz_istore_n C dX8_best_62 rfl (by decide) (lv' := [(3, .int (0 : Int32)), (0, .ref (ad 47)), (1, .int place_), (2, .int some_), (4, .int k_)]) rfl ?_
      obtain ⟨q25, h26, hf⟩ := zz_bind hf
      refine zz_sub [1, 2, 3, 0, 4] rfl ?_
      refine mX8_best_L2 C hcR hsR σ place_ some_ k_ 1000 (0 : Int32) q25 h26 ?_
      refine zz_iload_n C 2 dX8_best_107 rfl rfl ?_
      refine zz_iconst (v := (1 : Int32)) C dX8_best_108 (by decide) ?_
      refine zz_iload_n C 3 dX8_best_109 rfl rfl ?_
      refine zz_ishl C dX8_best_110 ?_
      refine zz_ior C dX8_best_111 ?_
      obtain ⟨x27, h28, hf⟩ := zz_bind hf
      refine zz_topi (Option.some.inj h28) ?_
      refine zz_istore_n C dX8_best_112 rfl (by decide) (lv' := [(2, .int x27), (0, .ref (ad 47)), (1, .int place_), (3, .int q25), (4, .int k_)]) rfl ?_
      refine zz_iinc (v := (k_ + (1 : Int32))) C 4 dX8_best_113 rfl (by rfl) (by decide) (lv' := [(4, .int (k_ + (1 : Int32))), (2, .int x27), (0, .ref (ad 47)), (1, .int place_), (3, .int q25)]) rfl ?_
      refine zz_goto (tgt := 55) C dX8_best_116 (by decide) ?_
      refine zz_sub [2, 3, 1, 4, 0] rfl ?_
      exact ih x27 q25 (k_ + (1 : Int32)) _ hf kx
set_option maxHeartbeats 4000000 in
set_option maxRecDepth 100000 in
theorem mX8_best {D : va_G} {U : zz_U} {ad : Nat → Nat} {X : va_W} {ρ : zz_St} (σ : zz_St) (place_ : Int32) (r : (Int32 × zz_St)) (hf : fX8_best σ place_ = some r) : zz_Met yX8_best (.code yX8_best cX8_best 5 (some .int)) 6 0 0 D U [.ref (ad 47), .int place_] (zz_wm U ad ρ σ X) (zz_ok (some (.int r.1)) (zz_wm U ad ρ r.2 X)) zz_noth := by
  unfold fX8_best at hf
  refine zz_method RX8 rfl (by decide +kernel) (Nat.le_of_ble_eq_true rfl) ?_
  intro p l e s m args below meth c A _ C
  refine zz_lvs (lv1 := [(0, .ref (ad 47)), (1, .int place_)]) rfl ?_
  refine zz_aload_n C 0 dX8_best_0 rfl rfl ?_
  refine zz_iconst (v := (0 : Int32)) C dX8_best_1 (by decide) ?_
  refine zp8_thrown C dX8_best_2 zw_145 ?_
  refine zz_aload_n C 0 dX8_best_5 rfl rfl ?_
  obtain ⟨x1, h2, hf⟩ := zz_bind hf
  refine zz_callV1 (As := []) (rest := []) C 47 (mX8_makeParcels (zz_u σ 47 0 (0 : Int32)) x1 h2) dX8_best_6 rfl rfl rfl zw_193 zy_X8_makeParcels rfl (by decide) (by decide) (Nat.le_of_ble_eq_true rfl) (Nat.le_of_ble_eq_true rfl) (Nat.le_of_ble_eq_true rfl) rfl ?_
  refine zz_aload_n C 0 dX8_best_9 rfl rfl ?_
  refine zf8_parcels C dX8_best_10 zw_191 ?_
  refine zz_bipush (v := (9 : Int32)) C dX8_best_13 (by decide) ?_
  refine zz_icmp_le (tgt := 24) C dX8_best_15 (by decide) (fun g3 => ?_) (fun g3 => ?_)
  · rw [if_pos g3] at hf
    refine zz_iload_n C 1 dX8_best_24 rfl rfl ?_
    refine zz_iconst (v := (0 : Int32)) C dX8_best_25 (by decide) ?_
    refine zz_aload_n C 0 dX8_best_26 rfl rfl ?_
    refine zf8_parcels C dX8_best_27 zw_191 ?_
    refine zz_iconst (v := (1 : Int32)) C dX8_best_30 (by decide) ?_
    refine zz_isub C dX8_best_31 ?_
    obtain ⟨x4, h5, hf⟩ := zz_bind hf
    refine zz_callS1 (As := [.int place_, .int (0 : Int32), .int ((x1 47 17) - (1 : Int32))]) (rest := []) C (mX8_isIn x1 place_ (0 : Int32) ((x1 47 17) - (1 : Int32)) x4 h5) dX8_best_32 rfl zw_146 zy_X8_isIn rfl (by decide) (by decide) (Nat.le_of_ble_eq_true rfl) (Nat.le_of_ble_eq_true rfl) (Nat.le_of_ble_eq_true rfl) rfl ?_
    refine zz_if_ne (tgt := 44) C dX8_best_35 (by decide) (fun g6 => ?_) (fun g6 => ?_)
    · rw [if_neg g6] at hf
      refine zz_aload_n C 0 dX8_best_44 rfl rfl ?_
      obtain ⟨x7, h8, hf⟩ := zz_bind hf
      refine zz_callV1 (As := []) (rest := []) C 47 (mX8_findLeast x1 x7 h8) dX8_best_45 rfl rfl rfl zw_202 zy_X8_findLeast rfl (by decide) (by decide) (Nat.le_of_ble_eq_true rfl) (Nat.le_of_ble_eq_true rfl) (Nat.le_of_ble_eq_true rfl) rfl ?_
      refine zz_iconst (v := (0 : Int32)) C dX8_best_48 (by decide) ?_
      refine zz_istore_n C dX8_best_49 rfl (by decide) (lv' := [(2, .int (0 : Int32)), (0, .ref (ad 47)), (1, .int place_)]) rfl ?_
      refine zz_iconst (v := (0 : Int32)) C dX8_best_50 (by decide) ?_
      refine zz_istore_n C dX8_best_51 rfl (by decide) (lv' := [(3, .int (0 : Int32)), (2, .int (0 : Int32)), (0, .ref (ad 47)), (1, .int place_)]) rfl ?_
      refine zz_iconst (v := (0 : Int32)) C dX8_best_52 (by decide) ?_
      refine zz_istore C dX8_best_53 (by decide) (lv' := [(4, .int (0 : Int32)), (3, .int (0 : Int32)), (2, .int (0 : Int32)), (0, .ref (ad 47)), (1, .int place_)]) rfl ?_
      obtain ⟨q29, h30, hf⟩ := zz_bind hf
      refine zz_sub [3, 4, 2, 1, 0] rfl ?_
      refine mX8_best_L1 C (Nat.le_of_ble_eq_true rfl) (Nat.le_of_ble_eq_true rfl) x7 place_ 1000 (0 : Int32) (0 : Int32) (0 : Int32) q29 h30 ?_
      refine zz_iload_n C 3 dX8_best_119 rfl rfl ?_
      cases hf
      exact zz_iret C dX8_best_120 (And.intro rfl rfl) (Nat.le_of_ble_eq_true rfl) (Nat.le_of_ble_eq_true rfl)
    · rw [if_pos g6] at hf
      refine zz_aload_n C 0 dX8_best_38 rfl rfl ?_
      refine zz_iconst (v := (2 : Int32)) C dX8_best_39 (by decide) ?_
      obtain ⟨x31, h32, hf⟩ := zz_bind hf
      refine zz_callV1 (As := [.int (2 : Int32)]) (rest := []) C 47 (mX8_no x1 (2 : Int32) x31 h32) dX8_best_40 rfl rfl rfl zw_147 zy_X8_no rfl (by decide) (by decide) (Nat.le_of_ble_eq_true rfl) (Nat.le_of_ble_eq_true rfl) (Nat.le_of_ble_eq_true rfl) rfl ?_
      cases hf
      exact zz_iret C dX8_best_43 (And.intro rfl rfl) (Nat.le_of_ble_eq_true rfl) (Nat.le_of_ble_eq_true rfl)
  · rw [if_neg g3] at hf
    refine zz_aload_n C 0 dX8_best_18 rfl rfl ?_
    refine zz_iconst (v := (1 : Int32)) C dX8_best_19 (by decide) ?_
    obtain ⟨x33, h34, hf⟩ := zz_bind hf
    refine zz_callV1 (As := [.int (1 : Int32)]) (rest := []) C 47 (mX8_no x1 (1 : Int32) x33 h34) dX8_best_20 rfl rfl rfl zw_147 zy_X8_no rfl (by decide) (by decide) (Nat.le_of_ble_eq_true rfl) (Nat.le_of_ble_eq_true rfl) (Nat.le_of_ble_eq_true rfl) rfl ?_
    cases hf
    exact zz_iret C dX8_best_23 (And.intro rfl rfl) (Nat.le_of_ble_eq_true rfl) (Nat.le_of_ble_eq_true rfl)
theorem dX8_setPurpose_0 : decode cX8_setPurpose 0 = .ok (.aload_n 0, 1) := by decide +kernel
theorem dX8_setPurpose_1 : decode cX8_setPurpose 1 = .ok (.iconst 0, 1) := by decide +kernel
theorem dX8_setPurpose_2 : decode cX8_setPurpose 2 = .ok (.putfield 63, 3) := by decide +kernel
theorem dX8_setPurpose_5 : decode cX8_setPurpose 5 = .ok (.aload_n 0, 1) := by decide +kernel
theorem dX8_setPurpose_6 : decode cX8_setPurpose 6 = .ok (.iload_n 1, 1) := by decide +kernel
theorem dX8_setPurpose_7 : decode cX8_setPurpose 7 = .ok (.invokevirtual 77, 3) := by decide +kernel
theorem dX8_setPurpose_10 : decode cX8_setPurpose 10 = .ok (.ifCond .ne 9, 3) := by decide +kernel
theorem dX8_setPurpose_13 : decode cX8_setPurpose 13 = .ok (.aload_n 0, 1) := by decide +kernel
theorem dX8_setPurpose_14 : decode cX8_setPurpose 14 = .ok (.iconst 1, 1) := by decide +kernel
theorem dX8_setPurpose_15 : decode cX8_setPurpose 15 = .ok (.invokevirtual 73, 3) := by decide +kernel
theorem dX8_setPurpose_18 : decode cX8_setPurpose 18 = .ok (.ireturn, 1) := by decide +kernel
theorem dX8_setPurpose_19 : decode cX8_setPurpose 19 = .ok (.iload_n 2, 1) := by decide +kernel
theorem dX8_setPurpose_20 : decode cX8_setPurpose 20 = .ok (.iconst 0, 1) := by decide +kernel
theorem dX8_setPurpose_21 : decode cX8_setPurpose 21 = .ok (.bipush 9, 2) := by decide +kernel
theorem dX8_setPurpose_23 : decode cX8_setPurpose 23 = .ok (.invokestatic 69, 3) := by decide +kernel
theorem dX8_setPurpose_26 : decode cX8_setPurpose 26 = .ok (.ifCond .ne 9, 3) := by decide +kernel
theorem dX8_setPurpose_29 : decode cX8_setPurpose 29 = .ok (.aload_n 0, 1) := by decide +kernel
theorem dX8_setPurpose_30 : decode cX8_setPurpose 30 = .ok (.iconst 2, 1) := by decide +kernel
theorem dX8_setPurpose_31 : decode cX8_setPurpose 31 = .ok (.invokevirtual 73, 3) := by decide +kernel
theorem dX8_setPurpose_34 : decode cX8_setPurpose 34 = .ok (.ireturn, 1) := by decide +kernel
theorem dX8_setPurpose_35 : decode cX8_setPurpose 35 = .ok (.aload_n 0, 1) := by decide +kernel
theorem dX8_setPurpose_36 : decode cX8_setPurpose 36 = .ok (.getfield 16, 3) := by decide +kernel
theorem dX8_setPurpose_39 : decode cX8_setPurpose 39 = .ok (.iload_n 1, 1) := by decide +kernel
theorem dX8_setPurpose_40 : decode cX8_setPurpose 40 = .ok (.iaload, 1) := by decide +kernel
theorem dX8_setPurpose_41 : decode cX8_setPurpose 41 = .ok (.istore_n 3, 1) := by decide +kernel
theorem dX8_setPurpose_42 : decode cX8_setPurpose 42 = .ok (.aload_n 0, 1) := by decide +kernel
theorem dX8_setPurpose_43 : decode cX8_setPurpose 43 = .ok (.getfield 16, 3) := by decide +kernel
theorem dX8_setPurpose_46 : decode cX8_setPurpose 46 = .ok (.iload_n 1, 1) := by decide +kernel
theorem dX8_setPurpose_47 : decode cX8_setPurpose 47 = .ok (.iload_n 2, 1) := by decide +kernel
theorem dX8_setPurpose_48 : decode cX8_setPurpose 48 = .ok (.iastore, 1) := by decide +kernel
theorem dX8_setPurpose_49 : decode cX8_setPurpose 49 = .ok (.iload_n 3, 1) := by decide +kernel
theorem dX8_setPurpose_50 : decode cX8_setPurpose 50 = .ok (.ireturn, 1) := by decide +kernel
set_option maxHeartbeats 4000000 in
set_option maxRecDepth 100000 in
theorem mX8_setPurpose {D : va_G} {U : zz_U} {ad : Nat → Nat} {X : va_W} {ρ : zz_St} (σ : zz_St) (piece_ : Int32) (purpose_ : Int32) (r : (Int32 × zz_St)) (hf : fX8_setPurpose σ piece_ purpose_ = some r) : zz_Met yX8_setPurpose (.code yX8_setPurpose cX8_setPurpose 4 (some .int)) 2 0 0 D U [.ref (ad 47), .int piece_, .int purpose_] (zz_wm U ad ρ σ X) (zz_ok (some (.int r.1)) (zz_wm U ad ρ r.2 X)) zz_noth := by
  unfold fX8_setPurpose at hf
  refine zz_method RX8 rfl (by decide +kernel) (Nat.le_of_ble_eq_true rfl) ?_
  intro p l e s m args below meth c A _ C
  refine zz_lvs (lv1 := [(0, .ref (ad 47)), (1, .int piece_), (2, .int purpose_)]) rfl ?_
  refine zz_aload_n C 0 dX8_setPurpose_0 rfl rfl ?_
  refine zz_iconst (v := (0 : Int32)) C dX8_setPurpose_1 (by decide) ?_
  refine zp8_thrown C dX8_setPurpose_2 zw_145 ?_
  refine zz_aload_n C 0 dX8_setPurpose_5 rfl rfl ?_
  refine zz_iload_n C 1 dX8_setPurpose_6 rfl rfl ?_
  obtain ⟨x1, h2, hf⟩ := zz_bind hf
  refine zz_callV1 (As := [.int piece_]) (rest := []) C 47 (mX8_isPiece (zz_u σ 47 0 (0 : Int32)) piece_ x1 h2) dX8_setPurpose_7 rfl rfl rfl zw_154 zy_X8_isPiece rfl (by decide) (by decide) (Nat.le_of_ble_eq_true rfl) (Nat.le_of_ble_eq_true rfl) (Nat.le_of_ble_eq_true rfl) rfl ?_
  refine zz_if_ne (tgt := 19) C dX8_setPurpose_10 (by decide) (fun g3 => ?_) (fun g3 => ?_)
  · rw [if_neg g3] at hf
    refine zz_iload_n C 2 dX8_setPurpose_19 rfl rfl ?_
    refine zz_iconst (v := (0 : Int32)) C dX8_setPurpose_20 (by decide) ?_
    refine zz_bipush (v := (9 : Int32)) C dX8_setPurpose_21 (by decide) ?_
    obtain ⟨x4, h5, hf⟩ := zz_bind hf
    refine zz_callS1 (As := [.int purpose_, .int (0 : Int32), .int (9 : Int32)]) (rest := []) C (mX8_isIn (zz_u σ 47 0 (0 : Int32)) purpose_ (0 : Int32) (9 : Int32) x4 h5) dX8_setPurpose_23 rfl zw_146 zy_X8_isIn rfl (by decide) (by decide) (Nat.le_of_ble_eq_true rfl) (Nat.le_of_ble_eq_true rfl) (Nat.le_of_ble_eq_true rfl) rfl ?_
    refine zz_if_ne (tgt := 35) C dX8_setPurpose_26 (by decide) (fun g6 => ?_) (fun g6 => ?_)
    · rw [if_neg g6] at hf
      refine zz_aload_n C 0 dX8_setPurpose_35 rfl rfl ?_
      refine zf8_purposes C dX8_setPurpose_36 zw_151 ?_
      refine zz_iload_n C 1 dX8_setPurpose_39 rfl rfl ?_
      obtain ⟨x7, h8, hf⟩ := zz_bind hf
      refine zl_50 C dX8_setPurpose_40 h8 ?_
      refine zz_istore_n C dX8_setPurpose_41 rfl (by decide) (lv' := [(3, .int x7), (0, .ref (ad 47)), (1, .int piece_), (2, .int purpose_)]) rfl ?_
      refine zz_aload_n C 1 dX8_setPurpose_42 rfl rfl ?_
      refine zf8_purposes C dX8_setPurpose_43 zw_151 ?_
      refine zz_iload_n C 2 dX8_setPurpose_46 rfl rfl ?_
      refine zz_iload_n C 3 dX8_setPurpose_47 rfl rfl ?_
      obtain ⟨σ9, h10, hf⟩ := zz_bind hf
      refine zs_50 C dX8_setPurpose_48 h10 ?_
      refine zz_iload_n C 0 dX8_setPurpose_49 rfl rfl ?_
      cases hf
      exact zz_iret C dX8_setPurpose_50 (And.intro rfl rfl) (Nat.le_of_ble_eq_true rfl) (Nat.le_of_ble_eq_true rfl)
    · rw [if_pos g6] at hf
      refine zz_aload_n C 0 dX8_setPurpose_29 rfl rfl ?_
      refine zz_iconst (v := (2 : Int32)) C dX8_setPurpose_30 (by decide) ?_
      obtain ⟨x11, h12, hf⟩ := zz_bind hf
      refine zz_callV1 (As := [.int (2 : Int32)]) (rest := []) C 47 (mX8_no (zz_u σ 47 0 (0 : Int32)) (2 : Int32) x11 h12) dX8_setPurpose_31 rfl rfl rfl zw_147 zy_X8_no rfl (by decide) (by decide) (Nat.le_of_ble_eq_true rfl) (Nat.le_of_ble_eq_true rfl) (Nat.le_of_ble_eq_true rfl) rfl ?_
      cases hf
      exact zz_iret C dX8_setPurpose_34 (And.intro rfl rfl) (Nat.le_of_ble_eq_true rfl) (Nat.le_of_ble_eq_true rfl)
  · rw [if_pos g3] at hf
    refine zz_aload_n C 0 dX8_setPurpose_13 rfl rfl ?_
    refine zz_iconst (v := (1 : Int32)) C dX8_setPurpose_14 (by decide) ?_
    obtain ⟨x13, h14, hf⟩ := zz_bind hf
    refine zz_callV1 (As := [.int (1 : Int32)]) (rest := []) C 47 (mX8_no (zz_u σ 47 0 (0 : Int32)) (1 : Int32) x13 h14) dX8_setPurpose_15 rfl rfl rfl zw_147 zy_X8_no rfl (by decide) (by decide) (Nat.le_of_ble_eq_true rfl) (Nat.le_of_ble_eq_true rfl) (Nat.le_of_ble_eq_true rfl) rfl ?_
    cases hf
    exact zz_iret C dX8_setPurpose_18 (And.intro rfl rfl) (Nat.le_of_ble_eq_true rfl) (Nat.le_of_ble_eq_true rfl)
