theorem d_R_contract_0 : decode prog_6_method_17_code 0 = .ok (.aload_n 0, 1) := by decide +kernel
theorem d_R_contract_1 : decode prog_6_method_17_code 1 = .ok (.iconst 0, 1) := by decide +kernel
theorem d_R_contract_2 : decode prog_6_method_17_code 2 = .ok (.putfield 110, 3) := by decide +kernel
theorem d_R_contract_5 : decode prog_6_method_17_code 5 = .ok (.iconst 0, 1) := by decide +kernel
theorem d_R_contract_6 : decode prog_6_method_17_code 6 = .ok (.istore_n 1, 1) := by decide +kernel
theorem d_R_contract_7 : decode prog_6_method_17_code 7 = .ok (.iload_n 1, 1) := by decide +kernel
theorem d_R_contract_8 : decode prog_6_method_17_code 8 = .ok (.sipush 256, 3) := by decide +kernel
theorem d_R_contract_11 : decode prog_6_method_17_code 11 = .ok (.if_icmp .ge 29, 3) := by decide +kernel
theorem d_R_contract_14 : decode prog_6_method_17_code 14 = .ok (.aload_n 0, 1) := by decide +kernel
theorem d_R_contract_15 : decode prog_6_method_17_code 15 = .ok (.getfield 39, 3) := by decide +kernel
theorem d_R_contract_18 : decode prog_6_method_17_code 18 = .ok (.iload_n 1, 1) := by decide +kernel
theorem d_R_contract_19 : decode prog_6_method_17_code 19 = .ok (.aload_n 0, 1) := by decide +kernel
theorem d_R_contract_20 : decode prog_6_method_17_code 20 = .ok (.getfield 13, 3) := by decide +kernel
theorem d_R_contract_23 : decode prog_6_method_17_code 23 = .ok (.iload_n 1, 1) := by decide +kernel
theorem d_R_contract_24 : decode prog_6_method_17_code 24 = .ok (.iaload, 1) := by decide +kernel
theorem d_R_contract_25 : decode prog_6_method_17_code 25 = .ok (.iastore, 1) := by decide +kernel
theorem d_R_contract_26 : decode prog_6_method_17_code 26 = .ok (.aload_n 0, 1) := by decide +kernel
theorem d_R_contract_27 : decode prog_6_method_17_code 27 = .ok (.getfield 45, 3) := by decide +kernel
theorem d_R_contract_30 : decode prog_6_method_17_code 30 = .ok (.iload_n 1, 1) := by decide +kernel
theorem d_R_contract_31 : decode prog_6_method_17_code 31 = .ok (.ldc 69, 2) := by decide +kernel
theorem d_R_contract_33 : decode prog_6_method_17_code 33 = .ok (.iastore, 1) := by decide +kernel
theorem d_R_contract_34 : decode prog_6_method_17_code 34 = .ok (.iinc 1 1, 3) := by decide +kernel
theorem d_R_contract_37 : decode prog_6_method_17_code 37 = .ok (.goto (-30), 3) := by decide +kernel
theorem d_R_contract_40 : decode prog_6_method_17_code 40 = .ok (.aload_n 0, 1) := by decide +kernel
theorem d_R_contract_41 : decode prog_6_method_17_code 41 = .ok (.getfield 70, 3) := by decide +kernel
theorem d_R_contract_44 : decode prog_6_method_17_code 44 = .ok (.iconst 1, 1) := by decide +kernel
theorem d_R_contract_45 : decode prog_6_method_17_code 45 = .ok (.isub, 1) := by decide +kernel
theorem d_R_contract_46 : decode prog_6_method_17_code 46 = .ok (.istore_n 1, 1) := by decide +kernel
theorem d_R_contract_47 : decode prog_6_method_17_code 47 = .ok (.iload_n 1, 1) := by decide +kernel
theorem d_R_contract_48 : decode prog_6_method_17_code 48 = .ok (.ifCond .lt 367, 3) := by decide +kernel
theorem d_R_contract_51 : decode prog_6_method_17_code 51 = .ok (.aload_n 0, 1) := by decide +kernel
theorem d_R_contract_52 : decode prog_6_method_17_code 52 = .ok (.getfield 17, 3) := by decide +kernel
theorem d_R_contract_55 : decode prog_6_method_17_code 55 = .ok (.iload_n 1, 1) := by decide +kernel
theorem d_R_contract_56 : decode prog_6_method_17_code 56 = .ok (.iaload, 1) := by decide +kernel
theorem d_R_contract_57 : decode prog_6_method_17_code 57 = .ok (.istore_n 2, 1) := by decide +kernel
theorem d_R_contract_58 : decode prog_6_method_17_code 58 = .ok (.aload_n 0, 1) := by decide +kernel
theorem d_R_contract_59 : decode prog_6_method_17_code 59 = .ok (.aload_n 0, 1) := by decide +kernel
theorem d_R_contract_60 : decode prog_6_method_17_code 60 = .ok (.getfield 39, 3) := by decide +kernel
theorem d_R_contract_63 : decode prog_6_method_17_code 63 = .ok (.aload_n 0, 1) := by decide +kernel
theorem d_R_contract_64 : decode prog_6_method_17_code 64 = .ok (.getfield 42, 3) := by decide +kernel
theorem d_R_contract_67 : decode prog_6_method_17_code 67 = .ok (.iload_n 2, 1) := by decide +kernel
theorem d_R_contract_68 : decode prog_6_method_17_code 68 = .ok (.aload_n 0, 1) := by decide +kernel
theorem d_R_contract_69 : decode prog_6_method_17_code 69 = .ok (.getfield 36, 3) := by decide +kernel
theorem d_R_contract_72 : decode prog_6_method_17_code 72 = .ok (.invokevirtual 97, 3) := by decide +kernel
theorem d_R_contract_75 : decode prog_6_method_17_code 75 = .ok (.aload_n 0, 1) := by decide +kernel
theorem d_R_contract_76 : decode prog_6_method_17_code 76 = .ok (.getfield 110, 3) := by decide +kernel
theorem d_R_contract_79 : decode prog_6_method_17_code 79 = .ok (.istore_n 3, 1) := by decide +kernel
theorem d_R_contract_80 : decode prog_6_method_17_code 80 = .ok (.iconst 0, 1) := by decide +kernel
theorem d_R_contract_81 : decode prog_6_method_17_code 81 = .ok (.istore 4, 2) := by decide +kernel
theorem d_R_contract_83 : decode prog_6_method_17_code 83 = .ok (.iload 4, 2) := by decide +kernel
theorem d_R_contract_85 : decode prog_6_method_17_code 85 = .ok (.aload_n 0, 1) := by decide +kernel
theorem d_R_contract_86 : decode prog_6_method_17_code 86 = .ok (.getfield 70, 3) := by decide +kernel
theorem d_R_contract_89 : decode prog_6_method_17_code 89 = .ok (.if_icmp .ge 183, 3) := by decide +kernel
theorem d_R_contract_92 : decode prog_6_method_17_code 92 = .ok (.iconst 0, 1) := by decide +kernel
theorem d_R_contract_93 : decode prog_6_method_17_code 93 = .ok (.istore 5, 2) := by decide +kernel
theorem d_R_contract_95 : decode prog_6_method_17_code 95 = .ok (.iload 5, 2) := by decide +kernel
theorem d_R_contract_97 : decode prog_6_method_17_code 97 = .ok (.aload_n 0, 1) := by decide +kernel
theorem d_R_contract_98 : decode prog_6_method_17_code 98 = .ok (.getfield 70, 3) := by decide +kernel
theorem d_R_contract_101 : decode prog_6_method_17_code 101 = .ok (.if_icmp .ge 165, 3) := by decide +kernel
theorem d_R_contract_104 : decode prog_6_method_17_code 104 = .ok (.iload 4, 2) := by decide +kernel
theorem d_R_contract_106 : decode prog_6_method_17_code 106 = .ok (.iload_n 2, 1) := by decide +kernel
theorem d_R_contract_107 : decode prog_6_method_17_code 107 = .ok (.if_icmp .eq 40, 3) := by decide +kernel
theorem d_R_contract_110 : decode prog_6_method_17_code 110 = .ok (.iload 5, 2) := by decide +kernel
theorem d_R_contract_112 : decode prog_6_method_17_code 112 = .ok (.iload_n 2, 1) := by decide +kernel
theorem d_R_contract_113 : decode prog_6_method_17_code 113 = .ok (.if_icmp .eq 34, 3) := by decide +kernel
theorem d_R_contract_116 : decode prog_6_method_17_code 116 = .ok (.iload 4, 2) := by decide +kernel
theorem d_R_contract_118 : decode prog_6_method_17_code 118 = .ok (.iload 5, 2) := by decide +kernel
theorem d_R_contract_120 : decode prog_6_method_17_code 120 = .ok (.if_icmp .eq 27, 3) := by decide +kernel
theorem d_R_contract_123 : decode prog_6_method_17_code 123 = .ok (.aload_n 0, 1) := by decide +kernel
theorem d_R_contract_124 : decode prog_6_method_17_code 124 = .ok (.getfield 36, 3) := by decide +kernel
theorem d_R_contract_127 : decode prog_6_method_17_code 127 = .ok (.iload 4, 2) := by decide +kernel
theorem d_R_contract_129 : decode prog_6_method_17_code 129 = .ok (.baload, 1) := by decide +kernel
theorem d_R_contract_130 : decode prog_6_method_17_code 130 = .ok (.ifCond .ne 17, 3) := by decide +kernel
theorem d_R_contract_133 : decode prog_6_method_17_code 133 = .ok (.aload_n 0, 1) := by decide +kernel
theorem d_R_contract_134 : decode prog_6_method_17_code 134 = .ok (.getfield 36, 3) := by decide +kernel
theorem d_R_contract_137 : decode prog_6_method_17_code 137 = .ok (.iload 5, 2) := by decide +kernel
theorem d_R_contract_139 : decode prog_6_method_17_code 139 = .ok (.baload, 1) := by decide +kernel
theorem d_R_contract_140 : decode prog_6_method_17_code 140 = .ok (.ifCond .ne 7, 3) := by decide +kernel
theorem d_R_contract_143 : decode prog_6_method_17_code 143 = .ok (.iconst 1, 1) := by decide +kernel
theorem d_R_contract_144 : decode prog_6_method_17_code 144 = .ok (.goto 4, 3) := by decide +kernel
theorem d_R_contract_147 : decode prog_6_method_17_code 147 = .ok (.iconst 0, 1) := by decide +kernel
theorem d_R_contract_148 : decode prog_6_method_17_code 148 = .ok (.istore 6, 2) := by decide +kernel
theorem d_R_contract_150 : decode prog_6_method_17_code 150 = .ok (.aload_n 0, 1) := by decide +kernel
theorem d_R_contract_151 : decode prog_6_method_17_code 151 = .ok (.getfield 39, 3) := by decide +kernel
theorem d_R_contract_154 : decode prog_6_method_17_code 154 = .ok (.bipush 16, 2) := by decide +kernel
theorem d_R_contract_156 : decode prog_6_method_17_code 156 = .ok (.iload 4, 2) := by decide +kernel
theorem d_R_contract_158 : decode prog_6_method_17_code 158 = .ok (.imul, 1) := by decide +kernel
theorem d_R_contract_159 : decode prog_6_method_17_code 159 = .ok (.iload_n 2, 1) := by decide +kernel
theorem d_R_contract_160 : decode prog_6_method_17_code 160 = .ok (.iadd, 1) := by decide +kernel
theorem d_R_contract_161 : decode prog_6_method_17_code 161 = .ok (.iaload, 1) := by decide +kernel
theorem d_R_contract_162 : decode prog_6_method_17_code 162 = .ok (.aload_n 0, 1) := by decide +kernel
theorem d_R_contract_163 : decode prog_6_method_17_code 163 = .ok (.getfield 39, 3) := by decide +kernel
theorem d_R_contract_166 : decode prog_6_method_17_code 166 = .ok (.bipush 16, 2) := by decide +kernel
theorem d_R_contract_168 : decode prog_6_method_17_code 168 = .ok (.iload_n 2, 1) := by decide +kernel
theorem d_R_contract_169 : decode prog_6_method_17_code 169 = .ok (.imul, 1) := by decide +kernel
theorem d_R_contract_170 : decode prog_6_method_17_code 170 = .ok (.iload 5, 2) := by decide +kernel
theorem d_R_contract_172 : decode prog_6_method_17_code 172 = .ok (.iadd, 1) := by decide +kernel
theorem d_R_contract_173 : decode prog_6_method_17_code 173 = .ok (.iaload, 1) := by decide +kernel
theorem d_R_contract_174 : decode prog_6_method_17_code 174 = .ok (.iadd, 1) := by decide +kernel
theorem d_R_contract_175 : decode prog_6_method_17_code 175 = .ok (.istore 7, 2) := by decide +kernel
theorem d_R_contract_177 : decode prog_6_method_17_code 177 = .ok (.iload 6, 2) := by decide +kernel
theorem d_R_contract_179 : decode prog_6_method_17_code 179 = .ok (.ifCond .eq 81, 3) := by decide +kernel
theorem d_R_contract_182 : decode prog_6_method_17_code 182 = .ok (.iload 7, 2) := by decide +kernel
theorem d_R_contract_184 : decode prog_6_method_17_code 184 = .ok (.ldc 69, 2) := by decide +kernel
theorem d_R_contract_186 : decode prog_6_method_17_code 186 = .ok (.if_icmp .ge 74, 3) := by decide +kernel
theorem d_R_contract_189 : decode prog_6_method_17_code 189 = .ok (.aload_n 0, 1) := by decide +kernel
theorem d_R_contract_190 : decode prog_6_method_17_code 190 = .ok (.getfield 42, 3) := by decide +kernel
theorem d_R_contract_193 : decode prog_6_method_17_code 193 = .ok (.bipush 16, 2) := by decide +kernel
theorem d_R_contract_195 : decode prog_6_method_17_code 195 = .ok (.iload 4, 2) := by decide +kernel
theorem d_R_contract_197 : decode prog_6_method_17_code 197 = .ok (.imul, 1) := by decide +kernel
theorem d_R_contract_198 : decode prog_6_method_17_code 198 = .ok (.iload 5, 2) := by decide +kernel
theorem d_R_contract_200 : decode prog_6_method_17_code 200 = .ok (.iadd, 1) := by decide +kernel
theorem d_R_contract_201 : decode prog_6_method_17_code 201 = .ok (.iaload, 1) := by decide +kernel
theorem d_R_contract_202 : decode prog_6_method_17_code 202 = .ok (.iload 7, 2) := by decide +kernel
theorem d_R_contract_204 : decode prog_6_method_17_code 204 = .ok (.if_icmp .le 56, 3) := by decide +kernel
theorem d_R_contract_207 : decode prog_6_method_17_code 207 = .ok (.aload_n 0, 1) := by decide +kernel
theorem d_R_contract_208 : decode prog_6_method_17_code 208 = .ok (.getfield 51, 3) := by decide +kernel
theorem d_R_contract_211 : decode prog_6_method_17_code 211 = .ok (.aload_n 0, 1) := by decide +kernel
theorem d_R_contract_212 : decode prog_6_method_17_code 212 = .ok (.getfield 110, 3) := by decide +kernel
theorem d_R_contract_215 : decode prog_6_method_17_code 215 = .ok (.iload 4, 2) := by decide +kernel
theorem d_R_contract_217 : decode prog_6_method_17_code 217 = .ok (.iastore, 1) := by decide +kernel
theorem d_R_contract_218 : decode prog_6_method_17_code 218 = .ok (.aload_n 0, 1) := by decide +kernel
theorem d_R_contract_219 : decode prog_6_method_17_code 219 = .ok (.getfield 54, 3) := by decide +kernel
theorem d_R_contract_222 : decode prog_6_method_17_code 222 = .ok (.aload_n 0, 1) := by decide +kernel
theorem d_R_contract_223 : decode prog_6_method_17_code 223 = .ok (.getfield 110, 3) := by decide +kernel
theorem d_R_contract_226 : decode prog_6_method_17_code 226 = .ok (.iload 5, 2) := by decide +kernel
theorem d_R_contract_228 : decode prog_6_method_17_code 228 = .ok (.iastore, 1) := by decide +kernel
theorem d_R_contract_229 : decode prog_6_method_17_code 229 = .ok (.aload_n 0, 1) := by decide +kernel
theorem d_R_contract_230 : decode prog_6_method_17_code 230 = .ok (.getfield 57, 3) := by decide +kernel
theorem d_R_contract_233 : decode prog_6_method_17_code 233 = .ok (.aload_n 0, 1) := by decide +kernel
theorem d_R_contract_234 : decode prog_6_method_17_code 234 = .ok (.getfield 110, 3) := by decide +kernel
theorem d_R_contract_237 : decode prog_6_method_17_code 237 = .ok (.iload 7, 2) := by decide +kernel
theorem d_R_contract_239 : decode prog_6_method_17_code 239 = .ok (.iastore, 1) := by decide +kernel
theorem d_R_contract_240 : decode prog_6_method_17_code 240 = .ok (.aload_n 0, 1) := by decide +kernel
theorem d_R_contract_241 : decode prog_6_method_17_code 241 = .ok (.getfield 60, 3) := by decide +kernel
theorem d_R_contract_244 : decode prog_6_method_17_code 244 = .ok (.aload_n 0, 1) := by decide +kernel
theorem d_R_contract_245 : decode prog_6_method_17_code 245 = .ok (.getfield 110, 3) := by decide +kernel
theorem d_R_contract_248 : decode prog_6_method_17_code 248 = .ok (.iload_n 2, 1) := by decide +kernel
theorem d_R_contract_249 : decode prog_6_method_17_code 249 = .ok (.iastore, 1) := by decide +kernel
theorem d_R_contract_250 : decode prog_6_method_17_code 250 = .ok (.aload_n 0, 1) := by decide +kernel
theorem d_R_contract_251 : decode prog_6_method_17_code 251 = .ok (.dup, 1) := by decide +kernel
theorem d_R_contract_252 : decode prog_6_method_17_code 252 = .ok (.getfield 110, 3) := by decide +kernel
theorem d_R_contract_255 : decode prog_6_method_17_code 255 = .ok (.iconst 1, 1) := by decide +kernel
theorem d_R_contract_256 : decode prog_6_method_17_code 256 = .ok (.iadd, 1) := by decide +kernel
theorem d_R_contract_257 : decode prog_6_method_17_code 257 = .ok (.putfield 110, 3) := by decide +kernel
theorem d_R_contract_260 : decode prog_6_method_17_code 260 = .ok (.iinc 5 1, 3) := by decide +kernel
theorem d_R_contract_263 : decode prog_6_method_17_code 263 = .ok (.goto (-168), 3) := by decide +kernel
theorem d_R_contract_266 : decode prog_6_method_17_code 266 = .ok (.iinc 4 1, 3) := by decide +kernel
theorem d_R_contract_269 : decode prog_6_method_17_code 269 = .ok (.goto (-186), 3) := by decide +kernel
theorem d_R_contract_272 : decode prog_6_method_17_code 272 = .ok (.iconst 0, 1) := by decide +kernel
theorem d_R_contract_273 : decode prog_6_method_17_code 273 = .ok (.istore 4, 2) := by decide +kernel
theorem d_R_contract_275 : decode prog_6_method_17_code 275 = .ok (.iload 4, 2) := by decide +kernel
theorem d_R_contract_277 : decode prog_6_method_17_code 277 = .ok (.aload_n 0, 1) := by decide +kernel
theorem d_R_contract_278 : decode prog_6_method_17_code 278 = .ok (.getfield 70, 3) := by decide +kernel
theorem d_R_contract_281 : decode prog_6_method_17_code 281 = .ok (.if_icmp .ge 73, 3) := by decide +kernel
theorem d_R_contract_284 : decode prog_6_method_17_code 284 = .ok (.aload_n 0, 1) := by decide +kernel
theorem d_R_contract_285 : decode prog_6_method_17_code 285 = .ok (.getfield 36, 3) := by decide +kernel
theorem d_R_contract_288 : decode prog_6_method_17_code 288 = .ok (.iload 4, 2) := by decide +kernel
theorem d_R_contract_290 : decode prog_6_method_17_code 290 = .ok (.baload, 1) := by decide +kernel
theorem d_R_contract_291 : decode prog_6_method_17_code 291 = .ok (.ifCond .ne 57, 3) := by decide +kernel
theorem d_R_contract_294 : decode prog_6_method_17_code 294 = .ok (.iload 4, 2) := by decide +kernel
theorem d_R_contract_296 : decode prog_6_method_17_code 296 = .ok (.iload_n 2, 1) := by decide +kernel
theorem d_R_contract_297 : decode prog_6_method_17_code 297 = .ok (.if_icmp .eq 51, 3) := by decide +kernel
theorem d_R_contract_300 : decode prog_6_method_17_code 300 = .ok (.aload_n 0, 1) := by decide +kernel
theorem d_R_contract_301 : decode prog_6_method_17_code 301 = .ok (.getfield 45, 3) := by decide +kernel
theorem d_R_contract_304 : decode prog_6_method_17_code 304 = .ok (.bipush 16, 2) := by decide +kernel
theorem d_R_contract_306 : decode prog_6_method_17_code 306 = .ok (.iload 4, 2) := by decide +kernel
theorem d_R_contract_308 : decode prog_6_method_17_code 308 = .ok (.imul, 1) := by decide +kernel
theorem d_R_contract_309 : decode prog_6_method_17_code 309 = .ok (.iload_n 2, 1) := by decide +kernel
theorem d_R_contract_310 : decode prog_6_method_17_code 310 = .ok (.iadd, 1) := by decide +kernel
theorem d_R_contract_311 : decode prog_6_method_17_code 311 = .ok (.aload_n 0, 1) := by decide +kernel
theorem d_R_contract_312 : decode prog_6_method_17_code 312 = .ok (.getfield 39, 3) := by decide +kernel
theorem d_R_contract_315 : decode prog_6_method_17_code 315 = .ok (.bipush 16, 2) := by decide +kernel
theorem d_R_contract_317 : decode prog_6_method_17_code 317 = .ok (.iload 4, 2) := by decide +kernel
theorem d_R_contract_319 : decode prog_6_method_17_code 319 = .ok (.imul, 1) := by decide +kernel
theorem d_R_contract_320 : decode prog_6_method_17_code 320 = .ok (.iload_n 2, 1) := by decide +kernel
theorem d_R_contract_321 : decode prog_6_method_17_code 321 = .ok (.iadd, 1) := by decide +kernel
theorem d_R_contract_322 : decode prog_6_method_17_code 322 = .ok (.iaload, 1) := by decide +kernel
theorem d_R_contract_323 : decode prog_6_method_17_code 323 = .ok (.iastore, 1) := by decide +kernel
theorem d_R_contract_324 : decode prog_6_method_17_code 324 = .ok (.aload_n 0, 1) := by decide +kernel
theorem d_R_contract_325 : decode prog_6_method_17_code 325 = .ok (.getfield 45, 3) := by decide +kernel
theorem d_R_contract_328 : decode prog_6_method_17_code 328 = .ok (.bipush 16, 2) := by decide +kernel
theorem d_R_contract_330 : decode prog_6_method_17_code 330 = .ok (.iload_n 2, 1) := by decide +kernel
theorem d_R_contract_331 : decode prog_6_method_17_code 331 = .ok (.imul, 1) := by decide +kernel
theorem d_R_contract_332 : decode prog_6_method_17_code 332 = .ok (.iload 4, 2) := by decide +kernel
theorem d_R_contract_334 : decode prog_6_method_17_code 334 = .ok (.iadd, 1) := by decide +kernel
theorem d_R_contract_335 : decode prog_6_method_17_code 335 = .ok (.aload_n 0, 1) := by decide +kernel
theorem d_R_contract_336 : decode prog_6_method_17_code 336 = .ok (.getfield 39, 3) := by decide +kernel
theorem d_R_contract_339 : decode prog_6_method_17_code 339 = .ok (.bipush 16, 2) := by decide +kernel
theorem d_R_contract_341 : decode prog_6_method_17_code 341 = .ok (.iload_n 2, 1) := by decide +kernel
theorem d_R_contract_342 : decode prog_6_method_17_code 342 = .ok (.imul, 1) := by decide +kernel
theorem d_R_contract_343 : decode prog_6_method_17_code 343 = .ok (.iload 4, 2) := by decide +kernel
theorem d_R_contract_345 : decode prog_6_method_17_code 345 = .ok (.iadd, 1) := by decide +kernel
theorem d_R_contract_346 : decode prog_6_method_17_code 346 = .ok (.iaload, 1) := by decide +kernel
theorem d_R_contract_347 : decode prog_6_method_17_code 347 = .ok (.iastore, 1) := by decide +kernel
theorem d_R_contract_348 : decode prog_6_method_17_code 348 = .ok (.iinc 4 1, 3) := by decide +kernel
theorem d_R_contract_351 : decode prog_6_method_17_code 351 = .ok (.goto (-76), 3) := by decide +kernel
theorem d_R_contract_354 : decode prog_6_method_17_code 354 = .ok (.iload_n 3, 1) := by decide +kernel
theorem d_R_contract_355 : decode prog_6_method_17_code 355 = .ok (.istore 4, 2) := by decide +kernel
theorem d_R_contract_357 : decode prog_6_method_17_code 357 = .ok (.iload 4, 2) := by decide +kernel
theorem d_R_contract_359 : decode prog_6_method_17_code 359 = .ok (.aload_n 0, 1) := by decide +kernel
theorem d_R_contract_360 : decode prog_6_method_17_code 360 = .ok (.getfield 110, 3) := by decide +kernel
theorem d_R_contract_363 : decode prog_6_method_17_code 363 = .ok (.if_icmp .ge 39, 3) := by decide +kernel
theorem d_R_contract_366 : decode prog_6_method_17_code 366 = .ok (.aload_n 0, 1) := by decide +kernel
theorem d_R_contract_367 : decode prog_6_method_17_code 367 = .ok (.getfield 39, 3) := by decide +kernel
theorem d_R_contract_370 : decode prog_6_method_17_code 370 = .ok (.bipush 16, 2) := by decide +kernel
theorem d_R_contract_372 : decode prog_6_method_17_code 372 = .ok (.aload_n 0, 1) := by decide +kernel
theorem d_R_contract_373 : decode prog_6_method_17_code 373 = .ok (.getfield 51, 3) := by decide +kernel
theorem d_R_contract_376 : decode prog_6_method_17_code 376 = .ok (.iload 4, 2) := by decide +kernel
theorem d_R_contract_378 : decode prog_6_method_17_code 378 = .ok (.iaload, 1) := by decide +kernel
theorem d_R_contract_379 : decode prog_6_method_17_code 379 = .ok (.imul, 1) := by decide +kernel
theorem d_R_contract_380 : decode prog_6_method_17_code 380 = .ok (.aload_n 0, 1) := by decide +kernel
theorem d_R_contract_381 : decode prog_6_method_17_code 381 = .ok (.getfield 54, 3) := by decide +kernel
theorem d_R_contract_384 : decode prog_6_method_17_code 384 = .ok (.iload 4, 2) := by decide +kernel
theorem d_R_contract_386 : decode prog_6_method_17_code 386 = .ok (.iaload, 1) := by decide +kernel
theorem d_R_contract_387 : decode prog_6_method_17_code 387 = .ok (.iadd, 1) := by decide +kernel
theorem d_R_contract_388 : decode prog_6_method_17_code 388 = .ok (.aload_n 0, 1) := by decide +kernel
theorem d_R_contract_389 : decode prog_6_method_17_code 389 = .ok (.getfield 57, 3) := by decide +kernel
theorem d_R_contract_392 : decode prog_6_method_17_code 392 = .ok (.iload 4, 2) := by decide +kernel
theorem d_R_contract_394 : decode prog_6_method_17_code 394 = .ok (.iaload, 1) := by decide +kernel
theorem d_R_contract_395 : decode prog_6_method_17_code 395 = .ok (.iastore, 1) := by decide +kernel
theorem d_R_contract_396 : decode prog_6_method_17_code 396 = .ok (.iinc 4 1, 3) := by decide +kernel
theorem d_R_contract_399 : decode prog_6_method_17_code 399 = .ok (.goto (-42), 3) := by decide +kernel
theorem d_R_contract_402 : decode prog_6_method_17_code 402 = .ok (.aload_n 0, 1) := by decide +kernel
theorem d_R_contract_403 : decode prog_6_method_17_code 403 = .ok (.getfield 36, 3) := by decide +kernel
theorem d_R_contract_406 : decode prog_6_method_17_code 406 = .ok (.iload_n 2, 1) := by decide +kernel
theorem d_R_contract_407 : decode prog_6_method_17_code 407 = .ok (.iconst 1, 1) := by decide +kernel
theorem d_R_contract_408 : decode prog_6_method_17_code 408 = .ok (.bastore, 1) := by decide +kernel
theorem d_R_contract_409 : decode prog_6_method_17_code 409 = .ok (.iinc 1 (-1), 3) := by decide +kernel
theorem d_R_contract_412 : decode prog_6_method_17_code 412 = .ok (.goto (-365), 3) := by decide +kernel
theorem d_R_contract_415 : decode prog_6_method_17_code 415 = .ok (.aload_n 0, 1) := by decide +kernel
theorem d_R_contract_416 : decode prog_6_method_17_code 416 = .ok (.invokevirtual 113, 3) := by decide +kernel
theorem d_R_contract_419 : decode prog_6_method_17_code 419 = .ok (.return_, 1) := by decide +kernel
theorem d_R_make_0 : decode prog_6_method_16_code 0 = .ok (.aload_n 0, 1) := by decide +kernel
theorem d_R_make_1 : decode prog_6_method_16_code 1 = .ok (.iconst 0, 1) := by decide +kernel
theorem d_R_make_2 : decode prog_6_method_16_code 2 = .ok (.putfield 1, 3) := by decide +kernel
theorem d_R_make_5 : decode prog_6_method_16_code 5 = .ok (.iconst 0, 1) := by decide +kernel
theorem d_R_make_6 : decode prog_6_method_16_code 6 = .ok (.istore_n 1, 1) := by decide +kernel
theorem d_R_make_7 : decode prog_6_method_16_code 7 = .ok (.iload_n 1, 1) := by decide +kernel
theorem d_R_make_8 : decode prog_6_method_16_code 8 = .ok (.bipush 16, 2) := by decide +kernel
theorem d_R_make_10 : decode prog_6_method_16_code 10 = .ok (.if_icmp .ge 16, 3) := by decide +kernel
theorem d_R_make_13 : decode prog_6_method_16_code 13 = .ok (.aload_n 0, 1) := by decide +kernel
theorem d_R_make_14 : decode prog_6_method_16_code 14 = .ok (.getfield 36, 3) := by decide +kernel
theorem d_R_make_17 : decode prog_6_method_16_code 17 = .ok (.iload_n 1, 1) := by decide +kernel
theorem d_R_make_18 : decode prog_6_method_16_code 18 = .ok (.iconst 0, 1) := by decide +kernel
theorem d_R_make_19 : decode prog_6_method_16_code 19 = .ok (.bastore, 1) := by decide +kernel
theorem d_R_make_20 : decode prog_6_method_16_code 20 = .ok (.iinc 1 1, 3) := by decide +kernel
theorem d_R_make_23 : decode prog_6_method_16_code 23 = .ok (.goto (-16), 3) := by decide +kernel
theorem d_R_make_26 : decode prog_6_method_16_code 26 = .ok (.aload_n 0, 1) := by decide +kernel
theorem d_R_make_27 : decode prog_6_method_16_code 27 = .ok (.aload_n 0, 1) := by decide +kernel
theorem d_R_make_28 : decode prog_6_method_16_code 28 = .ok (.getfield 13, 3) := by decide +kernel
theorem d_R_make_31 : decode prog_6_method_16_code 31 = .ok (.aload_n 0, 1) := by decide +kernel
theorem d_R_make_32 : decode prog_6_method_16_code 32 = .ok (.getfield 24, 3) := by decide +kernel
theorem d_R_make_35 : decode prog_6_method_16_code 35 = .ok (.iconst (-1), 1) := by decide +kernel
theorem d_R_make_36 : decode prog_6_method_16_code 36 = .ok (.aload_n 0, 1) := by decide +kernel
theorem d_R_make_37 : decode prog_6_method_16_code 37 = .ok (.getfield 36, 3) := by decide +kernel
theorem d_R_make_40 : decode prog_6_method_16_code 40 = .ok (.invokevirtual 97, 3) := by decide +kernel
theorem d_R_make_43 : decode prog_6_method_16_code 43 = .ok (.iconst 0, 1) := by decide +kernel
theorem d_R_make_44 : decode prog_6_method_16_code 44 = .ok (.istore_n 1, 1) := by decide +kernel
theorem d_R_make_45 : decode prog_6_method_16_code 45 = .ok (.iload_n 1, 1) := by decide +kernel
theorem d_R_make_46 : decode prog_6_method_16_code 46 = .ok (.aload_n 0, 1) := by decide +kernel
theorem d_R_make_47 : decode prog_6_method_16_code 47 = .ok (.getfield 70, 3) := by decide +kernel
theorem d_R_make_50 : decode prog_6_method_16_code 50 = .ok (.if_icmp .ge 21, 3) := by decide +kernel
theorem d_R_make_53 : decode prog_6_method_16_code 53 = .ok (.aload_n 0, 1) := by decide +kernel
theorem d_R_make_54 : decode prog_6_method_16_code 54 = .ok (.getfield 24, 3) := by decide +kernel
theorem d_R_make_57 : decode prog_6_method_16_code 57 = .ok (.bipush 16, 2) := by decide +kernel
theorem d_R_make_59 : decode prog_6_method_16_code 59 = .ok (.iload_n 1, 1) := by decide +kernel
theorem d_R_make_60 : decode prog_6_method_16_code 60 = .ok (.imul, 1) := by decide +kernel
theorem d_R_make_61 : decode prog_6_method_16_code 61 = .ok (.iload_n 1, 1) := by decide +kernel
theorem d_R_make_62 : decode prog_6_method_16_code 62 = .ok (.iadd, 1) := by decide +kernel
theorem d_R_make_63 : decode prog_6_method_16_code 63 = .ok (.iconst 0, 1) := by decide +kernel
theorem d_R_make_64 : decode prog_6_method_16_code 64 = .ok (.iastore, 1) := by decide +kernel
theorem d_R_make_65 : decode prog_6_method_16_code 65 = .ok (.iinc 1 1, 3) := by decide +kernel
theorem d_R_make_68 : decode prog_6_method_16_code 68 = .ok (.goto (-23), 3) := by decide +kernel
theorem d_R_make_71 : decode prog_6_method_16_code 71 = .ok (.aload_n 0, 1) := by decide +kernel
theorem d_R_make_72 : decode prog_6_method_16_code 72 = .ok (.iconst 0, 1) := by decide +kernel
theorem d_R_make_73 : decode prog_6_method_16_code 73 = .ok (.putfield 101, 3) := by decide +kernel
theorem d_R_make_76 : decode prog_6_method_16_code 76 = .ok (.iconst 0, 1) := by decide +kernel
theorem d_R_make_77 : decode prog_6_method_16_code 77 = .ok (.istore_n 1, 1) := by decide +kernel
theorem d_R_make_78 : decode prog_6_method_16_code 78 = .ok (.iconst 0, 1) := by decide +kernel
theorem d_R_make_79 : decode prog_6_method_16_code 79 = .ok (.istore_n 2, 1) := by decide +kernel
theorem d_R_make_80 : decode prog_6_method_16_code 80 = .ok (.iload_n 2, 1) := by decide +kernel
theorem d_R_make_81 : decode prog_6_method_16_code 81 = .ok (.sipush 512, 3) := by decide +kernel
theorem d_R_make_84 : decode prog_6_method_16_code 84 = .ok (.if_icmp .ge 218, 3) := by decide +kernel
theorem d_R_make_87 : decode prog_6_method_16_code 87 = .ok (.iload_n 2, 1) := by decide +kernel
theorem d_R_make_88 : decode prog_6_method_16_code 88 = .ok (.sipush 256, 3) := by decide +kernel
theorem d_R_make_91 : decode prog_6_method_16_code 91 = .ok (.idiv, 1) := by decide +kernel
theorem d_R_make_92 : decode prog_6_method_16_code 92 = .ok (.istore_n 3, 1) := by decide +kernel
theorem d_R_make_93 : decode prog_6_method_16_code 93 = .ok (.iload_n 2, 1) := by decide +kernel
theorem d_R_make_94 : decode prog_6_method_16_code 94 = .ok (.bipush 16, 2) := by decide +kernel
theorem d_R_make_96 : decode prog_6_method_16_code 96 = .ok (.idiv, 1) := by decide +kernel
theorem d_R_make_97 : decode prog_6_method_16_code 97 = .ok (.bipush 16, 2) := by decide +kernel
theorem d_R_make_99 : decode prog_6_method_16_code 99 = .ok (.irem, 1) := by decide +kernel
theorem d_R_make_100 : decode prog_6_method_16_code 100 = .ok (.istore 4, 2) := by decide +kernel
theorem d_R_make_102 : decode prog_6_method_16_code 102 = .ok (.iload_n 2, 1) := by decide +kernel
theorem d_R_make_103 : decode prog_6_method_16_code 103 = .ok (.bipush 16, 2) := by decide +kernel
theorem d_R_make_105 : decode prog_6_method_16_code 105 = .ok (.irem, 1) := by decide +kernel
theorem d_R_make_106 : decode prog_6_method_16_code 106 = .ok (.istore 5, 2) := by decide +kernel
theorem d_R_make_108 : decode prog_6_method_16_code 108 = .ok (.aload_n 0, 1) := by decide +kernel
theorem d_R_make_109 : decode prog_6_method_16_code 109 = .ok (.getfield 30, 3) := by decide +kernel
theorem d_R_make_112 : decode prog_6_method_16_code 112 = .ok (.iload_n 2, 1) := by decide +kernel
theorem d_R_make_113 : decode prog_6_method_16_code 113 = .ok (.aload_n 0, 1) := by decide +kernel
theorem d_R_make_114 : decode prog_6_method_16_code 114 = .ok (.getfield 27, 3) := by decide +kernel
theorem d_R_make_117 : decode prog_6_method_16_code 117 = .ok (.iload_n 2, 1) := by decide +kernel
theorem d_R_make_118 : decode prog_6_method_16_code 118 = .ok (.iaload, 1) := by decide +kernel
theorem d_R_make_119 : decode prog_6_method_16_code 119 = .ok (.iastore, 1) := by decide +kernel
theorem d_R_make_120 : decode prog_6_method_16_code 120 = .ok (.iload 4, 2) := by decide +kernel
theorem d_R_make_122 : decode prog_6_method_16_code 122 = .ok (.aload_n 0, 1) := by decide +kernel
theorem d_R_make_123 : decode prog_6_method_16_code 123 = .ok (.getfield 70, 3) := by decide +kernel
theorem d_R_make_126 : decode prog_6_method_16_code 126 = .ok (.if_icmp .ge 28, 3) := by decide +kernel
theorem d_R_make_129 : decode prog_6_method_16_code 129 = .ok (.iload 5, 2) := by decide +kernel
theorem d_R_make_131 : decode prog_6_method_16_code 131 = .ok (.aload_n 0, 1) := by decide +kernel
theorem d_R_make_132 : decode prog_6_method_16_code 132 = .ok (.getfield 70, 3) := by decide +kernel
theorem d_R_make_135 : decode prog_6_method_16_code 135 = .ok (.if_icmp .ge 19, 3) := by decide +kernel
theorem d_R_make_138 : decode prog_6_method_16_code 138 = .ok (.aload_n 0, 1) := by decide +kernel
theorem d_R_make_139 : decode prog_6_method_16_code 139 = .ok (.iload_n 3, 1) := by decide +kernel
theorem d_R_make_140 : decode prog_6_method_16_code 140 = .ok (.iload 4, 2) := by decide +kernel
theorem d_R_make_142 : decode prog_6_method_16_code 142 = .ok (.iload 5, 2) := by decide +kernel
theorem d_R_make_144 : decode prog_6_method_16_code 144 = .ok (.invokevirtual 104, 3) := by decide +kernel
theorem d_R_make_147 : decode prog_6_method_16_code 147 = .ok (.ifCond .eq 7, 3) := by decide +kernel
theorem d_R_make_150 : decode prog_6_method_16_code 150 = .ok (.iconst 1, 1) := by decide +kernel
theorem d_R_make_151 : decode prog_6_method_16_code 151 = .ok (.goto 4, 3) := by decide +kernel
theorem d_R_make_154 : decode prog_6_method_16_code 154 = .ok (.iconst 0, 1) := by decide +kernel
theorem d_R_make_155 : decode prog_6_method_16_code 155 = .ok (.istore 6, 2) := by decide +kernel
theorem d_R_make_157 : decode prog_6_method_16_code 157 = .ok (.aload_n 0, 1) := by decide +kernel
theorem d_R_make_158 : decode prog_6_method_16_code 158 = .ok (.getfield 27, 3) := by decide +kernel
theorem d_R_make_161 : decode prog_6_method_16_code 161 = .ok (.iload_n 2, 1) := by decide +kernel
theorem d_R_make_162 : decode prog_6_method_16_code 162 = .ok (.iload 6, 2) := by decide +kernel
theorem d_R_make_164 : decode prog_6_method_16_code 164 = .ok (.ifCond .ne 7, 3) := by decide +kernel
theorem d_R_make_167 : decode prog_6_method_16_code 167 = .ok (.iconst 0, 1) := by decide +kernel
theorem d_R_make_168 : decode prog_6_method_16_code 168 = .ok (.goto 38, 3) := by decide +kernel
theorem d_R_make_171 : decode prog_6_method_16_code 171 = .ok (.iconst 1, 1) := by decide +kernel
theorem d_R_make_172 : decode prog_6_method_16_code 172 = .ok (.iload_n 3, 1) := by decide +kernel
theorem d_R_make_173 : decode prog_6_method_16_code 173 = .ok (.ifCond .ne 19, 3) := by decide +kernel
theorem d_R_make_176 : decode prog_6_method_16_code 176 = .ok (.aload_n 0, 1) := by decide +kernel
theorem d_R_make_177 : decode prog_6_method_16_code 177 = .ok (.getfield 24, 3) := by decide +kernel
theorem d_R_make_180 : decode prog_6_method_16_code 180 = .ok (.bipush 16, 2) := by decide +kernel
theorem d_R_make_182 : decode prog_6_method_16_code 182 = .ok (.iload 4, 2) := by decide +kernel
theorem d_R_make_184 : decode prog_6_method_16_code 184 = .ok (.imul, 1) := by decide +kernel
theorem d_R_make_185 : decode prog_6_method_16_code 185 = .ok (.iload 5, 2) := by decide +kernel
theorem d_R_make_187 : decode prog_6_method_16_code 187 = .ok (.iadd, 1) := by decide +kernel
theorem d_R_make_188 : decode prog_6_method_16_code 188 = .ok (.iaload, 1) := by decide +kernel
theorem d_R_make_189 : decode prog_6_method_16_code 189 = .ok (.goto 16, 3) := by decide +kernel
theorem d_R_make_192 : decode prog_6_method_16_code 192 = .ok (.aload_n 0, 1) := by decide +kernel
theorem d_R_make_193 : decode prog_6_method_16_code 193 = .ok (.getfield 24, 3) := by decide +kernel
theorem d_R_make_196 : decode prog_6_method_16_code 196 = .ok (.bipush 16, 2) := by decide +kernel
theorem d_R_make_198 : decode prog_6_method_16_code 198 = .ok (.iload 5, 2) := by decide +kernel
theorem d_R_make_200 : decode prog_6_method_16_code 200 = .ok (.imul, 1) := by decide +kernel
theorem d_R_make_201 : decode prog_6_method_16_code 201 = .ok (.iload 4, 2) := by decide +kernel
theorem d_R_make_203 : decode prog_6_method_16_code 203 = .ok (.iadd, 1) := by decide +kernel
theorem d_R_make_204 : decode prog_6_method_16_code 204 = .ok (.iaload, 1) := by decide +kernel
theorem d_R_make_205 : decode prog_6_method_16_code 205 = .ok (.iadd, 1) := by decide +kernel
theorem d_R_make_206 : decode prog_6_method_16_code 206 = .ok (.iastore, 1) := by decide +kernel
theorem d_R_make_207 : decode prog_6_method_16_code 207 = .ok (.aload_n 0, 1) := by decide +kernel
theorem d_R_make_208 : decode prog_6_method_16_code 208 = .ok (.getfield 33, 3) := by decide +kernel
theorem d_R_make_211 : decode prog_6_method_16_code 211 = .ok (.iload_n 2, 1) := by decide +kernel
theorem d_R_make_212 : decode prog_6_method_16_code 212 = .ok (.aload_n 0, 1) := by decide +kernel
theorem d_R_make_213 : decode prog_6_method_16_code 213 = .ok (.getfield 27, 3) := by decide +kernel
theorem d_R_make_216 : decode prog_6_method_16_code 216 = .ok (.iload_n 2, 1) := by decide +kernel
theorem d_R_make_217 : decode prog_6_method_16_code 217 = .ok (.iaload, 1) := by decide +kernel
theorem d_R_make_218 : decode prog_6_method_16_code 218 = .ok (.iastore, 1) := by decide +kernel
theorem d_R_make_219 : decode prog_6_method_16_code 219 = .ok (.iload 6, 2) := by decide +kernel
theorem d_R_make_221 : decode prog_6_method_16_code 221 = .ok (.ifCond .eq 9, 3) := by decide +kernel
theorem d_R_make_224 : decode prog_6_method_16_code 224 = .ok (.iload_n 1, 1) := by decide +kernel
theorem d_R_make_225 : decode prog_6_method_16_code 225 = .ok (.iconst 1, 1) := by decide +kernel
theorem d_R_make_226 : decode prog_6_method_16_code 226 = .ok (.iadd, 1) := by decide +kernel
theorem d_R_make_227 : decode prog_6_method_16_code 227 = .ok (.goto 4, 3) := by decide +kernel
theorem d_R_make_230 : decode prog_6_method_16_code 230 = .ok (.iload_n 1, 1) := by decide +kernel
theorem d_R_make_231 : decode prog_6_method_16_code 231 = .ok (.istore_n 1, 1) := by decide +kernel
theorem d_R_make_232 : decode prog_6_method_16_code 232 = .ok (.aload_n 0, 1) := by decide +kernel
theorem d_R_make_233 : decode prog_6_method_16_code 233 = .ok (.getfield 30, 3) := by decide +kernel
theorem d_R_make_236 : decode prog_6_method_16_code 236 = .ok (.iload_n 2, 1) := by decide +kernel
theorem d_R_make_237 : decode prog_6_method_16_code 237 = .ok (.iaload, 1) := by decide +kernel
theorem d_R_make_238 : decode prog_6_method_16_code 238 = .ok (.ifCond .le 7, 3) := by decide +kernel
theorem d_R_make_241 : decode prog_6_method_16_code 241 = .ok (.iconst 1, 1) := by decide +kernel
theorem d_R_make_242 : decode prog_6_method_16_code 242 = .ok (.goto 4, 3) := by decide +kernel
theorem d_R_make_245 : decode prog_6_method_16_code 245 = .ok (.iconst 0, 1) := by decide +kernel
theorem d_R_make_246 : decode prog_6_method_16_code 246 = .ok (.aload_n 0, 1) := by decide +kernel
theorem d_R_make_247 : decode prog_6_method_16_code 247 = .ok (.getfield 27, 3) := by decide +kernel
theorem d_R_make_250 : decode prog_6_method_16_code 250 = .ok (.iload_n 2, 1) := by decide +kernel
theorem d_R_make_251 : decode prog_6_method_16_code 251 = .ok (.iaload, 1) := by decide +kernel
theorem d_R_make_252 : decode prog_6_method_16_code 252 = .ok (.ifCond .le 7, 3) := by decide +kernel
theorem d_R_make_255 : decode prog_6_method_16_code 255 = .ok (.iconst 1, 1) := by decide +kernel
theorem d_R_make_256 : decode prog_6_method_16_code 256 = .ok (.goto 4, 3) := by decide +kernel
theorem d_R_make_259 : decode prog_6_method_16_code 259 = .ok (.iconst 0, 1) := by decide +kernel
theorem d_R_make_260 : decode prog_6_method_16_code 260 = .ok (.iadd, 1) := by decide +kernel
theorem d_R_make_261 : decode prog_6_method_16_code 261 = .ok (.istore 7, 2) := by decide +kernel
theorem d_R_make_263 : decode prog_6_method_16_code 263 = .ok (.aload_n 0, 1) := by decide +kernel
theorem d_R_make_264 : decode prog_6_method_16_code 264 = .ok (.aload_n 0, 1) := by decide +kernel
theorem d_R_make_265 : decode prog_6_method_16_code 265 = .ok (.getfield 30, 3) := by decide +kernel
theorem d_R_make_268 : decode prog_6_method_16_code 268 = .ok (.iload_n 2, 1) := by decide +kernel
theorem d_R_make_269 : decode prog_6_method_16_code 269 = .ok (.iaload, 1) := by decide +kernel
theorem d_R_make_270 : decode prog_6_method_16_code 270 = .ok (.aload_n 0, 1) := by decide +kernel
theorem d_R_make_271 : decode prog_6_method_16_code 271 = .ok (.getfield 27, 3) := by decide +kernel
theorem d_R_make_274 : decode prog_6_method_16_code 274 = .ok (.iload_n 2, 1) := by decide +kernel
theorem d_R_make_275 : decode prog_6_method_16_code 275 = .ok (.iaload, 1) := by decide +kernel
theorem d_R_make_276 : decode prog_6_method_16_code 276 = .ok (.if_icmp .ne 10, 3) := by decide +kernel
theorem d_R_make_279 : decode prog_6_method_16_code 279 = .ok (.aload_n 0, 1) := by decide +kernel
theorem d_R_make_280 : decode prog_6_method_16_code 280 = .ok (.getfield 101, 3) := by decide +kernel
theorem d_R_make_283 : decode prog_6_method_16_code 283 = .ok (.goto 10, 3) := by decide +kernel
theorem d_R_make_286 : decode prog_6_method_16_code 286 = .ok (.aload_n 0, 1) := by decide +kernel
theorem d_R_make_287 : decode prog_6_method_16_code 287 = .ok (.getfield 101, 3) := by decide +kernel
theorem d_R_make_290 : decode prog_6_method_16_code 290 = .ok (.iload 7, 2) := by decide +kernel
theorem d_R_make_292 : decode prog_6_method_16_code 292 = .ok (.iadd, 1) := by decide +kernel
theorem d_R_make_293 : decode prog_6_method_16_code 293 = .ok (.putfield 101, 3) := by decide +kernel
theorem d_R_make_296 : decode prog_6_method_16_code 296 = .ok (.iinc 2 1, 3) := by decide +kernel
theorem d_R_make_299 : decode prog_6_method_16_code 299 = .ok (.goto (-219), 3) := by decide +kernel
theorem d_R_make_302 : decode prog_6_method_16_code 302 = .ok (.aload_n 0, 1) := by decide +kernel
theorem d_R_make_303 : decode prog_6_method_16_code 303 = .ok (.invokevirtual 107, 3) := by decide +kernel
theorem d_R_make_306 : decode prog_6_method_16_code 306 = .ok (.aload_n 0, 1) := by decide +kernel
theorem d_R_make_307 : decode prog_6_method_16_code 307 = .ok (.iconst 1, 1) := by decide +kernel
theorem d_R_make_308 : decode prog_6_method_16_code 308 = .ok (.putfield 81, 3) := by decide +kernel
theorem d_R_make_311 : decode prog_6_method_16_code 311 = .ok (.iload_n 1, 1) := by decide +kernel
theorem d_R_make_312 : decode prog_6_method_16_code 312 = .ok (.ireturn, 1) := by decide +kernel
theorem d_R_nth_0 : decode prog_6_method_19_code 0 = .ok (.iconst 0, 1) := by decide +kernel
theorem d_R_nth_1 : decode prog_6_method_19_code 1 = .ok (.istore 4, 2) := by decide +kernel
theorem d_R_nth_3 : decode prog_6_method_19_code 3 = .ok (.iconst 0, 1) := by decide +kernel
theorem d_R_nth_4 : decode prog_6_method_19_code 4 = .ok (.istore 5, 2) := by decide +kernel
theorem d_R_nth_6 : decode prog_6_method_19_code 6 = .ok (.iload 5, 2) := by decide +kernel
theorem d_R_nth_8 : decode prog_6_method_19_code 8 = .ok (.aload_n 0, 1) := by decide +kernel
theorem d_R_nth_9 : decode prog_6_method_19_code 9 = .ok (.getfield 70, 3) := by decide +kernel
theorem d_R_nth_12 : decode prog_6_method_19_code 12 = .ok (.if_icmp .ge 56, 3) := by decide +kernel
theorem d_R_nth_15 : decode prog_6_method_19_code 15 = .ok (.sipush 256, 3) := by decide +kernel
theorem d_R_nth_18 : decode prog_6_method_19_code 18 = .ok (.iload_n 1, 1) := by decide +kernel
theorem d_R_nth_19 : decode prog_6_method_19_code 19 = .ok (.imul, 1) := by decide +kernel
theorem d_R_nth_20 : decode prog_6_method_19_code 20 = .ok (.bipush 16, 2) := by decide +kernel
theorem d_R_nth_22 : decode prog_6_method_19_code 22 = .ok (.iload_n 2, 1) := by decide +kernel
theorem d_R_nth_23 : decode prog_6_method_19_code 23 = .ok (.imul, 1) := by decide +kernel
theorem d_R_nth_24 : decode prog_6_method_19_code 24 = .ok (.iadd, 1) := by decide +kernel
theorem d_R_nth_25 : decode prog_6_method_19_code 25 = .ok (.aload_n 0, 1) := by decide +kernel
theorem d_R_nth_26 : decode prog_6_method_19_code 26 = .ok (.getfield 17, 3) := by decide +kernel
theorem d_R_nth_29 : decode prog_6_method_19_code 29 = .ok (.iload 5, 2) := by decide +kernel
theorem d_R_nth_31 : decode prog_6_method_19_code 31 = .ok (.iaload, 1) := by decide +kernel
theorem d_R_nth_32 : decode prog_6_method_19_code 32 = .ok (.iadd, 1) := by decide +kernel
theorem d_R_nth_33 : decode prog_6_method_19_code 33 = .ok (.istore 6, 2) := by decide +kernel
theorem d_R_nth_35 : decode prog_6_method_19_code 35 = .ok (.aload_n 0, 1) := by decide +kernel
theorem d_R_nth_36 : decode prog_6_method_19_code 36 = .ok (.getfield 33, 3) := by decide +kernel
theorem d_R_nth_39 : decode prog_6_method_19_code 39 = .ok (.iload 6, 2) := by decide +kernel
theorem d_R_nth_41 : decode prog_6_method_19_code 41 = .ok (.iaload, 1) := by decide +kernel
theorem d_R_nth_42 : decode prog_6_method_19_code 42 = .ok (.ifCond .le 20, 3) := by decide +kernel
theorem d_R_nth_45 : decode prog_6_method_19_code 45 = .ok (.iload 4, 2) := by decide +kernel
theorem d_R_nth_47 : decode prog_6_method_19_code 47 = .ok (.iload_n 3, 1) := by decide +kernel
theorem d_R_nth_48 : decode prog_6_method_19_code 48 = .ok (.if_icmp .ne 11, 3) := by decide +kernel
theorem d_R_nth_51 : decode prog_6_method_19_code 51 = .ok (.aload_n 0, 1) := by decide +kernel
theorem d_R_nth_52 : decode prog_6_method_19_code 52 = .ok (.getfield 17, 3) := by decide +kernel
theorem d_R_nth_55 : decode prog_6_method_19_code 55 = .ok (.iload 5, 2) := by decide +kernel
theorem d_R_nth_57 : decode prog_6_method_19_code 57 = .ok (.iaload, 1) := by decide +kernel
theorem d_R_nth_58 : decode prog_6_method_19_code 58 = .ok (.ireturn, 1) := by decide +kernel
theorem d_R_nth_59 : decode prog_6_method_19_code 59 = .ok (.iinc 4 1, 3) := by decide +kernel
theorem d_R_nth_62 : decode prog_6_method_19_code 62 = .ok (.iinc 5 1, 3) := by decide +kernel
theorem d_R_nth_65 : decode prog_6_method_19_code 65 = .ok (.goto (-59), 3) := by decide +kernel
theorem d_R_nth_68 : decode prog_6_method_19_code 68 = .ok (.aload_n 0, 1) := by decide +kernel
theorem d_R_nth_69 : decode prog_6_method_19_code 69 = .ok (.iload 4, 2) := by decide +kernel
theorem d_R_nth_71 : decode prog_6_method_19_code 71 = .ok (.putfield 116, 3) := by decide +kernel
theorem d_R_nth_74 : decode prog_6_method_19_code 74 = .ok (.iconst (-1), 1) := by decide +kernel
theorem d_R_nth_75 : decode prog_6_method_19_code 75 = .ok (.ireturn, 1) := by decide +kernel
theorem d_R_label_0 : decode prog_6_method_20_code 0 = .ok (.aload_n 0, 1) := by decide +kernel
theorem d_R_label_1 : decode prog_6_method_20_code 1 = .ok (.iconst 0, 1) := by decide +kernel
theorem d_R_label_2 : decode prog_6_method_20_code 2 = .ok (.putfield 1, 3) := by decide +kernel
theorem d_R_label_5 : decode prog_6_method_20_code 5 = .ok (.aload_n 0, 1) := by decide +kernel
theorem d_R_label_6 : decode prog_6_method_20_code 6 = .ok (.getfield 81, 3) := by decide +kernel
theorem d_R_label_9 : decode prog_6_method_20_code 9 = .ok (.ifCond .ne 6, 3) := by decide +kernel
theorem d_R_label_12 : decode prog_6_method_20_code 12 = .ok (.bipush (-4), 2) := by decide +kernel
theorem d_R_label_14 : decode prog_6_method_20_code 14 = .ok (.ireturn, 1) := by decide +kernel
theorem d_R_label_15 : decode prog_6_method_20_code 15 = .ok (.iload_n 1, 1) := by decide +kernel
theorem d_R_label_16 : decode prog_6_method_20_code 16 = .ok (.iconst 0, 1) := by decide +kernel
theorem d_R_label_17 : decode prog_6_method_20_code 17 = .ok (.iconst 1, 1) := by decide +kernel
theorem d_R_label_18 : decode prog_6_method_20_code 18 = .ok (.invokestatic 73, 3) := by decide +kernel
theorem d_R_label_21 : decode prog_6_method_20_code 21 = .ok (.ifCond .eq 30, 3) := by decide +kernel
theorem d_R_label_24 : decode prog_6_method_20_code 24 = .ok (.aload_n 0, 1) := by decide +kernel
theorem d_R_label_25 : decode prog_6_method_20_code 25 = .ok (.iload_n 2, 1) := by decide +kernel
theorem d_R_label_26 : decode prog_6_method_20_code 26 = .ok (.invokevirtual 77, 3) := by decide +kernel
theorem d_R_label_29 : decode prog_6_method_20_code 29 = .ok (.ifCond .ne 22, 3) := by decide +kernel
theorem d_R_label_32 : decode prog_6_method_20_code 32 = .ok (.iload_n 3, 1) := by decide +kernel
theorem d_R_label_33 : decode prog_6_method_20_code 33 = .ok (.iconst (-1), 1) := by decide +kernel
theorem d_R_label_34 : decode prog_6_method_20_code 34 = .ok (.if_icmp .lt 17, 3) := by decide +kernel
theorem d_R_label_37 : decode prog_6_method_20_code 37 = .ok (.iload_n 3, 1) := by decide +kernel
theorem d_R_label_38 : decode prog_6_method_20_code 38 = .ok (.ifCond .lt 16, 3) := by decide +kernel
theorem d_R_label_41 : decode prog_6_method_20_code 41 = .ok (.iload 4, 2) := by decide +kernel
theorem d_R_label_43 : decode prog_6_method_20_code 43 = .ok (.iconst 0, 1) := by decide +kernel
theorem d_R_label_44 : decode prog_6_method_20_code 44 = .ok (.iconst 1, 1) := by decide +kernel
theorem d_R_label_45 : decode prog_6_method_20_code 45 = .ok (.invokestatic 73, 3) := by decide +kernel
theorem d_R_label_48 : decode prog_6_method_20_code 48 = .ok (.ifCond .ne 6, 3) := by decide +kernel
theorem d_R_label_51 : decode prog_6_method_20_code 51 = .ok (.bipush (-2), 2) := by decide +kernel
theorem d_R_label_53 : decode prog_6_method_20_code 53 = .ok (.ireturn, 1) := by decide +kernel
theorem d_R_label_54 : decode prog_6_method_20_code 54 = .ok (.aload_n 0, 1) := by decide +kernel
theorem d_R_label_55 : decode prog_6_method_20_code 55 = .ok (.iload_n 1, 1) := by decide +kernel
theorem d_R_label_56 : decode prog_6_method_20_code 56 = .ok (.iload_n 2, 1) := by decide +kernel
theorem d_R_label_57 : decode prog_6_method_20_code 57 = .ok (.iload_n 3, 1) := by decide +kernel
theorem d_R_label_58 : decode prog_6_method_20_code 58 = .ok (.ifCond .ge 8, 3) := by decide +kernel
theorem d_R_label_61 : decode prog_6_method_20_code 61 = .ok (.bipush 99, 2) := by decide +kernel
theorem d_R_label_63 : decode prog_6_method_20_code 63 = .ok (.goto 4, 3) := by decide +kernel
theorem d_R_label_66 : decode prog_6_method_20_code 66 = .ok (.iload_n 3, 1) := by decide +kernel
theorem d_R_label_67 : decode prog_6_method_20_code 67 = .ok (.invokevirtual 119, 3) := by decide +kernel
theorem d_R_label_70 : decode prog_6_method_20_code 70 = .ok (.istore 5, 2) := by decide +kernel
theorem d_R_label_72 : decode prog_6_method_20_code 72 = .ok (.iload_n 3, 1) := by decide +kernel
theorem d_R_label_73 : decode prog_6_method_20_code 73 = .ok (.ifCond .ge 8, 3) := by decide +kernel
theorem d_R_label_76 : decode prog_6_method_20_code 76 = .ok (.aload_n 0, 1) := by decide +kernel
theorem d_R_label_77 : decode prog_6_method_20_code 77 = .ok (.getfield 116, 3) := by decide +kernel
theorem d_R_label_80 : decode prog_6_method_20_code 80 = .ok (.ireturn, 1) := by decide +kernel
theorem d_R_label_81 : decode prog_6_method_20_code 81 = .ok (.iload 5, 2) := by decide +kernel
theorem d_R_label_83 : decode prog_6_method_20_code 83 = .ok (.ifCond .ge 8, 3) := by decide +kernel
theorem d_R_label_86 : decode prog_6_method_20_code 86 = .ok (.bipush (-2), 2) := by decide +kernel
theorem d_R_label_88 : decode prog_6_method_20_code 88 = .ok (.goto 33, 3) := by decide +kernel
theorem d_R_label_91 : decode prog_6_method_20_code 91 = .ok (.iload 4, 2) := by decide +kernel
theorem d_R_label_93 : decode prog_6_method_20_code 93 = .ok (.ifCond .ne 8, 3) := by decide +kernel
theorem d_R_label_96 : decode prog_6_method_20_code 96 = .ok (.iload 5, 2) := by decide +kernel
theorem d_R_label_98 : decode prog_6_method_20_code 98 = .ok (.goto 23, 3) := by decide +kernel
theorem d_R_label_101 : decode prog_6_method_20_code 101 = .ok (.aload_n 0, 1) := by decide +kernel
theorem d_R_label_102 : decode prog_6_method_20_code 102 = .ok (.getfield 33, 3) := by decide +kernel
theorem d_R_label_105 : decode prog_6_method_20_code 105 = .ok (.sipush 256, 3) := by decide +kernel
theorem d_R_label_108 : decode prog_6_method_20_code 108 = .ok (.iload_n 1, 1) := by decide +kernel
theorem d_R_label_109 : decode prog_6_method_20_code 109 = .ok (.imul, 1) := by decide +kernel
theorem d_R_label_110 : decode prog_6_method_20_code 110 = .ok (.bipush 16, 2) := by decide +kernel
theorem d_R_label_112 : decode prog_6_method_20_code 112 = .ok (.iload_n 2, 1) := by decide +kernel
theorem d_R_label_113 : decode prog_6_method_20_code 113 = .ok (.imul, 1) := by decide +kernel
theorem d_R_label_114 : decode prog_6_method_20_code 114 = .ok (.iadd, 1) := by decide +kernel
theorem d_R_label_115 : decode prog_6_method_20_code 115 = .ok (.iload 5, 2) := by decide +kernel
theorem d_R_label_117 : decode prog_6_method_20_code 117 = .ok (.iadd, 1) := by decide +kernel
theorem d_R_label_118 : decode prog_6_method_20_code 118 = .ok (.iaload, 1) := by decide +kernel
theorem d_R_label_119 : decode prog_6_method_20_code 119 = .ok (.iconst 1, 1) := by decide +kernel
theorem d_R_label_120 : decode prog_6_method_20_code 120 = .ok (.isub, 1) := by decide +kernel
theorem d_R_label_121 : decode prog_6_method_20_code 121 = .ok (.ireturn, 1) := by decide +kernel
theorem d_R_meet_0 : decode prog_6_method_21_code 0 = .ok (.iconst (-1), 1) := by decide +kernel
theorem d_R_meet_1 : decode prog_6_method_21_code 1 = .ok (.istore_n 3, 1) := by decide +kernel
theorem d_R_meet_2 : decode prog_6_method_21_code 2 = .ok (.aload_n 0, 1) := by decide +kernel
theorem d_R_meet_3 : decode prog_6_method_21_code 3 = .ok (.ldc 69, 2) := by decide +kernel
theorem d_R_meet_5 : decode prog_6_method_21_code 5 = .ok (.putfield 123, 3) := by decide +kernel
theorem d_R_meet_8 : decode prog_6_method_21_code 8 = .ok (.iconst 0, 1) := by decide +kernel
theorem d_R_meet_9 : decode prog_6_method_21_code 9 = .ok (.istore 4, 2) := by decide +kernel
theorem d_R_meet_11 : decode prog_6_method_21_code 11 = .ok (.iload 4, 2) := by decide +kernel
theorem d_R_meet_13 : decode prog_6_method_21_code 13 = .ok (.aload_n 0, 1) := by decide +kernel
theorem d_R_meet_14 : decode prog_6_method_21_code 14 = .ok (.getfield 70, 3) := by decide +kernel
theorem d_R_meet_17 : decode prog_6_method_21_code 17 = .ok (.if_icmp .ge 88, 3) := by decide +kernel
theorem d_R_meet_20 : decode prog_6_method_21_code 20 = .ok (.aload_n 0, 1) := by decide +kernel
theorem d_R_meet_21 : decode prog_6_method_21_code 21 = .ok (.getfield 17, 3) := by decide +kernel
theorem d_R_meet_24 : decode prog_6_method_21_code 24 = .ok (.iload 4, 2) := by decide +kernel
theorem d_R_meet_26 : decode prog_6_method_21_code 26 = .ok (.iaload, 1) := by decide +kernel
theorem d_R_meet_27 : decode prog_6_method_21_code 27 = .ok (.istore 5, 2) := by decide +kernel
theorem d_R_meet_29 : decode prog_6_method_21_code 29 = .ok (.aload_n 0, 1) := by decide +kernel
theorem d_R_meet_30 : decode prog_6_method_21_code 30 = .ok (.getfield 33, 3) := by decide +kernel
theorem d_R_meet_33 : decode prog_6_method_21_code 33 = .ok (.bipush 16, 2) := by decide +kernel
theorem d_R_meet_35 : decode prog_6_method_21_code 35 = .ok (.iload_n 1, 1) := by decide +kernel
theorem d_R_meet_36 : decode prog_6_method_21_code 36 = .ok (.imul, 1) := by decide +kernel
theorem d_R_meet_37 : decode prog_6_method_21_code 37 = .ok (.iload 5, 2) := by decide +kernel
theorem d_R_meet_39 : decode prog_6_method_21_code 39 = .ok (.iadd, 1) := by decide +kernel
theorem d_R_meet_40 : decode prog_6_method_21_code 40 = .ok (.iaload, 1) := by decide +kernel
theorem d_R_meet_41 : decode prog_6_method_21_code 41 = .ok (.istore 6, 2) := by decide +kernel
theorem d_R_meet_43 : decode prog_6_method_21_code 43 = .ok (.aload_n 0, 1) := by decide +kernel
theorem d_R_meet_44 : decode prog_6_method_21_code 44 = .ok (.getfield 33, 3) := by decide +kernel
theorem d_R_meet_47 : decode prog_6_method_21_code 47 = .ok (.sipush 256, 3) := by decide +kernel
theorem d_R_meet_50 : decode prog_6_method_21_code 50 = .ok (.bipush 16, 2) := by decide +kernel
theorem d_R_meet_52 : decode prog_6_method_21_code 52 = .ok (.iload_n 2, 1) := by decide +kernel
theorem d_R_meet_53 : decode prog_6_method_21_code 53 = .ok (.imul, 1) := by decide +kernel
theorem d_R_meet_54 : decode prog_6_method_21_code 54 = .ok (.iadd, 1) := by decide +kernel
theorem d_R_meet_55 : decode prog_6_method_21_code 55 = .ok (.iload 5, 2) := by decide +kernel
theorem d_R_meet_57 : decode prog_6_method_21_code 57 = .ok (.iadd, 1) := by decide +kernel
theorem d_R_meet_58 : decode prog_6_method_21_code 58 = .ok (.iaload, 1) := by decide +kernel
theorem d_R_meet_59 : decode prog_6_method_21_code 59 = .ok (.istore 7, 2) := by decide +kernel
theorem d_R_meet_61 : decode prog_6_method_21_code 61 = .ok (.iload 6, 2) := by decide +kernel
theorem d_R_meet_63 : decode prog_6_method_21_code 63 = .ok (.ifCond .le 36, 3) := by decide +kernel
theorem d_R_meet_66 : decode prog_6_method_21_code 66 = .ok (.iload 7, 2) := by decide +kernel
theorem d_R_meet_68 : decode prog_6_method_21_code 68 = .ok (.ifCond .le 31, 3) := by decide +kernel
theorem d_R_meet_71 : decode prog_6_method_21_code 71 = .ok (.iload 6, 2) := by decide +kernel
theorem d_R_meet_73 : decode prog_6_method_21_code 73 = .ok (.iload 7, 2) := by decide +kernel
theorem d_R_meet_75 : decode prog_6_method_21_code 75 = .ok (.iadd, 1) := by decide +kernel
theorem d_R_meet_76 : decode prog_6_method_21_code 76 = .ok (.iconst 2, 1) := by decide +kernel
theorem d_R_meet_77 : decode prog_6_method_21_code 77 = .ok (.isub, 1) := by decide +kernel
theorem d_R_meet_78 : decode prog_6_method_21_code 78 = .ok (.aload_n 0, 1) := by decide +kernel
theorem d_R_meet_79 : decode prog_6_method_21_code 79 = .ok (.getfield 123, 3) := by decide +kernel
theorem d_R_meet_82 : decode prog_6_method_21_code 82 = .ok (.if_icmp .ge 17, 3) := by decide +kernel
theorem d_R_meet_85 : decode prog_6_method_21_code 85 = .ok (.aload_n 0, 1) := by decide +kernel
theorem d_R_meet_86 : decode prog_6_method_21_code 86 = .ok (.iload 6, 2) := by decide +kernel
theorem d_R_meet_88 : decode prog_6_method_21_code 88 = .ok (.iload 7, 2) := by decide +kernel
theorem d_R_meet_90 : decode prog_6_method_21_code 90 = .ok (.iadd, 1) := by decide +kernel
theorem d_R_meet_91 : decode prog_6_method_21_code 91 = .ok (.iconst 2, 1) := by decide +kernel
theorem d_R_meet_92 : decode prog_6_method_21_code 92 = .ok (.isub, 1) := by decide +kernel
theorem d_R_meet_93 : decode prog_6_method_21_code 93 = .ok (.putfield 123, 3) := by decide +kernel
theorem d_R_meet_96 : decode prog_6_method_21_code 96 = .ok (.iload 5, 2) := by decide +kernel
theorem d_R_meet_98 : decode prog_6_method_21_code 98 = .ok (.istore_n 3, 1) := by decide +kernel
theorem d_R_meet_99 : decode prog_6_method_21_code 99 = .ok (.iinc 4 1, 3) := by decide +kernel
theorem d_R_meet_102 : decode prog_6_method_21_code 102 = .ok (.goto (-91), 3) := by decide +kernel
theorem d_R_meet_105 : decode prog_6_method_21_code 105 = .ok (.iload_n 3, 1) := by decide +kernel
theorem d_R_meet_106 : decode prog_6_method_21_code 106 = .ok (.ireturn, 1) := by decide +kernel
theorem d_R_ask_0 : decode prog_6_method_22_code 0 = .ok (.aload_n 0, 1) := by decide +kernel
theorem d_R_ask_1 : decode prog_6_method_22_code 1 = .ok (.iconst 0, 1) := by decide +kernel
theorem d_R_ask_2 : decode prog_6_method_22_code 2 = .ok (.putfield 1, 3) := by decide +kernel
theorem d_R_ask_5 : decode prog_6_method_22_code 5 = .ok (.aload_n 0, 1) := by decide +kernel
theorem d_R_ask_6 : decode prog_6_method_22_code 6 = .ok (.getfield 81, 3) := by decide +kernel
theorem d_R_ask_9 : decode prog_6_method_22_code 9 = .ok (.ifCond .ne 6, 3) := by decide +kernel
theorem d_R_ask_12 : decode prog_6_method_22_code 12 = .ok (.bipush (-4), 2) := by decide +kernel
theorem d_R_ask_14 : decode prog_6_method_22_code 14 = .ok (.ireturn, 1) := by decide +kernel
theorem d_R_ask_15 : decode prog_6_method_22_code 15 = .ok (.aload_n 0, 1) := by decide +kernel
theorem d_R_ask_16 : decode prog_6_method_22_code 16 = .ok (.iload_n 1, 1) := by decide +kernel
theorem d_R_ask_17 : decode prog_6_method_22_code 17 = .ok (.iload_n 2, 1) := by decide +kernel
theorem d_R_ask_18 : decode prog_6_method_22_code 18 = .ok (.invokevirtual 85, 3) := by decide +kernel
theorem d_R_ask_21 : decode prog_6_method_22_code 21 = .ok (.ifCond .eq 6, 3) := by decide +kernel
theorem d_R_ask_24 : decode prog_6_method_22_code 24 = .ok (.bipush (-2), 2) := by decide +kernel
theorem d_R_ask_26 : decode prog_6_method_22_code 26 = .ok (.ireturn, 1) := by decide +kernel
theorem d_R_ask_27 : decode prog_6_method_22_code 27 = .ok (.aload_n 0, 1) := by decide +kernel
theorem d_R_ask_28 : decode prog_6_method_22_code 28 = .ok (.iload_n 1, 1) := by decide +kernel
theorem d_R_ask_29 : decode prog_6_method_22_code 29 = .ok (.iload_n 2, 1) := by decide +kernel
theorem d_R_ask_30 : decode prog_6_method_22_code 30 = .ok (.invokevirtual 126, 3) := by decide +kernel
theorem d_R_ask_33 : decode prog_6_method_22_code 33 = .ok (.ifCond .ge 7, 3) := by decide +kernel
theorem d_R_ask_36 : decode prog_6_method_22_code 36 = .ok (.iconst (-1), 1) := by decide +kernel
theorem d_R_ask_37 : decode prog_6_method_22_code 37 = .ok (.goto 7, 3) := by decide +kernel
theorem d_R_ask_40 : decode prog_6_method_22_code 40 = .ok (.aload_n 0, 1) := by decide +kernel
theorem d_R_ask_41 : decode prog_6_method_22_code 41 = .ok (.getfield 123, 3) := by decide +kernel
theorem d_R_ask_44 : decode prog_6_method_22_code 44 = .ok (.ireturn, 1) := by decide +kernel
