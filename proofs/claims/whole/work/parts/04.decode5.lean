theorem d_Mod_keepsTold_147 : decode (ib f_Mod_keepsTold) 147 = .ok (.goto (-41), 3) := by decide +kernel
theorem d_Mod_keepsTold_150 : decode (ib f_Mod_keepsTold) 150 = .ok (.iconst 0, 1) := by decide +kernel
theorem d_Mod_keepsTold_151 : decode (ib f_Mod_keepsTold) 151 = .ok (.istore_n 1, 1) := by decide +kernel
theorem d_Mod_keepsTold_152 : decode (ib f_Mod_keepsTold) 152 = .ok (.iload_n 1, 1) := by decide +kernel
theorem d_Mod_keepsTold_153 : decode (ib f_Mod_keepsTold) 153 = .ok (.bipush 6, 2) := by decide +kernel
theorem d_Mod_keepsTold_155 : decode (ib f_Mod_keepsTold) 155 = .ok (.if_icmp .ge 41, 3) := by decide +kernel
theorem d_Mod_keepsTold_158 : decode (ib f_Mod_keepsTold) 158 = .ok (.aload_n 0, 1) := by decide +kernel
theorem d_Mod_keepsTold_159 : decode (ib f_Mod_keepsTold) 159 = .ok (.getfield 80, 3) := by decide +kernel
theorem d_Mod_keepsTold_162 : decode (ib f_Mod_keepsTold) 162 = .ok (.iload_n 1, 1) := by decide +kernel
theorem d_Mod_keepsTold_163 : decode (ib f_Mod_keepsTold) 163 = .ok (.aload_n 0, 1) := by decide +kernel
theorem d_Mod_keepsTold_164 : decode (ib f_Mod_keepsTold) 164 = .ok (.aload_n 0, 1) := by decide +kernel
theorem d_Mod_keepsTold_165 : decode (ib f_Mod_keepsTold) 165 = .ok (.getfield 80, 3) := by decide +kernel
theorem d_Mod_keepsTold_168 : decode (ib f_Mod_keepsTold) 168 = .ok (.iload_n 1, 1) := by decide +kernel
theorem d_Mod_keepsTold_169 : decode (ib f_Mod_keepsTold) 169 = .ok (.iaload, 1) := by decide +kernel
theorem d_Mod_keepsTold_170 : decode (ib f_Mod_keepsTold) 170 = .ok (.invokevirtual 476, 3) := by decide +kernel
theorem d_Mod_keepsTold_173 : decode (ib f_Mod_keepsTold) 173 = .ok (.iastore, 1) := by decide +kernel
theorem d_Mod_keepsTold_174 : decode (ib f_Mod_keepsTold) 174 = .ok (.aload_n 0, 1) := by decide +kernel
theorem d_Mod_keepsTold_175 : decode (ib f_Mod_keepsTold) 175 = .ok (.getfield 83, 3) := by decide +kernel
theorem d_Mod_keepsTold_178 : decode (ib f_Mod_keepsTold) 178 = .ok (.iload_n 1, 1) := by decide +kernel
theorem d_Mod_keepsTold_179 : decode (ib f_Mod_keepsTold) 179 = .ok (.aload_n 0, 1) := by decide +kernel
theorem d_Mod_keepsTold_180 : decode (ib f_Mod_keepsTold) 180 = .ok (.aload_n 0, 1) := by decide +kernel
theorem d_Mod_keepsTold_181 : decode (ib f_Mod_keepsTold) 181 = .ok (.getfield 83, 3) := by decide +kernel
theorem d_Mod_keepsTold_184 : decode (ib f_Mod_keepsTold) 184 = .ok (.iload_n 1, 1) := by decide +kernel
theorem d_Mod_keepsTold_185 : decode (ib f_Mod_keepsTold) 185 = .ok (.iaload, 1) := by decide +kernel
theorem d_Mod_keepsTold_186 : decode (ib f_Mod_keepsTold) 186 = .ok (.invokevirtual 476, 3) := by decide +kernel
theorem d_Mod_keepsTold_189 : decode (ib f_Mod_keepsTold) 189 = .ok (.iastore, 1) := by decide +kernel
theorem d_Mod_keepsTold_190 : decode (ib f_Mod_keepsTold) 190 = .ok (.iinc 1 1, 3) := by decide +kernel
theorem d_Mod_keepsTold_193 : decode (ib f_Mod_keepsTold) 193 = .ok (.goto (-41), 3) := by decide +kernel
theorem d_Mod_keepsTold_196 : decode (ib f_Mod_keepsTold) 196 = .ok (.iconst 0, 1) := by decide +kernel
theorem d_Mod_keepsTold_197 : decode (ib f_Mod_keepsTold) 197 = .ok (.istore_n 1, 1) := by decide +kernel
theorem d_Mod_keepsTold_198 : decode (ib f_Mod_keepsTold) 198 = .ok (.iload_n 1, 1) := by decide +kernel
theorem d_Mod_keepsTold_199 : decode (ib f_Mod_keepsTold) 199 = .ok (.bipush 16, 2) := by decide +kernel
theorem d_Mod_keepsTold_201 : decode (ib f_Mod_keepsTold) 201 = .ok (.if_icmp .ge 25, 3) := by decide +kernel
theorem d_Mod_keepsTold_204 : decode (ib f_Mod_keepsTold) 204 = .ok (.aload_n 0, 1) := by decide +kernel
theorem d_Mod_keepsTold_205 : decode (ib f_Mod_keepsTold) 205 = .ok (.getfield 92, 3) := by decide +kernel
theorem d_Mod_keepsTold_208 : decode (ib f_Mod_keepsTold) 208 = .ok (.iload_n 1, 1) := by decide +kernel
theorem d_Mod_keepsTold_209 : decode (ib f_Mod_keepsTold) 209 = .ok (.aload_n 0, 1) := by decide +kernel
theorem d_Mod_keepsTold_210 : decode (ib f_Mod_keepsTold) 210 = .ok (.aload_n 0, 1) := by decide +kernel
theorem d_Mod_keepsTold_211 : decode (ib f_Mod_keepsTold) 211 = .ok (.getfield 92, 3) := by decide +kernel
theorem d_Mod_keepsTold_214 : decode (ib f_Mod_keepsTold) 214 = .ok (.iload_n 1, 1) := by decide +kernel
theorem d_Mod_keepsTold_215 : decode (ib f_Mod_keepsTold) 215 = .ok (.iaload, 1) := by decide +kernel
theorem d_Mod_keepsTold_216 : decode (ib f_Mod_keepsTold) 216 = .ok (.invokevirtual 476, 3) := by decide +kernel
theorem d_Mod_keepsTold_219 : decode (ib f_Mod_keepsTold) 219 = .ok (.iastore, 1) := by decide +kernel
theorem d_Mod_keepsTold_220 : decode (ib f_Mod_keepsTold) 220 = .ok (.iinc 1 1, 3) := by decide +kernel
theorem d_Mod_keepsTold_223 : decode (ib f_Mod_keepsTold) 223 = .ok (.goto (-25), 3) := by decide +kernel
theorem d_Mod_keepsTold_226 : decode (ib f_Mod_keepsTold) 226 = .ok (.iconst 0, 1) := by decide +kernel
theorem d_Mod_keepsTold_227 : decode (ib f_Mod_keepsTold) 227 = .ok (.istore_n 1, 1) := by decide +kernel
theorem d_Mod_keepsTold_228 : decode (ib f_Mod_keepsTold) 228 = .ok (.iload_n 1, 1) := by decide +kernel
theorem d_Mod_keepsTold_229 : decode (ib f_Mod_keepsTold) 229 = .ok (.bipush 12, 2) := by decide +kernel
theorem d_Mod_keepsTold_231 : decode (ib f_Mod_keepsTold) 231 = .ok (.if_icmp .ge 25, 3) := by decide +kernel
theorem d_Mod_keepsTold_234 : decode (ib f_Mod_keepsTold) 234 = .ok (.aload_n 0, 1) := by decide +kernel
theorem d_Mod_keepsTold_235 : decode (ib f_Mod_keepsTold) 235 = .ok (.getfield 62, 3) := by decide +kernel
theorem d_Mod_keepsTold_238 : decode (ib f_Mod_keepsTold) 238 = .ok (.iload_n 1, 1) := by decide +kernel
theorem d_Mod_keepsTold_239 : decode (ib f_Mod_keepsTold) 239 = .ok (.aload_n 0, 1) := by decide +kernel
theorem d_Mod_keepsTold_240 : decode (ib f_Mod_keepsTold) 240 = .ok (.aload_n 0, 1) := by decide +kernel
theorem d_Mod_keepsTold_241 : decode (ib f_Mod_keepsTold) 241 = .ok (.getfield 62, 3) := by decide +kernel
theorem d_Mod_keepsTold_244 : decode (ib f_Mod_keepsTold) 244 = .ok (.iload_n 1, 1) := by decide +kernel
theorem d_Mod_keepsTold_245 : decode (ib f_Mod_keepsTold) 245 = .ok (.iaload, 1) := by decide +kernel
theorem d_Mod_keepsTold_246 : decode (ib f_Mod_keepsTold) 246 = .ok (.invokevirtual 476, 3) := by decide +kernel
theorem d_Mod_keepsTold_249 : decode (ib f_Mod_keepsTold) 249 = .ok (.iastore, 1) := by decide +kernel
theorem d_Mod_keepsTold_250 : decode (ib f_Mod_keepsTold) 250 = .ok (.iinc 1 1, 3) := by decide +kernel
theorem d_Mod_keepsTold_253 : decode (ib f_Mod_keepsTold) 253 = .ok (.goto (-25), 3) := by decide +kernel
theorem d_Mod_keepsTold_256 : decode (ib f_Mod_keepsTold) 256 = .ok (.iconst 0, 1) := by decide +kernel
theorem d_Mod_keepsTold_257 : decode (ib f_Mod_keepsTold) 257 = .ok (.istore_n 1, 1) := by decide +kernel
theorem d_Mod_keepsTold_258 : decode (ib f_Mod_keepsTold) 258 = .ok (.iload_n 1, 1) := by decide +kernel
theorem d_Mod_keepsTold_259 : decode (ib f_Mod_keepsTold) 259 = .ok (.bipush 80, 2) := by decide +kernel
theorem d_Mod_keepsTold_261 : decode (ib f_Mod_keepsTold) 261 = .ok (.if_icmp .ge 25, 3) := by decide +kernel
theorem d_Mod_keepsTold_264 : decode (ib f_Mod_keepsTold) 264 = .ok (.aload_n 0, 1) := by decide +kernel
theorem d_Mod_keepsTold_265 : decode (ib f_Mod_keepsTold) 265 = .ok (.getfield 56, 3) := by decide +kernel
theorem d_Mod_keepsTold_268 : decode (ib f_Mod_keepsTold) 268 = .ok (.iload_n 1, 1) := by decide +kernel
theorem d_Mod_keepsTold_269 : decode (ib f_Mod_keepsTold) 269 = .ok (.aload_n 0, 1) := by decide +kernel
theorem d_Mod_keepsTold_270 : decode (ib f_Mod_keepsTold) 270 = .ok (.aload_n 0, 1) := by decide +kernel
theorem d_Mod_keepsTold_271 : decode (ib f_Mod_keepsTold) 271 = .ok (.getfield 56, 3) := by decide +kernel
theorem d_Mod_keepsTold_274 : decode (ib f_Mod_keepsTold) 274 = .ok (.iload_n 1, 1) := by decide +kernel
theorem d_Mod_keepsTold_275 : decode (ib f_Mod_keepsTold) 275 = .ok (.iaload, 1) := by decide +kernel
theorem d_Mod_keepsTold_276 : decode (ib f_Mod_keepsTold) 276 = .ok (.invokevirtual 476, 3) := by decide +kernel
theorem d_Mod_keepsTold_279 : decode (ib f_Mod_keepsTold) 279 = .ok (.iastore, 1) := by decide +kernel
theorem d_Mod_keepsTold_280 : decode (ib f_Mod_keepsTold) 280 = .ok (.iinc 1 1, 3) := by decide +kernel
theorem d_Mod_keepsTold_283 : decode (ib f_Mod_keepsTold) 283 = .ok (.goto (-25), 3) := by decide +kernel
theorem d_Mod_keepsTold_286 : decode (ib f_Mod_keepsTold) 286 = .ok (.iconst 0, 1) := by decide +kernel
theorem d_Mod_keepsTold_287 : decode (ib f_Mod_keepsTold) 287 = .ok (.istore_n 1, 1) := by decide +kernel
theorem d_Mod_keepsTold_288 : decode (ib f_Mod_keepsTold) 288 = .ok (.iload_n 1, 1) := by decide +kernel
theorem d_Mod_keepsTold_289 : decode (ib f_Mod_keepsTold) 289 = .ok (.bipush 64, 2) := by decide +kernel
theorem d_Mod_keepsTold_291 : decode (ib f_Mod_keepsTold) 291 = .ok (.if_icmp .ge 25, 3) := by decide +kernel
theorem d_Mod_keepsTold_294 : decode (ib f_Mod_keepsTold) 294 = .ok (.aload_n 0, 1) := by decide +kernel
theorem d_Mod_keepsTold_295 : decode (ib f_Mod_keepsTold) 295 = .ok (.getfield 59, 3) := by decide +kernel
theorem d_Mod_keepsTold_298 : decode (ib f_Mod_keepsTold) 298 = .ok (.iload_n 1, 1) := by decide +kernel
theorem d_Mod_keepsTold_299 : decode (ib f_Mod_keepsTold) 299 = .ok (.aload_n 0, 1) := by decide +kernel
theorem d_Mod_keepsTold_300 : decode (ib f_Mod_keepsTold) 300 = .ok (.aload_n 0, 1) := by decide +kernel
theorem d_Mod_keepsTold_301 : decode (ib f_Mod_keepsTold) 301 = .ok (.getfield 59, 3) := by decide +kernel
theorem d_Mod_keepsTold_304 : decode (ib f_Mod_keepsTold) 304 = .ok (.iload_n 1, 1) := by decide +kernel
theorem d_Mod_keepsTold_305 : decode (ib f_Mod_keepsTold) 305 = .ok (.iaload, 1) := by decide +kernel
theorem d_Mod_keepsTold_306 : decode (ib f_Mod_keepsTold) 306 = .ok (.invokevirtual 476, 3) := by decide +kernel
theorem d_Mod_keepsTold_309 : decode (ib f_Mod_keepsTold) 309 = .ok (.iastore, 1) := by decide +kernel
theorem d_Mod_keepsTold_310 : decode (ib f_Mod_keepsTold) 310 = .ok (.iinc 1 1, 3) := by decide +kernel
theorem d_Mod_keepsTold_313 : decode (ib f_Mod_keepsTold) 313 = .ok (.goto (-25), 3) := by decide +kernel
theorem d_Mod_keepsTold_316 : decode (ib f_Mod_keepsTold) 316 = .ok (.return_, 1) := by decide +kernel
theorem d_Mod_image_0 : decode (ib f_Mod_image) 0 = .ok (.aload_n 0, 1) := by decide +kernel
theorem d_Mod_image_1 : decode (ib f_Mod_image) 1 = .ok (.iconst 0, 1) := by decide +kernel
theorem d_Mod_image_2 : decode (ib f_Mod_image) 2 = .ok (.putfield 107, 3) := by decide +kernel
theorem d_Mod_image_5 : decode (ib f_Mod_image) 5 = .ok (.iload_n 1, 1) := by decide +kernel
theorem d_Mod_image_6 : decode (ib f_Mod_image) 6 = .ok (.ifCond .ne 12, 3) := by decide +kernel
theorem d_Mod_image_9 : decode (ib f_Mod_image) 9 = .ok (.aload_n 0, 1) := by decide +kernel
theorem d_Mod_image_10 : decode (ib f_Mod_image) 10 = .ok (.getfield 479, 3) := by decide +kernel
theorem d_Mod_image_13 : decode (ib f_Mod_image) 13 = .ok (.ifCond .ne 5, 3) := by decide +kernel
theorem d_Mod_image_16 : decode (ib f_Mod_image) 16 = .ok (.iconst 0, 1) := by decide +kernel
theorem d_Mod_image_17 : decode (ib f_Mod_image) 17 = .ok (.ireturn, 1) := by decide +kernel
theorem d_Mod_image_18 : decode (ib f_Mod_image) 18 = .ok (.aload_n 0, 1) := by decide +kernel
theorem d_Mod_image_19 : decode (ib f_Mod_image) 19 = .ok (.iload_n 1, 1) := by decide +kernel
theorem d_Mod_image_20 : decode (ib f_Mod_image) 20 = .ok (.putfield 473, 3) := by decide +kernel
theorem d_Mod_image_23 : decode (ib f_Mod_image) 23 = .ok (.aload_n 0, 1) := by decide +kernel
theorem d_Mod_image_24 : decode (ib f_Mod_image) 24 = .ok (.iconst 1, 1) := by decide +kernel
theorem d_Mod_image_25 : decode (ib f_Mod_image) 25 = .ok (.putfield 479, 3) := by decide +kernel
theorem d_Mod_image_28 : decode (ib f_Mod_image) 28 = .ok (.aload_n 0, 1) := by decide +kernel
theorem d_Mod_image_29 : decode (ib f_Mod_image) 29 = .ok (.iconst 0, 1) := by decide +kernel
theorem d_Mod_image_30 : decode (ib f_Mod_image) 30 = .ok (.putfield 470, 3) := by decide +kernel
theorem d_Mod_image_33 : decode (ib f_Mod_image) 33 = .ok (.iconst 0, 1) := by decide +kernel
theorem d_Mod_image_34 : decode (ib f_Mod_image) 34 = .ok (.istore_n 2, 1) := by decide +kernel
theorem d_Mod_image_35 : decode (ib f_Mod_image) 35 = .ok (.iload_n 2, 1) := by decide +kernel
theorem d_Mod_image_36 : decode (ib f_Mod_image) 36 = .ok (.sipush 270, 3) := by decide +kernel
theorem d_Mod_image_39 : decode (ib f_Mod_image) 39 = .ok (.if_icmp .ge 25, 3) := by decide +kernel
theorem d_Mod_image_42 : decode (ib f_Mod_image) 42 = .ok (.aload_n 0, 1) := by decide +kernel
theorem d_Mod_image_43 : decode (ib f_Mod_image) 43 = .ok (.getfield 7, 3) := by decide +kernel
theorem d_Mod_image_46 : decode (ib f_Mod_image) 46 = .ok (.iload_n 2, 1) := by decide +kernel
theorem d_Mod_image_47 : decode (ib f_Mod_image) 47 = .ok (.aload_n 0, 1) := by decide +kernel
theorem d_Mod_image_48 : decode (ib f_Mod_image) 48 = .ok (.aload_n 0, 1) := by decide +kernel
theorem d_Mod_image_49 : decode (ib f_Mod_image) 49 = .ok (.getfield 7, 3) := by decide +kernel
theorem d_Mod_image_52 : decode (ib f_Mod_image) 52 = .ok (.iload_n 2, 1) := by decide +kernel
theorem d_Mod_image_53 : decode (ib f_Mod_image) 53 = .ok (.iaload, 1) := by decide +kernel
theorem d_Mod_image_54 : decode (ib f_Mod_image) 54 = .ok (.invokevirtual 476, 3) := by decide +kernel
theorem d_Mod_image_57 : decode (ib f_Mod_image) 57 = .ok (.iastore, 1) := by decide +kernel
theorem d_Mod_image_58 : decode (ib f_Mod_image) 58 = .ok (.iinc 2 1, 3) := by decide +kernel
theorem d_Mod_image_61 : decode (ib f_Mod_image) 61 = .ok (.goto (-26), 3) := by decide +kernel
theorem d_Mod_image_64 : decode (ib f_Mod_image) 64 = .ok (.aload_n 0, 1) := by decide +kernel
theorem d_Mod_image_65 : decode (ib f_Mod_image) 65 = .ok (.invokevirtual 482, 3) := by decide +kernel
theorem d_Mod_image_68 : decode (ib f_Mod_image) 68 = .ok (.iconst 0, 1) := by decide +kernel
theorem d_Mod_image_69 : decode (ib f_Mod_image) 69 = .ok (.istore_n 2, 1) := by decide +kernel
theorem d_Mod_image_70 : decode (ib f_Mod_image) 70 = .ok (.iload_n 2, 1) := by decide +kernel
theorem d_Mod_image_71 : decode (ib f_Mod_image) 71 = .ok (.sipush 600, 3) := by decide +kernel
theorem d_Mod_image_74 : decode (ib f_Mod_image) 74 = .ok (.if_icmp .ge 25, 3) := by decide +kernel
theorem d_Mod_image_77 : decode (ib f_Mod_image) 77 = .ok (.aload_n 0, 1) := by decide +kernel
theorem d_Mod_image_78 : decode (ib f_Mod_image) 78 = .ok (.getfield 19, 3) := by decide +kernel
theorem d_Mod_image_81 : decode (ib f_Mod_image) 81 = .ok (.iload_n 2, 1) := by decide +kernel
theorem d_Mod_image_82 : decode (ib f_Mod_image) 82 = .ok (.aload_n 0, 1) := by decide +kernel
theorem d_Mod_image_83 : decode (ib f_Mod_image) 83 = .ok (.aload_n 0, 1) := by decide +kernel
theorem d_Mod_image_84 : decode (ib f_Mod_image) 84 = .ok (.getfield 19, 3) := by decide +kernel
theorem d_Mod_image_87 : decode (ib f_Mod_image) 87 = .ok (.iload_n 2, 1) := by decide +kernel
theorem d_Mod_image_88 : decode (ib f_Mod_image) 88 = .ok (.iaload, 1) := by decide +kernel
theorem d_Mod_image_89 : decode (ib f_Mod_image) 89 = .ok (.invokevirtual 476, 3) := by decide +kernel
theorem d_Mod_image_92 : decode (ib f_Mod_image) 92 = .ok (.iastore, 1) := by decide +kernel
theorem d_Mod_image_93 : decode (ib f_Mod_image) 93 = .ok (.iinc 2 1, 3) := by decide +kernel
theorem d_Mod_image_96 : decode (ib f_Mod_image) 96 = .ok (.goto (-26), 3) := by decide +kernel
theorem d_Mod_image_99 : decode (ib f_Mod_image) 99 = .ok (.aload_n 0, 1) := by decide +kernel
theorem d_Mod_image_100 : decode (ib f_Mod_image) 100 = .ok (.invokevirtual 485, 3) := by decide +kernel
theorem d_Mod_image_103 : decode (ib f_Mod_image) 103 = .ok (.iload_n 1, 1) := by decide +kernel
theorem d_Mod_image_104 : decode (ib f_Mod_image) 104 = .ok (.ifCond .ne 8, 3) := by decide +kernel
theorem d_Mod_image_107 : decode (ib f_Mod_image) 107 = .ok (.aload_n 0, 1) := by decide +kernel
theorem d_Mod_image_108 : decode (ib f_Mod_image) 108 = .ok (.iconst 0, 1) := by decide +kernel
theorem d_Mod_image_109 : decode (ib f_Mod_image) 109 = .ok (.putfield 111, 3) := by decide +kernel
theorem d_Mod_image_112 : decode (ib f_Mod_image) 112 = .ok (.iconst 1, 1) := by decide +kernel
theorem d_Mod_image_113 : decode (ib f_Mod_image) 113 = .ok (.ireturn, 1) := by decide +kernel
theorem d_Mod_look_0 : decode (ib f_Mod_look) 0 = .ok (.aload_n 0, 1) := by decide +kernel
theorem d_Mod_look_1 : decode (ib f_Mod_look) 1 = .ok (.iconst 0, 1) := by decide +kernel
theorem d_Mod_look_2 : decode (ib f_Mod_look) 2 = .ok (.putfield 107, 3) := by decide +kernel
theorem d_Mod_look_5 : decode (ib f_Mod_look) 5 = .ok (.iload_n 1, 1) := by decide +kernel
theorem d_Mod_look_6 : decode (ib f_Mod_look) 6 = .ok (.ifCond .ne 11, 3) := by decide +kernel
theorem d_Mod_look_9 : decode (ib f_Mod_look) 9 = .ok (.aload_n 0, 1) := by decide +kernel
theorem d_Mod_look_10 : decode (ib f_Mod_look) 10 = .ok (.getfield 7, 3) := by decide +kernel
theorem d_Mod_look_13 : decode (ib f_Mod_look) 13 = .ok (.bipush 8, 2) := by decide +kernel
theorem d_Mod_look_15 : decode (ib f_Mod_look) 15 = .ok (.iaload, 1) := by decide +kernel
theorem d_Mod_look_16 : decode (ib f_Mod_look) 16 = .ok (.ireturn, 1) := by decide +kernel
theorem d_Mod_look_17 : decode (ib f_Mod_look) 17 = .ok (.iload_n 1, 1) := by decide +kernel
theorem d_Mod_look_18 : decode (ib f_Mod_look) 18 = .ok (.iconst 1, 1) := by decide +kernel
theorem d_Mod_look_19 : decode (ib f_Mod_look) 19 = .ok (.if_icmp .ne 10, 3) := by decide +kernel
theorem d_Mod_look_22 : decode (ib f_Mod_look) 22 = .ok (.aload_n 0, 1) := by decide +kernel
theorem d_Mod_look_23 : decode (ib f_Mod_look) 23 = .ok (.getfield 7, 3) := by decide +kernel
theorem d_Mod_look_26 : decode (ib f_Mod_look) 26 = .ok (.iconst 5, 1) := by decide +kernel
theorem d_Mod_look_27 : decode (ib f_Mod_look) 27 = .ok (.iaload, 1) := by decide +kernel
theorem d_Mod_look_28 : decode (ib f_Mod_look) 28 = .ok (.ireturn, 1) := by decide +kernel
theorem d_Mod_look_29 : decode (ib f_Mod_look) 29 = .ok (.iload_n 1, 1) := by decide +kernel
theorem d_Mod_look_30 : decode (ib f_Mod_look) 30 = .ok (.iconst 2, 1) := by decide +kernel
theorem d_Mod_look_31 : decode (ib f_Mod_look) 31 = .ok (.if_icmp .ne 11, 3) := by decide +kernel
theorem d_Mod_look_34 : decode (ib f_Mod_look) 34 = .ok (.aload_n 0, 1) := by decide +kernel
theorem d_Mod_look_35 : decode (ib f_Mod_look) 35 = .ok (.getfield 7, 3) := by decide +kernel
theorem d_Mod_look_38 : decode (ib f_Mod_look) 38 = .ok (.bipush 6, 2) := by decide +kernel
theorem d_Mod_look_40 : decode (ib f_Mod_look) 40 = .ok (.iaload, 1) := by decide +kernel
theorem d_Mod_look_41 : decode (ib f_Mod_look) 41 = .ok (.ireturn, 1) := by decide +kernel
theorem d_Mod_look_42 : decode (ib f_Mod_look) 42 = .ok (.iload_n 1, 1) := by decide +kernel
theorem d_Mod_look_43 : decode (ib f_Mod_look) 43 = .ok (.iconst 3, 1) := by decide +kernel
theorem d_Mod_look_44 : decode (ib f_Mod_look) 44 = .ok (.if_icmp .ne 11, 3) := by decide +kernel
theorem d_Mod_look_47 : decode (ib f_Mod_look) 47 = .ok (.aload_n 0, 1) := by decide +kernel
theorem d_Mod_look_48 : decode (ib f_Mod_look) 48 = .ok (.getfield 7, 3) := by decide +kernel
theorem d_Mod_look_51 : decode (ib f_Mod_look) 51 = .ok (.bipush 7, 2) := by decide +kernel
theorem d_Mod_look_53 : decode (ib f_Mod_look) 53 = .ok (.iaload, 1) := by decide +kernel
theorem d_Mod_look_54 : decode (ib f_Mod_look) 54 = .ok (.ireturn, 1) := by decide +kernel
theorem d_Mod_look_55 : decode (ib f_Mod_look) 55 = .ok (.iload_n 1, 1) := by decide +kernel
theorem d_Mod_look_56 : decode (ib f_Mod_look) 56 = .ok (.iconst 4, 1) := by decide +kernel
theorem d_Mod_look_57 : decode (ib f_Mod_look) 57 = .ok (.if_icmp .ne 10, 3) := by decide +kernel
theorem d_Mod_look_60 : decode (ib f_Mod_look) 60 = .ok (.aload_n 0, 1) := by decide +kernel
theorem d_Mod_look_61 : decode (ib f_Mod_look) 61 = .ok (.getfield 7, 3) := by decide +kernel
theorem d_Mod_look_64 : decode (ib f_Mod_look) 64 = .ok (.iconst 3, 1) := by decide +kernel
theorem d_Mod_look_65 : decode (ib f_Mod_look) 65 = .ok (.iaload, 1) := by decide +kernel
theorem d_Mod_look_66 : decode (ib f_Mod_look) 66 = .ok (.ireturn, 1) := by decide +kernel
theorem d_Mod_look_67 : decode (ib f_Mod_look) 67 = .ok (.iload_n 1, 1) := by decide +kernel
theorem d_Mod_look_68 : decode (ib f_Mod_look) 68 = .ok (.iconst 5, 1) := by decide +kernel
theorem d_Mod_look_69 : decode (ib f_Mod_look) 69 = .ok (.if_icmp .ne 10, 3) := by decide +kernel
theorem d_Mod_look_72 : decode (ib f_Mod_look) 72 = .ok (.aload_n 0, 1) := by decide +kernel
theorem d_Mod_look_73 : decode (ib f_Mod_look) 73 = .ok (.getfield 7, 3) := by decide +kernel
theorem d_Mod_look_76 : decode (ib f_Mod_look) 76 = .ok (.iconst 4, 1) := by decide +kernel
theorem d_Mod_look_77 : decode (ib f_Mod_look) 77 = .ok (.iaload, 1) := by decide +kernel
theorem d_Mod_look_78 : decode (ib f_Mod_look) 78 = .ok (.ireturn, 1) := by decide +kernel
theorem d_Mod_look_79 : decode (ib f_Mod_look) 79 = .ok (.iload_n 1, 1) := by decide +kernel
theorem d_Mod_look_80 : decode (ib f_Mod_look) 80 = .ok (.bipush 6, 2) := by decide +kernel
theorem d_Mod_look_82 : decode (ib f_Mod_look) 82 = .ok (.if_icmp .ne 8, 3) := by decide +kernel
theorem d_Mod_look_85 : decode (ib f_Mod_look) 85 = .ok (.aload_n 0, 1) := by decide +kernel
theorem d_Mod_look_86 : decode (ib f_Mod_look) 86 = .ok (.invokevirtual 385, 3) := by decide +kernel
theorem d_Mod_look_89 : decode (ib f_Mod_look) 89 = .ok (.ireturn, 1) := by decide +kernel
theorem d_Mod_look_90 : decode (ib f_Mod_look) 90 = .ok (.iload_n 1, 1) := by decide +kernel
theorem d_Mod_look_91 : decode (ib f_Mod_look) 91 = .ok (.bipush 7, 2) := by decide +kernel
theorem d_Mod_look_93 : decode (ib f_Mod_look) 93 = .ok (.if_icmp .ne 10, 3) := by decide +kernel
theorem d_Mod_look_96 : decode (ib f_Mod_look) 96 = .ok (.aload_n 0, 1) := by decide +kernel
theorem d_Mod_look_97 : decode (ib f_Mod_look) 97 = .ok (.getfield 7, 3) := by decide +kernel
theorem d_Mod_look_100 : decode (ib f_Mod_look) 100 = .ok (.iconst 0, 1) := by decide +kernel
theorem d_Mod_look_101 : decode (ib f_Mod_look) 101 = .ok (.iaload, 1) := by decide +kernel
theorem d_Mod_look_102 : decode (ib f_Mod_look) 102 = .ok (.ireturn, 1) := by decide +kernel
theorem d_Mod_look_103 : decode (ib f_Mod_look) 103 = .ok (.iload_n 1, 1) := by decide +kernel
theorem d_Mod_look_104 : decode (ib f_Mod_look) 104 = .ok (.bipush 8, 2) := by decide +kernel
theorem d_Mod_look_106 : decode (ib f_Mod_look) 106 = .ok (.if_icmp .ne 10, 3) := by decide +kernel
theorem d_Mod_look_109 : decode (ib f_Mod_look) 109 = .ok (.aload_n 0, 1) := by decide +kernel
theorem d_Mod_look_110 : decode (ib f_Mod_look) 110 = .ok (.getfield 7, 3) := by decide +kernel
theorem d_Mod_look_113 : decode (ib f_Mod_look) 113 = .ok (.iconst 2, 1) := by decide +kernel
theorem d_Mod_look_114 : decode (ib f_Mod_look) 114 = .ok (.iaload, 1) := by decide +kernel
theorem d_Mod_look_115 : decode (ib f_Mod_look) 115 = .ok (.ireturn, 1) := by decide +kernel
theorem d_Mod_look_116 : decode (ib f_Mod_look) 116 = .ok (.iload_n 1, 1) := by decide +kernel
theorem d_Mod_look_117 : decode (ib f_Mod_look) 117 = .ok (.bipush 9, 2) := by decide +kernel
theorem d_Mod_look_119 : decode (ib f_Mod_look) 119 = .ok (.if_icmp .ne 10, 3) := by decide +kernel
theorem d_Mod_look_122 : decode (ib f_Mod_look) 122 = .ok (.aload_n 0, 1) := by decide +kernel
theorem d_Mod_look_123 : decode (ib f_Mod_look) 123 = .ok (.getfield 7, 3) := by decide +kernel
theorem d_Mod_look_126 : decode (ib f_Mod_look) 126 = .ok (.iconst 1, 1) := by decide +kernel
theorem d_Mod_look_127 : decode (ib f_Mod_look) 127 = .ok (.iaload, 1) := by decide +kernel
theorem d_Mod_look_128 : decode (ib f_Mod_look) 128 = .ok (.ireturn, 1) := by decide +kernel
theorem d_Mod_look_129 : decode (ib f_Mod_look) 129 = .ok (.iload_n 1, 1) := by decide +kernel
theorem d_Mod_look_130 : decode (ib f_Mod_look) 130 = .ok (.bipush 10, 2) := by decide +kernel
theorem d_Mod_look_132 : decode (ib f_Mod_look) 132 = .ok (.if_icmp .ne 10, 3) := by decide +kernel
theorem d_Mod_look_135 : decode (ib f_Mod_look) 135 = .ok (.aload_n 0, 1) := by decide +kernel
theorem d_Mod_look_136 : decode (ib f_Mod_look) 136 = .ok (.getfield 28, 3) := by decide +kernel
theorem d_Mod_look_139 : decode (ib f_Mod_look) 139 = .ok (.iconst 0, 1) := by decide +kernel
theorem d_Mod_look_140 : decode (ib f_Mod_look) 140 = .ok (.iaload, 1) := by decide +kernel
theorem d_Mod_look_141 : decode (ib f_Mod_look) 141 = .ok (.ireturn, 1) := by decide +kernel
theorem d_Mod_look_142 : decode (ib f_Mod_look) 142 = .ok (.iload_n 1, 1) := by decide +kernel
theorem d_Mod_look_143 : decode (ib f_Mod_look) 143 = .ok (.bipush 11, 2) := by decide +kernel
theorem d_Mod_look_145 : decode (ib f_Mod_look) 145 = .ok (.if_icmp .ne 8, 3) := by decide +kernel
theorem d_Mod_look_148 : decode (ib f_Mod_look) 148 = .ok (.aload_n 0, 1) := by decide +kernel
theorem d_Mod_look_149 : decode (ib f_Mod_look) 149 = .ok (.getfield 282, 3) := by decide +kernel
theorem d_Mod_look_152 : decode (ib f_Mod_look) 152 = .ok (.ireturn, 1) := by decide +kernel
theorem d_Mod_look_153 : decode (ib f_Mod_look) 153 = .ok (.iload_n 1, 1) := by decide +kernel
theorem d_Mod_look_154 : decode (ib f_Mod_look) 154 = .ok (.bipush 12, 2) := by decide +kernel
theorem d_Mod_look_156 : decode (ib f_Mod_look) 156 = .ok (.if_icmp .ne 8, 3) := by decide +kernel
theorem d_Mod_look_159 : decode (ib f_Mod_look) 159 = .ok (.aload_n 0, 1) := by decide +kernel
theorem d_Mod_look_160 : decode (ib f_Mod_look) 160 = .ok (.getfield 285, 3) := by decide +kernel
theorem d_Mod_look_163 : decode (ib f_Mod_look) 163 = .ok (.ireturn, 1) := by decide +kernel
theorem d_Mod_look_164 : decode (ib f_Mod_look) 164 = .ok (.iload_n 1, 1) := by decide +kernel
theorem d_Mod_look_165 : decode (ib f_Mod_look) 165 = .ok (.bipush 13, 2) := by decide +kernel
theorem d_Mod_look_167 : decode (ib f_Mod_look) 167 = .ok (.if_icmp .ne 8, 3) := by decide +kernel
theorem d_Mod_look_170 : decode (ib f_Mod_look) 170 = .ok (.aload_n 0, 1) := by decide +kernel
theorem d_Mod_look_171 : decode (ib f_Mod_look) 171 = .ok (.getfield 279, 3) := by decide +kernel
theorem d_Mod_look_174 : decode (ib f_Mod_look) 174 = .ok (.ireturn, 1) := by decide +kernel
theorem d_Mod_look_175 : decode (ib f_Mod_look) 175 = .ok (.iload_n 1, 1) := by decide +kernel
theorem d_Mod_look_176 : decode (ib f_Mod_look) 176 = .ok (.bipush 14, 2) := by decide +kernel
theorem d_Mod_look_178 : decode (ib f_Mod_look) 178 = .ok (.if_icmp .ne 10, 3) := by decide +kernel
theorem d_Mod_look_181 : decode (ib f_Mod_look) 181 = .ok (.aload_n 0, 1) := by decide +kernel
theorem d_Mod_look_182 : decode (ib f_Mod_look) 182 = .ok (.getfield 111, 3) := by decide +kernel
theorem d_Mod_look_185 : decode (ib f_Mod_look) 185 = .ok (.goto 4, 3) := by decide +kernel
theorem d_Mod_look_188 : decode (ib f_Mod_look) 188 = .ok (.iconst (-1), 1) := by decide +kernel
theorem d_Mod_look_189 : decode (ib f_Mod_look) 189 = .ok (.ireturn, 1) := by decide +kernel
theorem d_Integer_bitCount_0 : decode (ib f_Integer_bitCount) 0 = .ok (.iload_n 0, 1) := by decide +kernel
theorem d_Integer_bitCount_1 : decode (ib f_Integer_bitCount) 1 = .ok (.iload_n 0, 1) := by decide +kernel
theorem d_Integer_bitCount_2 : decode (ib f_Integer_bitCount) 2 = .ok (.iconst 1, 1) := by decide +kernel
theorem d_Integer_bitCount_3 : decode (ib f_Integer_bitCount) 3 = .ok (.iushr, 1) := by decide +kernel
theorem d_Integer_bitCount_4 : decode (ib f_Integer_bitCount) 4 = .ok (.ldc_w 265, 3) := by decide +kernel
theorem d_Integer_bitCount_7 : decode (ib f_Integer_bitCount) 7 = .ok (.iand, 1) := by decide +kernel
theorem d_Integer_bitCount_8 : decode (ib f_Integer_bitCount) 8 = .ok (.isub, 1) := by decide +kernel
theorem d_Integer_bitCount_9 : decode (ib f_Integer_bitCount) 9 = .ok (.istore_n 0, 1) := by decide +kernel
theorem d_Integer_bitCount_10 : decode (ib f_Integer_bitCount) 10 = .ok (.iload_n 0, 1) := by decide +kernel
theorem d_Integer_bitCount_11 : decode (ib f_Integer_bitCount) 11 = .ok (.ldc_w 266, 3) := by decide +kernel
theorem d_Integer_bitCount_14 : decode (ib f_Integer_bitCount) 14 = .ok (.iand, 1) := by decide +kernel
theorem d_Integer_bitCount_15 : decode (ib f_Integer_bitCount) 15 = .ok (.iload_n 0, 1) := by decide +kernel
theorem d_Integer_bitCount_16 : decode (ib f_Integer_bitCount) 16 = .ok (.iconst 2, 1) := by decide +kernel
theorem d_Integer_bitCount_17 : decode (ib f_Integer_bitCount) 17 = .ok (.iushr, 1) := by decide +kernel
theorem d_Integer_bitCount_18 : decode (ib f_Integer_bitCount) 18 = .ok (.ldc_w 266, 3) := by decide +kernel
theorem d_Integer_bitCount_21 : decode (ib f_Integer_bitCount) 21 = .ok (.iand, 1) := by decide +kernel
theorem d_Integer_bitCount_22 : decode (ib f_Integer_bitCount) 22 = .ok (.iadd, 1) := by decide +kernel
theorem d_Integer_bitCount_23 : decode (ib f_Integer_bitCount) 23 = .ok (.istore_n 0, 1) := by decide +kernel
theorem d_Integer_bitCount_24 : decode (ib f_Integer_bitCount) 24 = .ok (.iload_n 0, 1) := by decide +kernel
theorem d_Integer_bitCount_25 : decode (ib f_Integer_bitCount) 25 = .ok (.iload_n 0, 1) := by decide +kernel
theorem d_Integer_bitCount_26 : decode (ib f_Integer_bitCount) 26 = .ok (.iconst 4, 1) := by decide +kernel
theorem d_Integer_bitCount_27 : decode (ib f_Integer_bitCount) 27 = .ok (.iushr, 1) := by decide +kernel
theorem d_Integer_bitCount_28 : decode (ib f_Integer_bitCount) 28 = .ok (.iadd, 1) := by decide +kernel
theorem d_Integer_bitCount_29 : decode (ib f_Integer_bitCount) 29 = .ok (.ldc_w 267, 3) := by decide +kernel
theorem d_Integer_bitCount_32 : decode (ib f_Integer_bitCount) 32 = .ok (.iand, 1) := by decide +kernel
theorem d_Integer_bitCount_33 : decode (ib f_Integer_bitCount) 33 = .ok (.istore_n 0, 1) := by decide +kernel
theorem d_Integer_bitCount_34 : decode (ib f_Integer_bitCount) 34 = .ok (.iload_n 0, 1) := by decide +kernel
theorem d_Integer_bitCount_35 : decode (ib f_Integer_bitCount) 35 = .ok (.iload_n 0, 1) := by decide +kernel
theorem d_Integer_bitCount_36 : decode (ib f_Integer_bitCount) 36 = .ok (.bipush 8, 2) := by decide +kernel
theorem d_Integer_bitCount_38 : decode (ib f_Integer_bitCount) 38 = .ok (.iushr, 1) := by decide +kernel
theorem d_Integer_bitCount_39 : decode (ib f_Integer_bitCount) 39 = .ok (.iadd, 1) := by decide +kernel
theorem d_Integer_bitCount_40 : decode (ib f_Integer_bitCount) 40 = .ok (.istore_n 0, 1) := by decide +kernel
theorem d_Integer_bitCount_41 : decode (ib f_Integer_bitCount) 41 = .ok (.iload_n 0, 1) := by decide +kernel
theorem d_Integer_bitCount_42 : decode (ib f_Integer_bitCount) 42 = .ok (.iload_n 0, 1) := by decide +kernel
theorem d_Integer_bitCount_43 : decode (ib f_Integer_bitCount) 43 = .ok (.bipush 16, 2) := by decide +kernel
theorem d_Integer_bitCount_45 : decode (ib f_Integer_bitCount) 45 = .ok (.iushr, 1) := by decide +kernel
theorem d_Integer_bitCount_46 : decode (ib f_Integer_bitCount) 46 = .ok (.iadd, 1) := by decide +kernel
theorem d_Integer_bitCount_47 : decode (ib f_Integer_bitCount) 47 = .ok (.istore_n 0, 1) := by decide +kernel
theorem d_Integer_bitCount_48 : decode (ib f_Integer_bitCount) 48 = .ok (.iload_n 0, 1) := by decide +kernel
theorem d_Integer_bitCount_49 : decode (ib f_Integer_bitCount) 49 = .ok (.bipush 63, 2) := by decide +kernel
theorem d_Integer_bitCount_51 : decode (ib f_Integer_bitCount) 51 = .ok (.iand, 1) := by decide +kernel
theorem d_Integer_bitCount_52 : decode (ib f_Integer_bitCount) 52 = .ok (.ireturn, 1) := by decide +kernel
theorem d_Math_abs_0 : decode (ib f_Math_abs) 0 = .ok (.iload_n 0, 1) := by decide +kernel
theorem d_Math_abs_1 : decode (ib f_Math_abs) 1 = .ok (.ifCond .ge 8, 3) := by decide +kernel
theorem d_Math_abs_4 : decode (ib f_Math_abs) 4 = .ok (.iload_n 0, 1) := by decide +kernel
theorem d_Math_abs_5 : decode (ib f_Math_abs) 5 = .ok (.ineg, 1) := by decide +kernel
theorem d_Math_abs_6 : decode (ib f_Math_abs) 6 = .ok (.goto 4, 3) := by decide +kernel
theorem d_Math_abs_9 : decode (ib f_Math_abs) 9 = .ok (.iload_n 0, 1) := by decide +kernel
theorem d_Math_abs_10 : decode (ib f_Math_abs) 10 = .ok (.ireturn, 1) := by decide +kernel
theorem d_Math_max_0 : decode (ib f_Math_max) 0 = .ok (.iload_n 0, 1) := by decide +kernel
theorem d_Math_max_1 : decode (ib f_Math_max) 1 = .ok (.iload_n 1, 1) := by decide +kernel
theorem d_Math_max_2 : decode (ib f_Math_max) 2 = .ok (.if_icmp .lt 7, 3) := by decide +kernel
theorem d_Math_max_5 : decode (ib f_Math_max) 5 = .ok (.iload_n 0, 1) := by decide +kernel
theorem d_Math_max_6 : decode (ib f_Math_max) 6 = .ok (.goto 4, 3) := by decide +kernel
theorem d_Math_max_9 : decode (ib f_Math_max) 9 = .ok (.iload_n 1, 1) := by decide +kernel
theorem d_Math_max_10 : decode (ib f_Math_max) 10 = .ok (.ireturn, 1) := by decide +kernel
theorem d_Math_min_0 : decode (ib f_Math_min) 0 = .ok (.iload_n 0, 1) := by decide +kernel
theorem d_Math_min_1 : decode (ib f_Math_min) 1 = .ok (.iload_n 1, 1) := by decide +kernel
theorem d_Math_min_2 : decode (ib f_Math_min) 2 = .ok (.if_icmp .gt 7, 3) := by decide +kernel
theorem d_Math_min_5 : decode (ib f_Math_min) 5 = .ok (.iload_n 0, 1) := by decide +kernel
theorem d_Math_min_6 : decode (ib f_Math_min) 6 = .ok (.goto 4, 3) := by decide +kernel
theorem d_Math_min_9 : decode (ib f_Math_min) 9 = .ok (.iload_n 1, 1) := by decide +kernel
theorem d_Math_min_10 : decode (ib f_Math_min) 10 = .ok (.ireturn, 1) := by decide +kernel
theorem d_String_length_0 : decode (ib f_String_length) 0 = .ok (.aload_n 0, 1) := by decide +kernel
theorem d_String_length_1 : decode (ib f_String_length) 1 = .ok (.getfield 9, 3) := by decide +kernel
theorem d_String_length_4 : decode (ib f_String_length) 4 = .ok (.arraylength, 1) := by decide +kernel
theorem d_String_length_5 : decode (ib f_String_length) 5 = .ok (.aload_n 0, 1) := by decide +kernel
theorem d_String_length_6 : decode (ib f_String_length) 6 = .ok (.invokevirtual 335, 3) := by decide +kernel
theorem d_String_length_9 : decode (ib f_String_length) 9 = .ok (.ishr, 1) := by decide +kernel
theorem d_String_length_10 : decode (ib f_String_length) 10 = .ok (.ireturn, 1) := by decide +kernel
theorem d_String_charAt_0 : decode (ib f_String_charAt) 0 = .ok (.aload_n 0, 1) := by decide +kernel
theorem d_String_charAt_1 : decode (ib f_String_charAt) 1 = .ok (.invokevirtual 492, 3) := by decide +kernel
theorem d_String_charAt_4 : decode (ib f_String_charAt) 4 = .ok (.ifCond .eq 12, 3) := by decide +kernel
theorem d_String_charAt_7 : decode (ib f_String_charAt) 7 = .ok (.aload_n 0, 1) := by decide +kernel
theorem d_String_charAt_8 : decode (ib f_String_charAt) 8 = .ok (.getfield 9, 3) := by decide +kernel
theorem d_String_charAt_11 : decode (ib f_String_charAt) 11 = .ok (.iload_n 1, 1) := by decide +kernel
theorem d_String_charAt_12 : decode (ib f_String_charAt) 12 = .ok (.invokestatic 495, 3) := by decide +kernel
theorem d_String_charAt_15 : decode (ib f_String_charAt) 15 = .ok (.ireturn, 1) := by decide +kernel
theorem d_String_charAt_16 : decode (ib f_String_charAt) 16 = .ok (.aload_n 0, 1) := by decide +kernel
theorem d_String_charAt_17 : decode (ib f_String_charAt) 17 = .ok (.getfield 9, 3) := by decide +kernel
theorem d_String_charAt_20 : decode (ib f_String_charAt) 20 = .ok (.iload_n 1, 1) := by decide +kernel
theorem d_String_charAt_21 : decode (ib f_String_charAt) 21 = .ok (.invokestatic 498, 3) := by decide +kernel
theorem d_String_charAt_24 : decode (ib f_String_charAt) 24 = .ok (.ireturn, 1) := by decide +kernel
theorem d_String_indexOf_0f7a4_0 : decode (ib f_String_indexOf_0f7a4) 0 = .ok (.aload_n 0, 1) := by decide +kernel
theorem d_String_indexOf_0f7a4_1 : decode (ib f_String_indexOf_0f7a4) 1 = .ok (.iload_n 1, 1) := by decide +kernel
theorem d_String_indexOf_0f7a4_2 : decode (ib f_String_indexOf_0f7a4) 2 = .ok (.iconst 0, 1) := by decide +kernel
theorem d_String_indexOf_0f7a4_3 : decode (ib f_String_indexOf_0f7a4) 3 = .ok (.invokevirtual 633, 3) := by decide +kernel
theorem d_String_indexOf_0f7a4_6 : decode (ib f_String_indexOf_0f7a4) 6 = .ok (.ireturn, 1) := by decide +kernel
theorem d_String_indexOf_7cf53_0 : decode (ib f_String_indexOf_7cf53) 0 = .ok (.aload_n 0, 1) := by decide +kernel
theorem d_String_indexOf_7cf53_1 : decode (ib f_String_indexOf_7cf53) 1 = .ok (.invokevirtual 492, 3) := by decide +kernel
theorem d_String_indexOf_7cf53_4 : decode (ib f_String_indexOf_7cf53) 4 = .ok (.ifCond .eq 19, 3) := by decide +kernel
theorem d_String_indexOf_7cf53_7 : decode (ib f_String_indexOf_7cf53) 7 = .ok (.aload_n 0, 1) := by decide +kernel
theorem d_String_indexOf_7cf53_8 : decode (ib f_String_indexOf_7cf53) 8 = .ok (.getfield 9, 3) := by decide +kernel
theorem d_String_indexOf_7cf53_11 : decode (ib f_String_indexOf_7cf53) 11 = .ok (.iload_n 1, 1) := by decide +kernel
theorem d_String_indexOf_7cf53_12 : decode (ib f_String_indexOf_7cf53) 12 = .ok (.iload_n 2, 1) := by decide +kernel
theorem d_String_indexOf_7cf53_13 : decode (ib f_String_indexOf_7cf53) 13 = .ok (.aload_n 0, 1) := by decide +kernel
theorem d_String_indexOf_7cf53_14 : decode (ib f_String_indexOf_7cf53) 14 = .ok (.invokevirtual 505, 3) := by decide +kernel
theorem d_String_indexOf_7cf53_17 : decode (ib f_String_indexOf_7cf53) 17 = .ok (.invokestatic 637, 3) := by decide +kernel
theorem d_String_indexOf_7cf53_20 : decode (ib f_String_indexOf_7cf53) 20 = .ok (.goto 16, 3) := by decide +kernel
theorem d_String_indexOf_7cf53_23 : decode (ib f_String_indexOf_7cf53) 23 = .ok (.aload_n 0, 1) := by decide +kernel
theorem d_String_indexOf_7cf53_24 : decode (ib f_String_indexOf_7cf53) 24 = .ok (.getfield 9, 3) := by decide +kernel
theorem d_String_indexOf_7cf53_27 : decode (ib f_String_indexOf_7cf53) 27 = .ok (.iload_n 1, 1) := by decide +kernel
theorem d_String_indexOf_7cf53_28 : decode (ib f_String_indexOf_7cf53) 28 = .ok (.iload_n 2, 1) := by decide +kernel
theorem d_String_indexOf_7cf53_29 : decode (ib f_String_indexOf_7cf53) 29 = .ok (.aload_n 0, 1) := by decide +kernel
theorem d_String_indexOf_7cf53_30 : decode (ib f_String_indexOf_7cf53) 30 = .ok (.invokevirtual 505, 3) := by decide +kernel
theorem d_String_indexOf_7cf53_33 : decode (ib f_String_indexOf_7cf53) 33 = .ok (.invokestatic 640, 3) := by decide +kernel
theorem d_String_indexOf_7cf53_36 : decode (ib f_String_indexOf_7cf53) 36 = .ok (.ireturn, 1) := by decide +kernel
theorem d_String_coder_0 : decode (ib f_String_coder) 0 = .ok (.getstatic 38, 3) := by decide +kernel
theorem d_String_coder_3 : decode (ib f_String_coder) 3 = .ok (.ifCond .eq 10, 3) := by decide +kernel
theorem d_String_coder_6 : decode (ib f_String_coder) 6 = .ok (.aload_n 0, 1) := by decide +kernel
theorem d_String_coder_7 : decode (ib f_String_coder) 7 = .ok (.getfield 15, 3) := by decide +kernel
theorem d_String_coder_10 : decode (ib f_String_coder) 10 = .ok (.goto 4, 3) := by decide +kernel
theorem d_String_coder_13 : decode (ib f_String_coder) 13 = .ok (.iconst 1, 1) := by decide +kernel
theorem d_String_coder_14 : decode (ib f_String_coder) 14 = .ok (.ireturn, 1) := by decide +kernel
theorem d_String_isLatin1_0 : decode (ib f_String_isLatin1) 0 = .ok (.getstatic 38, 3) := by decide +kernel
theorem d_String_isLatin1_3 : decode (ib f_String_isLatin1) 3 = .ok (.ifCond .eq 14, 3) := by decide +kernel
theorem d_String_isLatin1_6 : decode (ib f_String_isLatin1) 6 = .ok (.aload_n 0, 1) := by decide +kernel
theorem d_String_isLatin1_7 : decode (ib f_String_isLatin1) 7 = .ok (.getfield 15, 3) := by decide +kernel
theorem d_String_isLatin1_10 : decode (ib f_String_isLatin1) 10 = .ok (.ifCond .ne 7, 3) := by decide +kernel
theorem d_String_isLatin1_13 : decode (ib f_String_isLatin1) 13 = .ok (.iconst 1, 1) := by decide +kernel
theorem d_String_isLatin1_14 : decode (ib f_String_isLatin1) 14 = .ok (.goto 4, 3) := by decide +kernel
theorem d_String_isLatin1_17 : decode (ib f_String_isLatin1) 17 = .ok (.iconst 0, 1) := by decide +kernel
theorem d_String_isLatin1_18 : decode (ib f_String_isLatin1) 18 = .ok (.ireturn, 1) := by decide +kernel
theorem d_String_checkIndex_0 : decode (ib f_String_checkIndex) 0 = .ok (.iload_n 0, 1) := by decide +kernel
theorem d_String_checkIndex_1 : decode (ib f_String_checkIndex) 1 = .ok (.iload_n 1, 1) := by decide +kernel
theorem d_String_checkIndex_2 : decode (ib f_String_checkIndex) 2 = .ok (.getstatic 1053, 3) := by decide +kernel
theorem d_String_checkIndex_5 : decode (ib f_String_checkIndex) 5 = .ok (.invokestatic 1059, 3) := by decide +kernel
theorem d_String_checkIndex_8 : decode (ib f_String_checkIndex) 8 = .ok (.pop, 1) := by decide +kernel
theorem d_String_checkIndex_9 : decode (ib f_String_checkIndex) 9 = .ok (.return_, 1) := by decide +kernel
theorem d_String_checkBoundsBeginEnd_0 : decode (ib f_String_checkBoundsBeginEnd) 0 = .ok (.iload_n 0, 1) := by decide +kernel
theorem d_String_checkBoundsBeginEnd_1 : decode (ib f_String_checkBoundsBeginEnd) 1 = .ok (.iload_n 1, 1) := by decide +kernel
theorem d_String_checkBoundsBeginEnd_2 : decode (ib f_String_checkBoundsBeginEnd) 2 = .ok (.iload_n 2, 1) := by decide +kernel
theorem d_String_checkBoundsBeginEnd_3 : decode (ib f_String_checkBoundsBeginEnd) 3 = .ok (.getstatic 1053, 3) := by decide +kernel
theorem d_String_checkBoundsBeginEnd_6 : decode (ib f_String_checkBoundsBeginEnd) 6 = .ok (.invokestatic 1062, 3) := by decide +kernel
theorem d_String_checkBoundsBeginEnd_9 : decode (ib f_String_checkBoundsBeginEnd) 9 = .ok (.pop, 1) := by decide +kernel
theorem d_String_checkBoundsBeginEnd_10 : decode (ib f_String_checkBoundsBeginEnd) 10 = .ok (.return_, 1) := by decide +kernel
theorem d_StringLatin1_charAt_0 : decode (ib f_StringLatin1_charAt) 0 = .ok (.iload_n 1, 1) := by decide +kernel
theorem d_StringLatin1_charAt_1 : decode (ib f_StringLatin1_charAt) 1 = .ok (.aload_n 0, 1) := by decide +kernel
theorem d_StringLatin1_charAt_2 : decode (ib f_StringLatin1_charAt) 2 = .ok (.arraylength, 1) := by decide +kernel
theorem d_StringLatin1_charAt_3 : decode (ib f_StringLatin1_charAt) 3 = .ok (.invokestatic 9, 3) := by decide +kernel
theorem d_StringLatin1_charAt_6 : decode (ib f_StringLatin1_charAt) 6 = .ok (.aload_n 0, 1) := by decide +kernel
theorem d_StringLatin1_charAt_7 : decode (ib f_StringLatin1_charAt) 7 = .ok (.iload_n 1, 1) := by decide +kernel
theorem d_StringLatin1_charAt_8 : decode (ib f_StringLatin1_charAt) 8 = .ok (.baload, 1) := by decide +kernel
theorem d_StringLatin1_charAt_9 : decode (ib f_StringLatin1_charAt) 9 = .ok (.sipush 255, 3) := by decide +kernel
theorem d_StringLatin1_charAt_12 : decode (ib f_StringLatin1_charAt) 12 = .ok (.iand, 1) := by decide +kernel
theorem d_StringLatin1_charAt_13 : decode (ib f_StringLatin1_charAt) 13 = .ok (.i2c, 1) := by decide +kernel
theorem d_StringLatin1_charAt_14 : decode (ib f_StringLatin1_charAt) 14 = .ok (.ireturn, 1) := by decide +kernel
theorem d_StringLatin1_canEncode_0 : decode (ib f_StringLatin1_canEncode) 0 = .ok (.iload_n 0, 1) := by decide +kernel
theorem d_StringLatin1_canEncode_1 : decode (ib f_StringLatin1_canEncode) 1 = .ok (.ifCond .lt 14, 3) := by decide +kernel
theorem d_StringLatin1_canEncode_4 : decode (ib f_StringLatin1_canEncode) 4 = .ok (.iload_n 0, 1) := by decide +kernel
theorem d_StringLatin1_canEncode_5 : decode (ib f_StringLatin1_canEncode) 5 = .ok (.sipush 255, 3) := by decide +kernel
theorem d_StringLatin1_canEncode_8 : decode (ib f_StringLatin1_canEncode) 8 = .ok (.if_icmp .gt 7, 3) := by decide +kernel
theorem d_StringLatin1_canEncode_11 : decode (ib f_StringLatin1_canEncode) 11 = .ok (.iconst 1, 1) := by decide +kernel
theorem d_StringLatin1_canEncode_12 : decode (ib f_StringLatin1_canEncode) 12 = .ok (.goto 4, 3) := by decide +kernel
theorem d_StringLatin1_canEncode_15 : decode (ib f_StringLatin1_canEncode) 15 = .ok (.iconst 0, 1) := by decide +kernel
theorem d_StringLatin1_canEncode_16 : decode (ib f_StringLatin1_canEncode) 16 = .ok (.ireturn, 1) := by decide +kernel
theorem d_StringLatin1_indexOf_0 : decode (ib f_StringLatin1_indexOf) 0 = .ok (.iload_n 1, 1) := by decide +kernel
theorem d_StringLatin1_indexOf_1 : decode (ib f_StringLatin1_indexOf) 1 = .ok (.invokestatic 88, 3) := by decide +kernel
theorem d_StringLatin1_indexOf_4 : decode (ib f_StringLatin1_indexOf) 4 = .ok (.ifCond .ne 5, 3) := by decide +kernel
theorem d_StringLatin1_indexOf_7 : decode (ib f_StringLatin1_indexOf) 7 = .ok (.iconst (-1), 1) := by decide +kernel
theorem d_StringLatin1_indexOf_8 : decode (ib f_StringLatin1_indexOf) 8 = .ok (.ireturn, 1) := by decide +kernel
theorem d_StringLatin1_indexOf_9 : decode (ib f_StringLatin1_indexOf) 9 = .ok (.iload_n 2, 1) := by decide +kernel
theorem d_StringLatin1_indexOf_10 : decode (ib f_StringLatin1_indexOf) 10 = .ok (.iconst 0, 1) := by decide +kernel
theorem d_StringLatin1_indexOf_11 : decode (ib f_StringLatin1_indexOf) 11 = .ok (.invokestatic 92, 3) := by decide +kernel
theorem d_StringLatin1_indexOf_14 : decode (ib f_StringLatin1_indexOf) 14 = .ok (.istore_n 2, 1) := by decide +kernel
theorem d_StringLatin1_indexOf_15 : decode (ib f_StringLatin1_indexOf) 15 = .ok (.iload_n 3, 1) := by decide +kernel
theorem d_StringLatin1_indexOf_16 : decode (ib f_StringLatin1_indexOf) 16 = .ok (.aload_n 0, 1) := by decide +kernel
theorem d_StringLatin1_indexOf_17 : decode (ib f_StringLatin1_indexOf) 17 = .ok (.arraylength, 1) := by decide +kernel
theorem d_StringLatin1_indexOf_18 : decode (ib f_StringLatin1_indexOf) 18 = .ok (.invokestatic 38, 3) := by decide +kernel
theorem d_StringLatin1_indexOf_21 : decode (ib f_StringLatin1_indexOf) 21 = .ok (.istore_n 3, 1) := by decide +kernel
theorem d_StringLatin1_indexOf_22 : decode (ib f_StringLatin1_indexOf) 22 = .ok (.iload_n 2, 1) := by decide +kernel
theorem d_StringLatin1_indexOf_23 : decode (ib f_StringLatin1_indexOf) 23 = .ok (.iload_n 3, 1) := by decide +kernel
theorem d_StringLatin1_indexOf_24 : decode (ib f_StringLatin1_indexOf) 24 = .ok (.if_icmp .lt 5, 3) := by decide +kernel
theorem d_StringLatin1_indexOf_27 : decode (ib f_StringLatin1_indexOf) 27 = .ok (.iconst (-1), 1) := by decide +kernel
theorem d_StringLatin1_indexOf_28 : decode (ib f_StringLatin1_indexOf) 28 = .ok (.ireturn, 1) := by decide +kernel
theorem d_StringLatin1_indexOf_29 : decode (ib f_StringLatin1_indexOf) 29 = .ok (.aload_n 0, 1) := by decide +kernel
theorem d_StringLatin1_indexOf_30 : decode (ib f_StringLatin1_indexOf) 30 = .ok (.iload_n 1, 1) := by decide +kernel
theorem d_StringLatin1_indexOf_31 : decode (ib f_StringLatin1_indexOf) 31 = .ok (.iload_n 2, 1) := by decide +kernel
theorem d_StringLatin1_indexOf_32 : decode (ib f_StringLatin1_indexOf) 32 = .ok (.iload_n 3, 1) := by decide +kernel
theorem d_StringLatin1_indexOf_33 : decode (ib f_StringLatin1_indexOf) 33 = .ok (.invokestatic 95, 3) := by decide +kernel
theorem d_StringLatin1_indexOf_36 : decode (ib f_StringLatin1_indexOf) 36 = .ok (.ireturn, 1) := by decide +kernel
theorem d_StringLatin1_indexOfChar_0 : decode (ib f_StringLatin1_indexOfChar) 0 = .ok (.iload_n 1, 1) := by decide +kernel
theorem d_StringLatin1_indexOfChar_1 : decode (ib f_StringLatin1_indexOfChar) 1 = .ok (.i2b, 1) := by decide +kernel
theorem d_StringLatin1_indexOfChar_2 : decode (ib f_StringLatin1_indexOfChar) 2 = .ok (.istore 4, 2) := by decide +kernel
theorem d_StringLatin1_indexOfChar_4 : decode (ib f_StringLatin1_indexOfChar) 4 = .ok (.iload_n 2, 1) := by decide +kernel
theorem d_StringLatin1_indexOfChar_5 : decode (ib f_StringLatin1_indexOfChar) 5 = .ok (.istore 5, 2) := by decide +kernel
theorem d_StringLatin1_indexOfChar_7 : decode (ib f_StringLatin1_indexOfChar) 7 = .ok (.iload 5, 2) := by decide +kernel
theorem d_StringLatin1_indexOfChar_9 : decode (ib f_StringLatin1_indexOfChar) 9 = .ok (.iload_n 3, 1) := by decide +kernel
theorem d_StringLatin1_indexOfChar_10 : decode (ib f_StringLatin1_indexOfChar) 10 = .ok (.if_icmp .ge 21, 3) := by decide +kernel
theorem d_StringLatin1_indexOfChar_13 : decode (ib f_StringLatin1_indexOfChar) 13 = .ok (.aload_n 0, 1) := by decide +kernel
theorem d_StringLatin1_indexOfChar_14 : decode (ib f_StringLatin1_indexOfChar) 14 = .ok (.iload 5, 2) := by decide +kernel
theorem d_StringLatin1_indexOfChar_16 : decode (ib f_StringLatin1_indexOfChar) 16 = .ok (.baload, 1) := by decide +kernel
theorem d_StringLatin1_indexOfChar_17 : decode (ib f_StringLatin1_indexOfChar) 17 = .ok (.iload 4, 2) := by decide +kernel
theorem d_StringLatin1_indexOfChar_19 : decode (ib f_StringLatin1_indexOfChar) 19 = .ok (.if_icmp .ne 6, 3) := by decide +kernel
theorem d_StringLatin1_indexOfChar_22 : decode (ib f_StringLatin1_indexOfChar) 22 = .ok (.iload 5, 2) := by decide +kernel
theorem d_StringLatin1_indexOfChar_24 : decode (ib f_StringLatin1_indexOfChar) 24 = .ok (.ireturn, 1) := by decide +kernel
theorem d_StringLatin1_indexOfChar_25 : decode (ib f_StringLatin1_indexOfChar) 25 = .ok (.iinc 5 1, 3) := by decide +kernel
theorem d_StringLatin1_indexOfChar_28 : decode (ib f_StringLatin1_indexOfChar) 28 = .ok (.goto (-21), 3) := by decide +kernel
theorem d_StringLatin1_indexOfChar_31 : decode (ib f_StringLatin1_indexOfChar) 31 = .ok (.iconst (-1), 1) := by decide +kernel
theorem d_StringLatin1_indexOfChar_32 : decode (ib f_StringLatin1_indexOfChar) 32 = .ok (.ireturn, 1) := by decide +kernel
theorem d_Arrays_fill_0 : decode (ib f_Arrays_fill) 0 = .ok (.iconst 0, 1) := by decide +kernel
theorem d_Arrays_fill_1 : decode (ib f_Arrays_fill) 1 = .ok (.istore_n 2, 1) := by decide +kernel
theorem d_Arrays_fill_2 : decode (ib f_Arrays_fill) 2 = .ok (.aload_n 0, 1) := by decide +kernel
theorem d_Arrays_fill_3 : decode (ib f_Arrays_fill) 3 = .ok (.arraylength, 1) := by decide +kernel
theorem d_Arrays_fill_4 : decode (ib f_Arrays_fill) 4 = .ok (.istore_n 3, 1) := by decide +kernel
theorem d_Arrays_fill_5 : decode (ib f_Arrays_fill) 5 = .ok (.iload_n 2, 1) := by decide +kernel
theorem d_Arrays_fill_6 : decode (ib f_Arrays_fill) 6 = .ok (.iload_n 3, 1) := by decide +kernel
theorem d_Arrays_fill_7 : decode (ib f_Arrays_fill) 7 = .ok (.if_icmp .ge 13, 3) := by decide +kernel
theorem d_Arrays_fill_10 : decode (ib f_Arrays_fill) 10 = .ok (.aload_n 0, 1) := by decide +kernel
theorem d_Arrays_fill_11 : decode (ib f_Arrays_fill) 11 = .ok (.iload_n 2, 1) := by decide +kernel
theorem d_Arrays_fill_12 : decode (ib f_Arrays_fill) 12 = .ok (.iload_n 1, 1) := by decide +kernel
theorem d_Arrays_fill_13 : decode (ib f_Arrays_fill) 13 = .ok (.iastore, 1) := by decide +kernel
theorem d_Arrays_fill_14 : decode (ib f_Arrays_fill) 14 = .ok (.iinc 2 1, 3) := by decide +kernel
theorem d_Arrays_fill_17 : decode (ib f_Arrays_fill) 17 = .ok (.goto (-12), 3) := by decide +kernel
theorem d_Arrays_fill_20 : decode (ib f_Arrays_fill) 20 = .ok (.return_, 1) := by decide +kernel
theorem d_Preconditions_checkIndex_0 : decode (ib f_Preconditions_checkIndex) 0 = .ok (.iload_n 0, 1) := by decide +kernel
theorem d_Preconditions_checkIndex_1 : decode (ib f_Preconditions_checkIndex) 1 = .ok (.ifCond .lt 8, 3) := by decide +kernel
theorem d_Preconditions_checkIndex_4 : decode (ib f_Preconditions_checkIndex) 4 = .ok (.iload_n 0, 1) := by decide +kernel
theorem d_Preconditions_checkIndex_5 : decode (ib f_Preconditions_checkIndex) 5 = .ok (.iload_n 1, 1) := by decide +kernel
theorem d_Preconditions_checkIndex_6 : decode (ib f_Preconditions_checkIndex) 6 = .ok (.if_icmp .lt 10, 3) := by decide +kernel
theorem d_Preconditions_checkIndex_9 : decode (ib f_Preconditions_checkIndex) 9 = .ok (.aload_n 2, 1) := by decide +kernel
theorem d_Preconditions_checkIndex_10 : decode (ib f_Preconditions_checkIndex) 10 = .ok (.iload_n 0, 1) := by decide +kernel
theorem d_Preconditions_checkIndex_11 : decode (ib f_Preconditions_checkIndex) 11 = .ok (.iload_n 1, 1) := by decide +kernel
theorem d_Preconditions_checkIndex_12 : decode (ib f_Preconditions_checkIndex) 12 = .ok (.invokestatic 95, 3) := by decide +kernel
theorem d_Preconditions_checkIndex_15 : decode (ib f_Preconditions_checkIndex) 15 = .ok (.athrow, 1) := by decide +kernel
theorem d_Preconditions_checkIndex_16 : decode (ib f_Preconditions_checkIndex) 16 = .ok (.iload_n 0, 1) := by decide +kernel
theorem d_Preconditions_checkIndex_17 : decode (ib f_Preconditions_checkIndex) 17 = .ok (.ireturn, 1) := by decide +kernel
theorem d_Preconditions_checkFromToIndex_0 : decode (ib f_Preconditions_checkFromToIndex) 0 = .ok (.iload_n 0, 1) := by decide +kernel
theorem d_Preconditions_checkFromToIndex_1 : decode (ib f_Preconditions_checkFromToIndex) 1 = .ok (.ifCond .lt 13, 3) := by decide +kernel
theorem d_Preconditions_checkFromToIndex_4 : decode (ib f_Preconditions_checkFromToIndex) 4 = .ok (.iload_n 0, 1) := by decide +kernel
theorem d_Preconditions_checkFromToIndex_5 : decode (ib f_Preconditions_checkFromToIndex) 5 = .ok (.iload_n 1, 1) := by decide +kernel
theorem d_Preconditions_checkFromToIndex_6 : decode (ib f_Preconditions_checkFromToIndex) 6 = .ok (.if_icmp .gt 8, 3) := by decide +kernel
theorem d_Preconditions_checkFromToIndex_9 : decode (ib f_Preconditions_checkFromToIndex) 9 = .ok (.iload_n 1, 1) := by decide +kernel
theorem d_Preconditions_checkFromToIndex_10 : decode (ib f_Preconditions_checkFromToIndex) 10 = .ok (.iload_n 2, 1) := by decide +kernel
theorem d_Preconditions_checkFromToIndex_11 : decode (ib f_Preconditions_checkFromToIndex) 11 = .ok (.if_icmp .le 11, 3) := by decide +kernel
theorem d_Preconditions_checkFromToIndex_14 : decode (ib f_Preconditions_checkFromToIndex) 14 = .ok (.aload_n 3, 1) := by decide +kernel
theorem d_Preconditions_checkFromToIndex_15 : decode (ib f_Preconditions_checkFromToIndex) 15 = .ok (.iload_n 0, 1) := by decide +kernel
theorem d_Preconditions_checkFromToIndex_16 : decode (ib f_Preconditions_checkFromToIndex) 16 = .ok (.iload_n 1, 1) := by decide +kernel
theorem d_Preconditions_checkFromToIndex_17 : decode (ib f_Preconditions_checkFromToIndex) 17 = .ok (.iload_n 2, 1) := by decide +kernel
theorem d_Preconditions_checkFromToIndex_18 : decode (ib f_Preconditions_checkFromToIndex) 18 = .ok (.invokestatic 99, 3) := by decide +kernel
theorem d_Preconditions_checkFromToIndex_21 : decode (ib f_Preconditions_checkFromToIndex) 21 = .ok (.athrow, 1) := by decide +kernel
theorem d_Preconditions_checkFromToIndex_22 : decode (ib f_Preconditions_checkFromToIndex) 22 = .ok (.iload_n 0, 1) := by decide +kernel
theorem d_Preconditions_checkFromToIndex_23 : decode (ib f_Preconditions_checkFromToIndex) 23 = .ok (.ireturn, 1) := by decide +kernel
theorem d_law_0 : decode (ib f_law) 0 = .ok (.new 7, 3) := by decide +kernel
theorem d_law_3 : decode (ib f_law) 3 = .ok (.dup, 1) := by decide +kernel
theorem d_law_4 : decode (ib f_law) 4 = .ok (.invokespecial 9, 3) := by decide +kernel
theorem d_law_7 : decode (ib f_law) 7 = .ok (.astore_n 1, 1) := by decide +kernel
theorem d_law_8 : decode (ib f_law) 8 = .ok (.new 10, 3) := by decide +kernel
theorem d_law_11 : decode (ib f_law) 11 = .ok (.dup, 1) := by decide +kernel
theorem d_law_12 : decode (ib f_law) 12 = .ok (.invokespecial 12, 3) := by decide +kernel
theorem d_law_15 : decode (ib f_law) 15 = .ok (.astore_n 2, 1) := by decide +kernel
theorem d_law_16 : decode (ib f_law) 16 = .ok (.iconst 0, 1) := by decide +kernel
theorem d_law_17 : decode (ib f_law) 17 = .ok (.istore_n 3, 1) := by decide +kernel
theorem d_law_18 : decode (ib f_law) 18 = .ok (.iload_n 3, 1) := by decide +kernel
theorem d_law_19 : decode (ib f_law) 19 = .ok (.aload_n 0, 1) := by decide +kernel
theorem d_law_20 : decode (ib f_law) 20 = .ok (.arraylength, 1) := by decide +kernel
theorem d_law_21 : decode (ib f_law) 21 = .ok (.bipush 6, 2) := by decide +kernel
theorem d_law_23 : decode (ib f_law) 23 = .ok (.isub, 1) := by decide +kernel
theorem d_law_24 : decode (ib f_law) 24 = .ok (.if_icmp .gt 1201, 3) := by decide +kernel
theorem d_law_27 : decode (ib f_law) 27 = .ok (.aload_n 0, 1) := by decide +kernel
theorem d_law_28 : decode (ib f_law) 28 = .ok (.iload_n 3, 1) := by decide +kernel
theorem d_law_29 : decode (ib f_law) 29 = .ok (.iaload, 1) := by decide +kernel
theorem d_law_30 : decode (ib f_law) 30 = .ok (.bipush 63, 2) := by decide +kernel
theorem d_law_32 : decode (ib f_law) 32 = .ok (.iand, 1) := by decide +kernel
theorem d_law_33 : decode (ib f_law) 33 = .ok (.tableswitch 1186 0 34 #[155, 178, 221, 274, 317, 340, 403, 426, 449, 472, 505, 538, 571, 604, 627, 650, 673, 696, 729, 762, 785, 808, 831, 854, 897, 920, 943, 976, 999, 1022, 1045, 1088, 1111, 1124, 1163], 155) := by decide +kernel
theorem d_law_188 : decode (ib f_law) 188 = .ok (.aload_n 1, 1) := by decide +kernel
theorem d_law_189 : decode (ib f_law) 189 = .ok (.aload_n 0, 1) := by decide +kernel
theorem d_law_190 : decode (ib f_law) 190 = .ok (.iload_n 3, 1) := by decide +kernel
theorem d_law_191 : decode (ib f_law) 191 = .ok (.iconst 1, 1) := by decide +kernel
theorem d_law_192 : decode (ib f_law) 192 = .ok (.iadd, 1) := by decide +kernel
theorem d_law_193 : decode (ib f_law) 193 = .ok (.iaload, 1) := by decide +kernel
theorem d_law_194 : decode (ib f_law) 194 = .ok (.invokevirtual 13, 3) := by decide +kernel
theorem d_law_197 : decode (ib f_law) 197 = .ok (.aload_n 2, 1) := by decide +kernel
theorem d_law_198 : decode (ib f_law) 198 = .ok (.aload_n 0, 1) := by decide +kernel
theorem d_law_199 : decode (ib f_law) 199 = .ok (.iload_n 3, 1) := by decide +kernel
theorem d_law_200 : decode (ib f_law) 200 = .ok (.iconst 1, 1) := by decide +kernel
theorem d_law_201 : decode (ib f_law) 201 = .ok (.iadd, 1) := by decide +kernel
theorem d_law_202 : decode (ib f_law) 202 = .ok (.iaload, 1) := by decide +kernel
theorem d_law_203 : decode (ib f_law) 203 = .ok (.invokevirtual 17, 3) := by decide +kernel
theorem d_law_206 : decode (ib f_law) 206 = .ok (.if_icmp .eq 1013, 3) := by decide +kernel
theorem d_law_209 : decode (ib f_law) 209 = .ok (.iconst 0, 1) := by decide +kernel
theorem d_law_210 : decode (ib f_law) 210 = .ok (.ireturn, 1) := by decide +kernel
theorem d_law_211 : decode (ib f_law) 211 = .ok (.aload_n 1, 1) := by decide +kernel
theorem d_law_212 : decode (ib f_law) 212 = .ok (.aload_n 0, 1) := by decide +kernel
theorem d_law_213 : decode (ib f_law) 213 = .ok (.iload_n 3, 1) := by decide +kernel
theorem d_law_214 : decode (ib f_law) 214 = .ok (.iconst 1, 1) := by decide +kernel
theorem d_law_215 : decode (ib f_law) 215 = .ok (.iadd, 1) := by decide +kernel
theorem d_law_216 : decode (ib f_law) 216 = .ok (.iaload, 1) := by decide +kernel
theorem d_law_217 : decode (ib f_law) 217 = .ok (.aload_n 0, 1) := by decide +kernel
theorem d_law_218 : decode (ib f_law) 218 = .ok (.iload_n 3, 1) := by decide +kernel
theorem d_law_219 : decode (ib f_law) 219 = .ok (.iconst 2, 1) := by decide +kernel
theorem d_law_220 : decode (ib f_law) 220 = .ok (.iadd, 1) := by decide +kernel
theorem d_law_221 : decode (ib f_law) 221 = .ok (.iaload, 1) := by decide +kernel
theorem d_law_222 : decode (ib f_law) 222 = .ok (.aload_n 0, 1) := by decide +kernel
theorem d_law_223 : decode (ib f_law) 223 = .ok (.iload_n 3, 1) := by decide +kernel
theorem d_law_224 : decode (ib f_law) 224 = .ok (.iconst 3, 1) := by decide +kernel
theorem d_law_225 : decode (ib f_law) 225 = .ok (.iadd, 1) := by decide +kernel
theorem d_law_226 : decode (ib f_law) 226 = .ok (.iaload, 1) := by decide +kernel
theorem d_law_227 : decode (ib f_law) 227 = .ok (.invokevirtual 18, 3) := by decide +kernel
theorem d_law_230 : decode (ib f_law) 230 = .ok (.aload_n 2, 1) := by decide +kernel
theorem d_law_231 : decode (ib f_law) 231 = .ok (.aload_n 0, 1) := by decide +kernel
theorem d_law_232 : decode (ib f_law) 232 = .ok (.iload_n 3, 1) := by decide +kernel
theorem d_law_233 : decode (ib f_law) 233 = .ok (.iconst 1, 1) := by decide +kernel
theorem d_law_234 : decode (ib f_law) 234 = .ok (.iadd, 1) := by decide +kernel
theorem d_law_235 : decode (ib f_law) 235 = .ok (.iaload, 1) := by decide +kernel
theorem d_law_236 : decode (ib f_law) 236 = .ok (.aload_n 0, 1) := by decide +kernel
theorem d_law_237 : decode (ib f_law) 237 = .ok (.iload_n 3, 1) := by decide +kernel
theorem d_law_238 : decode (ib f_law) 238 = .ok (.iconst 2, 1) := by decide +kernel
theorem d_law_239 : decode (ib f_law) 239 = .ok (.iadd, 1) := by decide +kernel
theorem d_law_240 : decode (ib f_law) 240 = .ok (.iaload, 1) := by decide +kernel
theorem d_law_241 : decode (ib f_law) 241 = .ok (.aload_n 0, 1) := by decide +kernel
theorem d_law_242 : decode (ib f_law) 242 = .ok (.iload_n 3, 1) := by decide +kernel
theorem d_law_243 : decode (ib f_law) 243 = .ok (.iconst 3, 1) := by decide +kernel
theorem d_law_244 : decode (ib f_law) 244 = .ok (.iadd, 1) := by decide +kernel
theorem d_law_245 : decode (ib f_law) 245 = .ok (.iaload, 1) := by decide +kernel
theorem d_law_246 : decode (ib f_law) 246 = .ok (.invokevirtual 22, 3) := by decide +kernel
theorem d_law_249 : decode (ib f_law) 249 = .ok (.if_icmp .eq 970, 3) := by decide +kernel
theorem d_law_252 : decode (ib f_law) 252 = .ok (.iconst 0, 1) := by decide +kernel
theorem d_law_253 : decode (ib f_law) 253 = .ok (.ireturn, 1) := by decide +kernel
theorem d_law_254 : decode (ib f_law) 254 = .ok (.aload_n 1, 1) := by decide +kernel
theorem d_law_255 : decode (ib f_law) 255 = .ok (.aload_n 0, 1) := by decide +kernel
theorem d_law_256 : decode (ib f_law) 256 = .ok (.iload_n 3, 1) := by decide +kernel
theorem d_law_257 : decode (ib f_law) 257 = .ok (.iconst 1, 1) := by decide +kernel
theorem d_law_258 : decode (ib f_law) 258 = .ok (.iadd, 1) := by decide +kernel
theorem d_law_259 : decode (ib f_law) 259 = .ok (.iaload, 1) := by decide +kernel
theorem d_law_260 : decode (ib f_law) 260 = .ok (.aload_n 0, 1) := by decide +kernel
theorem d_law_261 : decode (ib f_law) 261 = .ok (.iload_n 3, 1) := by decide +kernel
theorem d_law_262 : decode (ib f_law) 262 = .ok (.iconst 2, 1) := by decide +kernel
theorem d_law_263 : decode (ib f_law) 263 = .ok (.iadd, 1) := by decide +kernel
theorem d_law_264 : decode (ib f_law) 264 = .ok (.iaload, 1) := by decide +kernel
theorem d_law_265 : decode (ib f_law) 265 = .ok (.aload_n 0, 1) := by decide +kernel
theorem d_law_266 : decode (ib f_law) 266 = .ok (.iload_n 3, 1) := by decide +kernel
theorem d_law_267 : decode (ib f_law) 267 = .ok (.iconst 3, 1) := by decide +kernel
theorem d_law_268 : decode (ib f_law) 268 = .ok (.iadd, 1) := by decide +kernel
theorem d_law_269 : decode (ib f_law) 269 = .ok (.iaload, 1) := by decide +kernel
theorem d_law_270 : decode (ib f_law) 270 = .ok (.aload_n 0, 1) := by decide +kernel
theorem d_law_271 : decode (ib f_law) 271 = .ok (.iload_n 3, 1) := by decide +kernel
theorem d_law_272 : decode (ib f_law) 272 = .ok (.iconst 4, 1) := by decide +kernel
theorem d_law_273 : decode (ib f_law) 273 = .ok (.iadd, 1) := by decide +kernel
theorem d_law_274 : decode (ib f_law) 274 = .ok (.iaload, 1) := by decide +kernel
theorem d_law_275 : decode (ib f_law) 275 = .ok (.invokevirtual 23, 3) := by decide +kernel
theorem d_law_278 : decode (ib f_law) 278 = .ok (.aload_n 2, 1) := by decide +kernel
theorem d_law_279 : decode (ib f_law) 279 = .ok (.aload_n 0, 1) := by decide +kernel
theorem d_law_280 : decode (ib f_law) 280 = .ok (.iload_n 3, 1) := by decide +kernel
theorem d_law_281 : decode (ib f_law) 281 = .ok (.iconst 1, 1) := by decide +kernel
theorem d_law_282 : decode (ib f_law) 282 = .ok (.iadd, 1) := by decide +kernel
theorem d_law_283 : decode (ib f_law) 283 = .ok (.iaload, 1) := by decide +kernel
theorem d_law_284 : decode (ib f_law) 284 = .ok (.aload_n 0, 1) := by decide +kernel
theorem d_law_285 : decode (ib f_law) 285 = .ok (.iload_n 3, 1) := by decide +kernel
theorem d_law_286 : decode (ib f_law) 286 = .ok (.iconst 2, 1) := by decide +kernel
theorem d_law_287 : decode (ib f_law) 287 = .ok (.iadd, 1) := by decide +kernel
theorem d_law_288 : decode (ib f_law) 288 = .ok (.iaload, 1) := by decide +kernel
theorem d_law_289 : decode (ib f_law) 289 = .ok (.aload_n 0, 1) := by decide +kernel
theorem d_law_290 : decode (ib f_law) 290 = .ok (.iload_n 3, 1) := by decide +kernel
theorem d_law_291 : decode (ib f_law) 291 = .ok (.iconst 3, 1) := by decide +kernel
theorem d_law_292 : decode (ib f_law) 292 = .ok (.iadd, 1) := by decide +kernel
theorem d_law_293 : decode (ib f_law) 293 = .ok (.iaload, 1) := by decide +kernel
theorem d_law_294 : decode (ib f_law) 294 = .ok (.aload_n 0, 1) := by decide +kernel
theorem d_law_295 : decode (ib f_law) 295 = .ok (.iload_n 3, 1) := by decide +kernel
theorem d_law_296 : decode (ib f_law) 296 = .ok (.iconst 4, 1) := by decide +kernel
theorem d_law_297 : decode (ib f_law) 297 = .ok (.iadd, 1) := by decide +kernel
theorem d_law_298 : decode (ib f_law) 298 = .ok (.iaload, 1) := by decide +kernel
theorem d_law_299 : decode (ib f_law) 299 = .ok (.invokevirtual 27, 3) := by decide +kernel
theorem d_law_302 : decode (ib f_law) 302 = .ok (.if_icmp .eq 917, 3) := by decide +kernel
theorem d_law_305 : decode (ib f_law) 305 = .ok (.iconst 0, 1) := by decide +kernel
theorem d_law_306 : decode (ib f_law) 306 = .ok (.ireturn, 1) := by decide +kernel
theorem d_law_307 : decode (ib f_law) 307 = .ok (.aload_n 1, 1) := by decide +kernel
theorem d_law_308 : decode (ib f_law) 308 = .ok (.aload_n 0, 1) := by decide +kernel
theorem d_law_309 : decode (ib f_law) 309 = .ok (.iload_n 3, 1) := by decide +kernel
theorem d_law_310 : decode (ib f_law) 310 = .ok (.iconst 1, 1) := by decide +kernel
theorem d_law_311 : decode (ib f_law) 311 = .ok (.iadd, 1) := by decide +kernel
theorem d_law_312 : decode (ib f_law) 312 = .ok (.iaload, 1) := by decide +kernel
theorem d_law_313 : decode (ib f_law) 313 = .ok (.aload_n 0, 1) := by decide +kernel
theorem d_law_314 : decode (ib f_law) 314 = .ok (.iload_n 3, 1) := by decide +kernel
theorem d_law_315 : decode (ib f_law) 315 = .ok (.iconst 2, 1) := by decide +kernel
theorem d_law_316 : decode (ib f_law) 316 = .ok (.iadd, 1) := by decide +kernel
theorem d_law_317 : decode (ib f_law) 317 = .ok (.iaload, 1) := by decide +kernel
theorem d_law_318 : decode (ib f_law) 318 = .ok (.aload_n 0, 1) := by decide +kernel
theorem d_law_319 : decode (ib f_law) 319 = .ok (.iload_n 3, 1) := by decide +kernel
theorem d_law_320 : decode (ib f_law) 320 = .ok (.iconst 3, 1) := by decide +kernel
theorem d_law_321 : decode (ib f_law) 321 = .ok (.iadd, 1) := by decide +kernel
theorem d_law_322 : decode (ib f_law) 322 = .ok (.iaload, 1) := by decide +kernel
theorem d_law_323 : decode (ib f_law) 323 = .ok (.invokevirtual 28, 3) := by decide +kernel
theorem d_law_326 : decode (ib f_law) 326 = .ok (.aload_n 2, 1) := by decide +kernel
theorem d_law_327 : decode (ib f_law) 327 = .ok (.aload_n 0, 1) := by decide +kernel
theorem d_law_328 : decode (ib f_law) 328 = .ok (.iload_n 3, 1) := by decide +kernel
theorem d_law_329 : decode (ib f_law) 329 = .ok (.iconst 1, 1) := by decide +kernel
theorem d_law_330 : decode (ib f_law) 330 = .ok (.iadd, 1) := by decide +kernel
theorem d_law_331 : decode (ib f_law) 331 = .ok (.iaload, 1) := by decide +kernel
theorem d_law_332 : decode (ib f_law) 332 = .ok (.aload_n 0, 1) := by decide +kernel
theorem d_law_333 : decode (ib f_law) 333 = .ok (.iload_n 3, 1) := by decide +kernel
theorem d_law_334 : decode (ib f_law) 334 = .ok (.iconst 2, 1) := by decide +kernel
theorem d_law_335 : decode (ib f_law) 335 = .ok (.iadd, 1) := by decide +kernel
theorem d_law_336 : decode (ib f_law) 336 = .ok (.iaload, 1) := by decide +kernel
theorem d_law_337 : decode (ib f_law) 337 = .ok (.aload_n 0, 1) := by decide +kernel
theorem d_law_338 : decode (ib f_law) 338 = .ok (.iload_n 3, 1) := by decide +kernel
theorem d_law_339 : decode (ib f_law) 339 = .ok (.iconst 3, 1) := by decide +kernel
theorem d_law_340 : decode (ib f_law) 340 = .ok (.iadd, 1) := by decide +kernel
theorem d_law_341 : decode (ib f_law) 341 = .ok (.iaload, 1) := by decide +kernel
theorem d_law_342 : decode (ib f_law) 342 = .ok (.invokevirtual 31, 3) := by decide +kernel
theorem d_law_345 : decode (ib f_law) 345 = .ok (.if_icmp .eq 874, 3) := by decide +kernel
theorem d_law_348 : decode (ib f_law) 348 = .ok (.iconst 0, 1) := by decide +kernel
theorem d_law_349 : decode (ib f_law) 349 = .ok (.ireturn, 1) := by decide +kernel
theorem d_law_350 : decode (ib f_law) 350 = .ok (.aload_n 1, 1) := by decide +kernel
theorem d_law_351 : decode (ib f_law) 351 = .ok (.aload_n 0, 1) := by decide +kernel
theorem d_law_352 : decode (ib f_law) 352 = .ok (.iload_n 3, 1) := by decide +kernel
theorem d_law_353 : decode (ib f_law) 353 = .ok (.iconst 1, 1) := by decide +kernel
theorem d_law_354 : decode (ib f_law) 354 = .ok (.iadd, 1) := by decide +kernel
theorem d_law_355 : decode (ib f_law) 355 = .ok (.iaload, 1) := by decide +kernel
theorem d_law_356 : decode (ib f_law) 356 = .ok (.invokevirtual 32, 3) := by decide +kernel
theorem d_law_359 : decode (ib f_law) 359 = .ok (.aload_n 2, 1) := by decide +kernel
theorem d_law_360 : decode (ib f_law) 360 = .ok (.aload_n 0, 1) := by decide +kernel
theorem d_law_361 : decode (ib f_law) 361 = .ok (.iload_n 3, 1) := by decide +kernel
theorem d_law_362 : decode (ib f_law) 362 = .ok (.iconst 1, 1) := by decide +kernel
theorem d_law_363 : decode (ib f_law) 363 = .ok (.iadd, 1) := by decide +kernel
theorem d_law_364 : decode (ib f_law) 364 = .ok (.iaload, 1) := by decide +kernel
theorem d_law_365 : decode (ib f_law) 365 = .ok (.invokevirtual 35, 3) := by decide +kernel
theorem d_law_368 : decode (ib f_law) 368 = .ok (.if_icmp .eq 851, 3) := by decide +kernel
theorem d_law_371 : decode (ib f_law) 371 = .ok (.iconst 0, 1) := by decide +kernel
theorem d_law_372 : decode (ib f_law) 372 = .ok (.ireturn, 1) := by decide +kernel
theorem d_law_373 : decode (ib f_law) 373 = .ok (.aload_n 1, 1) := by decide +kernel
theorem d_law_374 : decode (ib f_law) 374 = .ok (.aload_n 0, 1) := by decide +kernel
theorem d_law_375 : decode (ib f_law) 375 = .ok (.iload_n 3, 1) := by decide +kernel
theorem d_law_376 : decode (ib f_law) 376 = .ok (.iconst 1, 1) := by decide +kernel
theorem d_law_377 : decode (ib f_law) 377 = .ok (.iadd, 1) := by decide +kernel
theorem d_law_378 : decode (ib f_law) 378 = .ok (.iaload, 1) := by decide +kernel
theorem d_law_379 : decode (ib f_law) 379 = .ok (.aload_n 0, 1) := by decide +kernel
theorem d_law_380 : decode (ib f_law) 380 = .ok (.iload_n 3, 1) := by decide +kernel
theorem d_law_381 : decode (ib f_law) 381 = .ok (.iconst 2, 1) := by decide +kernel
theorem d_law_382 : decode (ib f_law) 382 = .ok (.iadd, 1) := by decide +kernel
theorem d_law_383 : decode (ib f_law) 383 = .ok (.iaload, 1) := by decide +kernel
theorem d_law_384 : decode (ib f_law) 384 = .ok (.aload_n 0, 1) := by decide +kernel
theorem d_law_385 : decode (ib f_law) 385 = .ok (.iload_n 3, 1) := by decide +kernel
theorem d_law_386 : decode (ib f_law) 386 = .ok (.iconst 3, 1) := by decide +kernel
theorem d_law_387 : decode (ib f_law) 387 = .ok (.iadd, 1) := by decide +kernel
theorem d_law_388 : decode (ib f_law) 388 = .ok (.iaload, 1) := by decide +kernel
theorem d_law_389 : decode (ib f_law) 389 = .ok (.aload_n 0, 1) := by decide +kernel
theorem d_law_390 : decode (ib f_law) 390 = .ok (.iload_n 3, 1) := by decide +kernel
theorem d_law_391 : decode (ib f_law) 391 = .ok (.iconst 4, 1) := by decide +kernel
theorem d_law_392 : decode (ib f_law) 392 = .ok (.iadd, 1) := by decide +kernel
theorem d_law_393 : decode (ib f_law) 393 = .ok (.iaload, 1) := by decide +kernel
theorem d_law_394 : decode (ib f_law) 394 = .ok (.aload_n 0, 1) := by decide +kernel
theorem d_law_395 : decode (ib f_law) 395 = .ok (.iload_n 3, 1) := by decide +kernel
theorem d_law_396 : decode (ib f_law) 396 = .ok (.iconst 5, 1) := by decide +kernel
theorem d_law_397 : decode (ib f_law) 397 = .ok (.iadd, 1) := by decide +kernel
theorem d_law_398 : decode (ib f_law) 398 = .ok (.iaload, 1) := by decide +kernel
theorem d_law_399 : decode (ib f_law) 399 = .ok (.invokevirtual 36, 3) := by decide +kernel
theorem d_law_402 : decode (ib f_law) 402 = .ok (.aload_n 2, 1) := by decide +kernel
theorem d_law_403 : decode (ib f_law) 403 = .ok (.aload_n 0, 1) := by decide +kernel
theorem d_law_404 : decode (ib f_law) 404 = .ok (.iload_n 3, 1) := by decide +kernel
theorem d_law_405 : decode (ib f_law) 405 = .ok (.iconst 1, 1) := by decide +kernel
theorem d_law_406 : decode (ib f_law) 406 = .ok (.iadd, 1) := by decide +kernel
theorem d_law_407 : decode (ib f_law) 407 = .ok (.iaload, 1) := by decide +kernel
theorem d_law_408 : decode (ib f_law) 408 = .ok (.aload_n 0, 1) := by decide +kernel
theorem d_law_409 : decode (ib f_law) 409 = .ok (.iload_n 3, 1) := by decide +kernel
theorem d_law_410 : decode (ib f_law) 410 = .ok (.iconst 2, 1) := by decide +kernel
theorem d_law_411 : decode (ib f_law) 411 = .ok (.iadd, 1) := by decide +kernel
theorem d_law_412 : decode (ib f_law) 412 = .ok (.iaload, 1) := by decide +kernel
theorem d_law_413 : decode (ib f_law) 413 = .ok (.aload_n 0, 1) := by decide +kernel
theorem d_law_414 : decode (ib f_law) 414 = .ok (.iload_n 3, 1) := by decide +kernel
theorem d_law_415 : decode (ib f_law) 415 = .ok (.iconst 3, 1) := by decide +kernel
theorem d_law_416 : decode (ib f_law) 416 = .ok (.iadd, 1) := by decide +kernel
theorem d_law_417 : decode (ib f_law) 417 = .ok (.iaload, 1) := by decide +kernel
theorem d_law_418 : decode (ib f_law) 418 = .ok (.aload_n 0, 1) := by decide +kernel
theorem d_law_419 : decode (ib f_law) 419 = .ok (.iload_n 3, 1) := by decide +kernel
theorem d_law_420 : decode (ib f_law) 420 = .ok (.iconst 4, 1) := by decide +kernel
theorem d_law_421 : decode (ib f_law) 421 = .ok (.iadd, 1) := by decide +kernel
theorem d_law_422 : decode (ib f_law) 422 = .ok (.iaload, 1) := by decide +kernel
theorem d_law_423 : decode (ib f_law) 423 = .ok (.aload_n 0, 1) := by decide +kernel
theorem d_law_424 : decode (ib f_law) 424 = .ok (.iload_n 3, 1) := by decide +kernel
theorem d_law_425 : decode (ib f_law) 425 = .ok (.iconst 5, 1) := by decide +kernel
theorem d_law_426 : decode (ib f_law) 426 = .ok (.iadd, 1) := by decide +kernel
theorem d_law_427 : decode (ib f_law) 427 = .ok (.iaload, 1) := by decide +kernel
theorem d_law_428 : decode (ib f_law) 428 = .ok (.invokevirtual 40, 3) := by decide +kernel
theorem d_law_431 : decode (ib f_law) 431 = .ok (.if_icmp .eq 788, 3) := by decide +kernel
theorem d_law_434 : decode (ib f_law) 434 = .ok (.iconst 0, 1) := by decide +kernel
theorem d_law_435 : decode (ib f_law) 435 = .ok (.ireturn, 1) := by decide +kernel
theorem d_law_436 : decode (ib f_law) 436 = .ok (.aload_n 1, 1) := by decide +kernel
theorem d_law_437 : decode (ib f_law) 437 = .ok (.aload_n 0, 1) := by decide +kernel
theorem d_law_438 : decode (ib f_law) 438 = .ok (.iload_n 3, 1) := by decide +kernel
theorem d_law_439 : decode (ib f_law) 439 = .ok (.iconst 1, 1) := by decide +kernel
theorem d_law_440 : decode (ib f_law) 440 = .ok (.iadd, 1) := by decide +kernel
theorem d_law_441 : decode (ib f_law) 441 = .ok (.iaload, 1) := by decide +kernel
theorem d_law_442 : decode (ib f_law) 442 = .ok (.invokevirtual 41, 3) := by decide +kernel
theorem d_law_445 : decode (ib f_law) 445 = .ok (.aload_n 2, 1) := by decide +kernel
theorem d_law_446 : decode (ib f_law) 446 = .ok (.aload_n 0, 1) := by decide +kernel
theorem d_law_447 : decode (ib f_law) 447 = .ok (.iload_n 3, 1) := by decide +kernel
theorem d_law_448 : decode (ib f_law) 448 = .ok (.iconst 1, 1) := by decide +kernel
theorem d_law_449 : decode (ib f_law) 449 = .ok (.iadd, 1) := by decide +kernel
theorem d_law_450 : decode (ib f_law) 450 = .ok (.iaload, 1) := by decide +kernel
theorem d_law_451 : decode (ib f_law) 451 = .ok (.invokevirtual 45, 3) := by decide +kernel
theorem d_law_454 : decode (ib f_law) 454 = .ok (.if_icmp .eq 765, 3) := by decide +kernel
theorem d_law_457 : decode (ib f_law) 457 = .ok (.iconst 0, 1) := by decide +kernel
theorem d_law_458 : decode (ib f_law) 458 = .ok (.ireturn, 1) := by decide +kernel
theorem d_law_459 : decode (ib f_law) 459 = .ok (.aload_n 1, 1) := by decide +kernel
theorem d_law_460 : decode (ib f_law) 460 = .ok (.aload_n 0, 1) := by decide +kernel
theorem d_law_461 : decode (ib f_law) 461 = .ok (.iload_n 3, 1) := by decide +kernel
theorem d_law_462 : decode (ib f_law) 462 = .ok (.iconst 1, 1) := by decide +kernel
theorem d_law_463 : decode (ib f_law) 463 = .ok (.iadd, 1) := by decide +kernel
theorem d_law_464 : decode (ib f_law) 464 = .ok (.iaload, 1) := by decide +kernel
theorem d_law_465 : decode (ib f_law) 465 = .ok (.invokevirtual 46, 3) := by decide +kernel
theorem d_law_468 : decode (ib f_law) 468 = .ok (.aload_n 2, 1) := by decide +kernel
theorem d_law_469 : decode (ib f_law) 469 = .ok (.aload_n 0, 1) := by decide +kernel
theorem d_law_470 : decode (ib f_law) 470 = .ok (.iload_n 3, 1) := by decide +kernel
theorem d_law_471 : decode (ib f_law) 471 = .ok (.iconst 1, 1) := by decide +kernel
theorem d_law_472 : decode (ib f_law) 472 = .ok (.iadd, 1) := by decide +kernel
theorem d_law_473 : decode (ib f_law) 473 = .ok (.iaload, 1) := by decide +kernel
theorem d_law_474 : decode (ib f_law) 474 = .ok (.invokevirtual 49, 3) := by decide +kernel
theorem d_law_477 : decode (ib f_law) 477 = .ok (.if_icmp .eq 742, 3) := by decide +kernel
theorem d_law_480 : decode (ib f_law) 480 = .ok (.iconst 0, 1) := by decide +kernel
theorem d_law_481 : decode (ib f_law) 481 = .ok (.ireturn, 1) := by decide +kernel
theorem d_law_482 : decode (ib f_law) 482 = .ok (.aload_n 1, 1) := by decide +kernel
theorem d_law_483 : decode (ib f_law) 483 = .ok (.aload_n 0, 1) := by decide +kernel
theorem d_law_484 : decode (ib f_law) 484 = .ok (.iload_n 3, 1) := by decide +kernel
theorem d_law_485 : decode (ib f_law) 485 = .ok (.iconst 1, 1) := by decide +kernel
theorem d_law_486 : decode (ib f_law) 486 = .ok (.iadd, 1) := by decide +kernel
theorem d_law_487 : decode (ib f_law) 487 = .ok (.iaload, 1) := by decide +kernel
theorem d_law_488 : decode (ib f_law) 488 = .ok (.invokevirtual 50, 3) := by decide +kernel
theorem d_law_491 : decode (ib f_law) 491 = .ok (.aload_n 2, 1) := by decide +kernel
theorem d_law_492 : decode (ib f_law) 492 = .ok (.aload_n 0, 1) := by decide +kernel
theorem d_law_493 : decode (ib f_law) 493 = .ok (.iload_n 3, 1) := by decide +kernel
theorem d_law_494 : decode (ib f_law) 494 = .ok (.iconst 1, 1) := by decide +kernel
theorem d_law_495 : decode (ib f_law) 495 = .ok (.iadd, 1) := by decide +kernel
theorem d_law_496 : decode (ib f_law) 496 = .ok (.iaload, 1) := by decide +kernel
theorem d_law_497 : decode (ib f_law) 497 = .ok (.invokevirtual 53, 3) := by decide +kernel
theorem d_law_500 : decode (ib f_law) 500 = .ok (.if_icmp .eq 719, 3) := by decide +kernel
theorem d_law_503 : decode (ib f_law) 503 = .ok (.iconst 0, 1) := by decide +kernel
theorem d_law_504 : decode (ib f_law) 504 = .ok (.ireturn, 1) := by decide +kernel
theorem d_law_505 : decode (ib f_law) 505 = .ok (.aload_n 1, 1) := by decide +kernel
theorem d_law_506 : decode (ib f_law) 506 = .ok (.aload_n 0, 1) := by decide +kernel
theorem d_law_507 : decode (ib f_law) 507 = .ok (.iload_n 3, 1) := by decide +kernel
theorem d_law_508 : decode (ib f_law) 508 = .ok (.iconst 1, 1) := by decide +kernel
theorem d_law_509 : decode (ib f_law) 509 = .ok (.iadd, 1) := by decide +kernel
theorem d_law_510 : decode (ib f_law) 510 = .ok (.iaload, 1) := by decide +kernel
theorem d_law_511 : decode (ib f_law) 511 = .ok (.aload_n 0, 1) := by decide +kernel
theorem d_law_512 : decode (ib f_law) 512 = .ok (.iload_n 3, 1) := by decide +kernel
theorem d_law_513 : decode (ib f_law) 513 = .ok (.iconst 2, 1) := by decide +kernel
theorem d_law_514 : decode (ib f_law) 514 = .ok (.iadd, 1) := by decide +kernel
theorem d_law_515 : decode (ib f_law) 515 = .ok (.iaload, 1) := by decide +kernel
theorem d_law_516 : decode (ib f_law) 516 = .ok (.invokevirtual 54, 3) := by decide +kernel
theorem d_law_519 : decode (ib f_law) 519 = .ok (.aload_n 2, 1) := by decide +kernel
theorem d_law_520 : decode (ib f_law) 520 = .ok (.aload_n 0, 1) := by decide +kernel
theorem d_law_521 : decode (ib f_law) 521 = .ok (.iload_n 3, 1) := by decide +kernel
theorem d_law_522 : decode (ib f_law) 522 = .ok (.iconst 1, 1) := by decide +kernel
theorem d_law_523 : decode (ib f_law) 523 = .ok (.iadd, 1) := by decide +kernel
theorem d_law_524 : decode (ib f_law) 524 = .ok (.iaload, 1) := by decide +kernel
theorem d_law_525 : decode (ib f_law) 525 = .ok (.aload_n 0, 1) := by decide +kernel
theorem d_law_526 : decode (ib f_law) 526 = .ok (.iload_n 3, 1) := by decide +kernel
theorem d_law_527 : decode (ib f_law) 527 = .ok (.iconst 2, 1) := by decide +kernel
theorem d_law_528 : decode (ib f_law) 528 = .ok (.iadd, 1) := by decide +kernel
theorem d_law_529 : decode (ib f_law) 529 = .ok (.iaload, 1) := by decide +kernel
theorem d_law_530 : decode (ib f_law) 530 = .ok (.invokevirtual 58, 3) := by decide +kernel
theorem d_law_533 : decode (ib f_law) 533 = .ok (.if_icmp .eq 686, 3) := by decide +kernel
theorem d_law_536 : decode (ib f_law) 536 = .ok (.iconst 0, 1) := by decide +kernel
theorem d_law_537 : decode (ib f_law) 537 = .ok (.ireturn, 1) := by decide +kernel
theorem d_law_538 : decode (ib f_law) 538 = .ok (.aload_n 1, 1) := by decide +kernel
theorem d_law_539 : decode (ib f_law) 539 = .ok (.aload_n 0, 1) := by decide +kernel
theorem d_law_540 : decode (ib f_law) 540 = .ok (.iload_n 3, 1) := by decide +kernel
theorem d_law_541 : decode (ib f_law) 541 = .ok (.iconst 1, 1) := by decide +kernel
theorem d_law_542 : decode (ib f_law) 542 = .ok (.iadd, 1) := by decide +kernel
theorem d_law_543 : decode (ib f_law) 543 = .ok (.iaload, 1) := by decide +kernel
theorem d_law_544 : decode (ib f_law) 544 = .ok (.aload_n 0, 1) := by decide +kernel
theorem d_law_545 : decode (ib f_law) 545 = .ok (.iload_n 3, 1) := by decide +kernel
theorem d_law_546 : decode (ib f_law) 546 = .ok (.iconst 2, 1) := by decide +kernel
theorem d_law_547 : decode (ib f_law) 547 = .ok (.iadd, 1) := by decide +kernel
theorem d_law_548 : decode (ib f_law) 548 = .ok (.iaload, 1) := by decide +kernel
theorem d_law_549 : decode (ib f_law) 549 = .ok (.invokevirtual 59, 3) := by decide +kernel
theorem d_law_552 : decode (ib f_law) 552 = .ok (.aload_n 2, 1) := by decide +kernel
theorem d_law_553 : decode (ib f_law) 553 = .ok (.aload_n 0, 1) := by decide +kernel
theorem d_law_554 : decode (ib f_law) 554 = .ok (.iload_n 3, 1) := by decide +kernel
theorem d_law_555 : decode (ib f_law) 555 = .ok (.iconst 1, 1) := by decide +kernel
theorem d_law_556 : decode (ib f_law) 556 = .ok (.iadd, 1) := by decide +kernel
theorem d_law_557 : decode (ib f_law) 557 = .ok (.iaload, 1) := by decide +kernel
theorem d_law_558 : decode (ib f_law) 558 = .ok (.aload_n 0, 1) := by decide +kernel
theorem d_law_559 : decode (ib f_law) 559 = .ok (.iload_n 3, 1) := by decide +kernel
theorem d_law_560 : decode (ib f_law) 560 = .ok (.iconst 2, 1) := by decide +kernel
theorem d_law_561 : decode (ib f_law) 561 = .ok (.iadd, 1) := by decide +kernel
theorem d_law_562 : decode (ib f_law) 562 = .ok (.iaload, 1) := by decide +kernel
theorem d_law_563 : decode (ib f_law) 563 = .ok (.invokevirtual 62, 3) := by decide +kernel
theorem d_law_566 : decode (ib f_law) 566 = .ok (.if_icmp .eq 653, 3) := by decide +kernel
theorem d_law_569 : decode (ib f_law) 569 = .ok (.iconst 0, 1) := by decide +kernel
theorem d_law_570 : decode (ib f_law) 570 = .ok (.ireturn, 1) := by decide +kernel
theorem d_law_571 : decode (ib f_law) 571 = .ok (.aload_n 1, 1) := by decide +kernel
theorem d_law_572 : decode (ib f_law) 572 = .ok (.aload_n 0, 1) := by decide +kernel
theorem d_law_573 : decode (ib f_law) 573 = .ok (.iload_n 3, 1) := by decide +kernel
theorem d_law_574 : decode (ib f_law) 574 = .ok (.iconst 1, 1) := by decide +kernel
theorem d_law_575 : decode (ib f_law) 575 = .ok (.iadd, 1) := by decide +kernel
theorem d_law_576 : decode (ib f_law) 576 = .ok (.iaload, 1) := by decide +kernel
theorem d_law_577 : decode (ib f_law) 577 = .ok (.aload_n 0, 1) := by decide +kernel
theorem d_law_578 : decode (ib f_law) 578 = .ok (.iload_n 3, 1) := by decide +kernel
theorem d_law_579 : decode (ib f_law) 579 = .ok (.iconst 2, 1) := by decide +kernel
theorem d_law_580 : decode (ib f_law) 580 = .ok (.iadd, 1) := by decide +kernel
theorem d_law_581 : decode (ib f_law) 581 = .ok (.iaload, 1) := by decide +kernel
theorem d_law_582 : decode (ib f_law) 582 = .ok (.invokevirtual 63, 3) := by decide +kernel
theorem d_law_585 : decode (ib f_law) 585 = .ok (.aload_n 2, 1) := by decide +kernel
theorem d_law_586 : decode (ib f_law) 586 = .ok (.aload_n 0, 1) := by decide +kernel
theorem d_law_587 : decode (ib f_law) 587 = .ok (.iload_n 3, 1) := by decide +kernel
theorem d_law_588 : decode (ib f_law) 588 = .ok (.iconst 1, 1) := by decide +kernel
theorem d_law_589 : decode (ib f_law) 589 = .ok (.iadd, 1) := by decide +kernel
theorem d_law_590 : decode (ib f_law) 590 = .ok (.iaload, 1) := by decide +kernel
theorem d_law_591 : decode (ib f_law) 591 = .ok (.aload_n 0, 1) := by decide +kernel
theorem d_law_592 : decode (ib f_law) 592 = .ok (.iload_n 3, 1) := by decide +kernel
theorem d_law_593 : decode (ib f_law) 593 = .ok (.iconst 2, 1) := by decide +kernel
theorem d_law_594 : decode (ib f_law) 594 = .ok (.iadd, 1) := by decide +kernel
theorem d_law_595 : decode (ib f_law) 595 = .ok (.iaload, 1) := by decide +kernel
theorem d_law_596 : decode (ib f_law) 596 = .ok (.invokevirtual 66, 3) := by decide +kernel
theorem d_law_599 : decode (ib f_law) 599 = .ok (.if_icmp .eq 620, 3) := by decide +kernel
theorem d_law_602 : decode (ib f_law) 602 = .ok (.iconst 0, 1) := by decide +kernel
theorem d_law_603 : decode (ib f_law) 603 = .ok (.ireturn, 1) := by decide +kernel
theorem d_law_604 : decode (ib f_law) 604 = .ok (.aload_n 1, 1) := by decide +kernel
theorem d_law_605 : decode (ib f_law) 605 = .ok (.aload_n 0, 1) := by decide +kernel
theorem d_law_606 : decode (ib f_law) 606 = .ok (.iload_n 3, 1) := by decide +kernel
theorem d_law_607 : decode (ib f_law) 607 = .ok (.iconst 1, 1) := by decide +kernel
theorem d_law_608 : decode (ib f_law) 608 = .ok (.iadd, 1) := by decide +kernel
theorem d_law_609 : decode (ib f_law) 609 = .ok (.iaload, 1) := by decide +kernel
theorem d_law_610 : decode (ib f_law) 610 = .ok (.aload_n 0, 1) := by decide +kernel
theorem d_law_611 : decode (ib f_law) 611 = .ok (.iload_n 3, 1) := by decide +kernel
theorem d_law_612 : decode (ib f_law) 612 = .ok (.iconst 2, 1) := by decide +kernel
theorem d_law_613 : decode (ib f_law) 613 = .ok (.iadd, 1) := by decide +kernel
theorem d_law_614 : decode (ib f_law) 614 = .ok (.iaload, 1) := by decide +kernel
theorem d_law_615 : decode (ib f_law) 615 = .ok (.invokevirtual 67, 3) := by decide +kernel
theorem d_law_618 : decode (ib f_law) 618 = .ok (.aload_n 2, 1) := by decide +kernel
theorem d_law_619 : decode (ib f_law) 619 = .ok (.aload_n 0, 1) := by decide +kernel
theorem d_law_620 : decode (ib f_law) 620 = .ok (.iload_n 3, 1) := by decide +kernel
theorem d_law_621 : decode (ib f_law) 621 = .ok (.iconst 1, 1) := by decide +kernel
theorem d_law_622 : decode (ib f_law) 622 = .ok (.iadd, 1) := by decide +kernel
theorem d_law_623 : decode (ib f_law) 623 = .ok (.iaload, 1) := by decide +kernel
theorem d_law_624 : decode (ib f_law) 624 = .ok (.aload_n 0, 1) := by decide +kernel
theorem d_law_625 : decode (ib f_law) 625 = .ok (.iload_n 3, 1) := by decide +kernel
theorem d_law_626 : decode (ib f_law) 626 = .ok (.iconst 2, 1) := by decide +kernel
theorem d_law_627 : decode (ib f_law) 627 = .ok (.iadd, 1) := by decide +kernel
theorem d_law_628 : decode (ib f_law) 628 = .ok (.iaload, 1) := by decide +kernel
theorem d_law_629 : decode (ib f_law) 629 = .ok (.invokevirtual 70, 3) := by decide +kernel
theorem d_law_632 : decode (ib f_law) 632 = .ok (.if_icmp .eq 587, 3) := by decide +kernel
theorem d_law_635 : decode (ib f_law) 635 = .ok (.iconst 0, 1) := by decide +kernel
theorem d_law_636 : decode (ib f_law) 636 = .ok (.ireturn, 1) := by decide +kernel
theorem d_law_637 : decode (ib f_law) 637 = .ok (.aload_n 1, 1) := by decide +kernel
theorem d_law_638 : decode (ib f_law) 638 = .ok (.aload_n 0, 1) := by decide +kernel
theorem d_law_639 : decode (ib f_law) 639 = .ok (.iload_n 3, 1) := by decide +kernel
theorem d_law_640 : decode (ib f_law) 640 = .ok (.iconst 1, 1) := by decide +kernel
theorem d_law_641 : decode (ib f_law) 641 = .ok (.iadd, 1) := by decide +kernel
theorem d_law_642 : decode (ib f_law) 642 = .ok (.iaload, 1) := by decide +kernel
theorem d_law_643 : decode (ib f_law) 643 = .ok (.invokevirtual 71, 3) := by decide +kernel
theorem d_law_646 : decode (ib f_law) 646 = .ok (.aload_n 2, 1) := by decide +kernel
theorem d_law_647 : decode (ib f_law) 647 = .ok (.aload_n 0, 1) := by decide +kernel
theorem d_law_648 : decode (ib f_law) 648 = .ok (.iload_n 3, 1) := by decide +kernel
theorem d_law_649 : decode (ib f_law) 649 = .ok (.iconst 1, 1) := by decide +kernel
theorem d_law_650 : decode (ib f_law) 650 = .ok (.iadd, 1) := by decide +kernel
theorem d_law_651 : decode (ib f_law) 651 = .ok (.iaload, 1) := by decide +kernel
theorem d_law_652 : decode (ib f_law) 652 = .ok (.invokevirtual 74, 3) := by decide +kernel
theorem d_law_655 : decode (ib f_law) 655 = .ok (.if_icmp .eq 564, 3) := by decide +kernel
theorem d_law_658 : decode (ib f_law) 658 = .ok (.iconst 0, 1) := by decide +kernel
theorem d_law_659 : decode (ib f_law) 659 = .ok (.ireturn, 1) := by decide +kernel
theorem d_law_660 : decode (ib f_law) 660 = .ok (.aload_n 1, 1) := by decide +kernel
theorem d_law_661 : decode (ib f_law) 661 = .ok (.aload_n 0, 1) := by decide +kernel
theorem d_law_662 : decode (ib f_law) 662 = .ok (.iload_n 3, 1) := by decide +kernel
theorem d_law_663 : decode (ib f_law) 663 = .ok (.iconst 1, 1) := by decide +kernel
theorem d_law_664 : decode (ib f_law) 664 = .ok (.iadd, 1) := by decide +kernel
theorem d_law_665 : decode (ib f_law) 665 = .ok (.iaload, 1) := by decide +kernel
theorem d_law_666 : decode (ib f_law) 666 = .ok (.invokevirtual 75, 3) := by decide +kernel
theorem d_law_669 : decode (ib f_law) 669 = .ok (.aload_n 2, 1) := by decide +kernel
theorem d_law_670 : decode (ib f_law) 670 = .ok (.aload_n 0, 1) := by decide +kernel
theorem d_law_671 : decode (ib f_law) 671 = .ok (.iload_n 3, 1) := by decide +kernel
theorem d_law_672 : decode (ib f_law) 672 = .ok (.iconst 1, 1) := by decide +kernel
theorem d_law_673 : decode (ib f_law) 673 = .ok (.iadd, 1) := by decide +kernel
theorem d_law_674 : decode (ib f_law) 674 = .ok (.iaload, 1) := by decide +kernel
theorem d_law_675 : decode (ib f_law) 675 = .ok (.invokevirtual 78, 3) := by decide +kernel
theorem d_law_678 : decode (ib f_law) 678 = .ok (.if_icmp .eq 541, 3) := by decide +kernel
theorem d_law_681 : decode (ib f_law) 681 = .ok (.iconst 0, 1) := by decide +kernel
theorem d_law_682 : decode (ib f_law) 682 = .ok (.ireturn, 1) := by decide +kernel
theorem d_law_683 : decode (ib f_law) 683 = .ok (.aload_n 1, 1) := by decide +kernel
theorem d_law_684 : decode (ib f_law) 684 = .ok (.aload_n 0, 1) := by decide +kernel
theorem d_law_685 : decode (ib f_law) 685 = .ok (.iload_n 3, 1) := by decide +kernel
theorem d_law_686 : decode (ib f_law) 686 = .ok (.iconst 1, 1) := by decide +kernel
theorem d_law_687 : decode (ib f_law) 687 = .ok (.iadd, 1) := by decide +kernel
theorem d_law_688 : decode (ib f_law) 688 = .ok (.iaload, 1) := by decide +kernel
theorem d_law_689 : decode (ib f_law) 689 = .ok (.invokevirtual 79, 3) := by decide +kernel
theorem d_law_692 : decode (ib f_law) 692 = .ok (.aload_n 2, 1) := by decide +kernel
theorem d_law_693 : decode (ib f_law) 693 = .ok (.aload_n 0, 1) := by decide +kernel
theorem d_law_694 : decode (ib f_law) 694 = .ok (.iload_n 3, 1) := by decide +kernel
theorem d_law_695 : decode (ib f_law) 695 = .ok (.iconst 1, 1) := by decide +kernel
theorem d_law_696 : decode (ib f_law) 696 = .ok (.iadd, 1) := by decide +kernel
theorem d_law_697 : decode (ib f_law) 697 = .ok (.iaload, 1) := by decide +kernel
theorem d_law_698 : decode (ib f_law) 698 = .ok (.invokevirtual 82, 3) := by decide +kernel
theorem d_law_701 : decode (ib f_law) 701 = .ok (.if_icmp .eq 518, 3) := by decide +kernel
theorem d_law_704 : decode (ib f_law) 704 = .ok (.iconst 0, 1) := by decide +kernel
theorem d_law_705 : decode (ib f_law) 705 = .ok (.ireturn, 1) := by decide +kernel
theorem d_law_706 : decode (ib f_law) 706 = .ok (.aload_n 1, 1) := by decide +kernel
theorem d_law_707 : decode (ib f_law) 707 = .ok (.aload_n 0, 1) := by decide +kernel
theorem d_law_708 : decode (ib f_law) 708 = .ok (.iload_n 3, 1) := by decide +kernel
theorem d_law_709 : decode (ib f_law) 709 = .ok (.iconst 1, 1) := by decide +kernel
theorem d_law_710 : decode (ib f_law) 710 = .ok (.iadd, 1) := by decide +kernel
theorem d_law_711 : decode (ib f_law) 711 = .ok (.iaload, 1) := by decide +kernel
theorem d_law_712 : decode (ib f_law) 712 = .ok (.invokevirtual 83, 3) := by decide +kernel
theorem d_law_715 : decode (ib f_law) 715 = .ok (.aload_n 2, 1) := by decide +kernel
theorem d_law_716 : decode (ib f_law) 716 = .ok (.aload_n 0, 1) := by decide +kernel
theorem d_law_717 : decode (ib f_law) 717 = .ok (.iload_n 3, 1) := by decide +kernel
theorem d_law_718 : decode (ib f_law) 718 = .ok (.iconst 1, 1) := by decide +kernel
theorem d_law_719 : decode (ib f_law) 719 = .ok (.iadd, 1) := by decide +kernel
theorem d_law_720 : decode (ib f_law) 720 = .ok (.iaload, 1) := by decide +kernel
theorem d_law_721 : decode (ib f_law) 721 = .ok (.invokevirtual 86, 3) := by decide +kernel
theorem d_law_724 : decode (ib f_law) 724 = .ok (.if_icmp .eq 495, 3) := by decide +kernel
theorem d_law_727 : decode (ib f_law) 727 = .ok (.iconst 0, 1) := by decide +kernel
theorem d_law_728 : decode (ib f_law) 728 = .ok (.ireturn, 1) := by decide +kernel
theorem d_law_729 : decode (ib f_law) 729 = .ok (.aload_n 1, 1) := by decide +kernel
theorem d_law_730 : decode (ib f_law) 730 = .ok (.aload_n 0, 1) := by decide +kernel
theorem d_law_731 : decode (ib f_law) 731 = .ok (.iload_n 3, 1) := by decide +kernel
theorem d_law_732 : decode (ib f_law) 732 = .ok (.iconst 1, 1) := by decide +kernel
theorem d_law_733 : decode (ib f_law) 733 = .ok (.iadd, 1) := by decide +kernel
theorem d_law_734 : decode (ib f_law) 734 = .ok (.iaload, 1) := by decide +kernel
theorem d_law_735 : decode (ib f_law) 735 = .ok (.aload_n 0, 1) := by decide +kernel
theorem d_law_736 : decode (ib f_law) 736 = .ok (.iload_n 3, 1) := by decide +kernel
theorem d_law_737 : decode (ib f_law) 737 = .ok (.iconst 2, 1) := by decide +kernel
theorem d_law_738 : decode (ib f_law) 738 = .ok (.iadd, 1) := by decide +kernel
theorem d_law_739 : decode (ib f_law) 739 = .ok (.iaload, 1) := by decide +kernel
theorem d_law_740 : decode (ib f_law) 740 = .ok (.invokevirtual 87, 3) := by decide +kernel
theorem d_law_743 : decode (ib f_law) 743 = .ok (.aload_n 2, 1) := by decide +kernel
theorem d_law_744 : decode (ib f_law) 744 = .ok (.aload_n 0, 1) := by decide +kernel
theorem d_law_745 : decode (ib f_law) 745 = .ok (.iload_n 3, 1) := by decide +kernel
theorem d_law_746 : decode (ib f_law) 746 = .ok (.iconst 1, 1) := by decide +kernel
theorem d_law_747 : decode (ib f_law) 747 = .ok (.iadd, 1) := by decide +kernel
theorem d_law_748 : decode (ib f_law) 748 = .ok (.iaload, 1) := by decide +kernel
theorem d_law_749 : decode (ib f_law) 749 = .ok (.aload_n 0, 1) := by decide +kernel
theorem d_law_750 : decode (ib f_law) 750 = .ok (.iload_n 3, 1) := by decide +kernel
theorem d_law_751 : decode (ib f_law) 751 = .ok (.iconst 2, 1) := by decide +kernel
theorem d_law_752 : decode (ib f_law) 752 = .ok (.iadd, 1) := by decide +kernel
theorem d_law_753 : decode (ib f_law) 753 = .ok (.iaload, 1) := by decide +kernel
theorem d_law_754 : decode (ib f_law) 754 = .ok (.invokevirtual 90, 3) := by decide +kernel
theorem d_law_757 : decode (ib f_law) 757 = .ok (.if_icmp .eq 462, 3) := by decide +kernel
theorem d_law_760 : decode (ib f_law) 760 = .ok (.iconst 0, 1) := by decide +kernel
theorem d_law_761 : decode (ib f_law) 761 = .ok (.ireturn, 1) := by decide +kernel
theorem d_law_762 : decode (ib f_law) 762 = .ok (.aload_n 1, 1) := by decide +kernel
theorem d_law_763 : decode (ib f_law) 763 = .ok (.aload_n 0, 1) := by decide +kernel
theorem d_law_764 : decode (ib f_law) 764 = .ok (.iload_n 3, 1) := by decide +kernel
theorem d_law_765 : decode (ib f_law) 765 = .ok (.iconst 1, 1) := by decide +kernel
theorem d_law_766 : decode (ib f_law) 766 = .ok (.iadd, 1) := by decide +kernel
theorem d_law_767 : decode (ib f_law) 767 = .ok (.iaload, 1) := by decide +kernel
theorem d_law_768 : decode (ib f_law) 768 = .ok (.aload_n 0, 1) := by decide +kernel
theorem d_law_769 : decode (ib f_law) 769 = .ok (.iload_n 3, 1) := by decide +kernel
theorem d_law_770 : decode (ib f_law) 770 = .ok (.iconst 2, 1) := by decide +kernel
theorem d_law_771 : decode (ib f_law) 771 = .ok (.iadd, 1) := by decide +kernel
theorem d_law_772 : decode (ib f_law) 772 = .ok (.iaload, 1) := by decide +kernel
theorem d_law_773 : decode (ib f_law) 773 = .ok (.invokevirtual 91, 3) := by decide +kernel
theorem d_law_776 : decode (ib f_law) 776 = .ok (.aload_n 2, 1) := by decide +kernel
theorem d_law_777 : decode (ib f_law) 777 = .ok (.aload_n 0, 1) := by decide +kernel
theorem d_law_778 : decode (ib f_law) 778 = .ok (.iload_n 3, 1) := by decide +kernel
theorem d_law_779 : decode (ib f_law) 779 = .ok (.iconst 1, 1) := by decide +kernel
theorem d_law_780 : decode (ib f_law) 780 = .ok (.iadd, 1) := by decide +kernel
theorem d_law_781 : decode (ib f_law) 781 = .ok (.iaload, 1) := by decide +kernel
theorem d_law_782 : decode (ib f_law) 782 = .ok (.aload_n 0, 1) := by decide +kernel
theorem d_law_783 : decode (ib f_law) 783 = .ok (.iload_n 3, 1) := by decide +kernel
theorem d_law_784 : decode (ib f_law) 784 = .ok (.iconst 2, 1) := by decide +kernel
theorem d_law_785 : decode (ib f_law) 785 = .ok (.iadd, 1) := by decide +kernel
theorem d_law_786 : decode (ib f_law) 786 = .ok (.iaload, 1) := by decide +kernel
theorem d_law_787 : decode (ib f_law) 787 = .ok (.invokevirtual 94, 3) := by decide +kernel
theorem d_law_790 : decode (ib f_law) 790 = .ok (.if_icmp .eq 429, 3) := by decide +kernel
theorem d_law_793 : decode (ib f_law) 793 = .ok (.iconst 0, 1) := by decide +kernel
theorem d_law_794 : decode (ib f_law) 794 = .ok (.ireturn, 1) := by decide +kernel
theorem d_law_795 : decode (ib f_law) 795 = .ok (.aload_n 1, 1) := by decide +kernel
theorem d_law_796 : decode (ib f_law) 796 = .ok (.aload_n 0, 1) := by decide +kernel
theorem d_law_797 : decode (ib f_law) 797 = .ok (.iload_n 3, 1) := by decide +kernel
theorem d_law_798 : decode (ib f_law) 798 = .ok (.iconst 1, 1) := by decide +kernel
theorem d_law_799 : decode (ib f_law) 799 = .ok (.iadd, 1) := by decide +kernel
theorem d_law_800 : decode (ib f_law) 800 = .ok (.iaload, 1) := by decide +kernel
theorem d_law_801 : decode (ib f_law) 801 = .ok (.invokevirtual 95, 3) := by decide +kernel
theorem d_law_804 : decode (ib f_law) 804 = .ok (.aload_n 2, 1) := by decide +kernel
theorem d_law_805 : decode (ib f_law) 805 = .ok (.aload_n 0, 1) := by decide +kernel
theorem d_law_806 : decode (ib f_law) 806 = .ok (.iload_n 3, 1) := by decide +kernel
theorem d_law_807 : decode (ib f_law) 807 = .ok (.iconst 1, 1) := by decide +kernel
theorem d_law_808 : decode (ib f_law) 808 = .ok (.iadd, 1) := by decide +kernel
theorem d_law_809 : decode (ib f_law) 809 = .ok (.iaload, 1) := by decide +kernel
theorem d_law_810 : decode (ib f_law) 810 = .ok (.invokevirtual 98, 3) := by decide +kernel
theorem d_law_813 : decode (ib f_law) 813 = .ok (.if_icmp .eq 406, 3) := by decide +kernel
theorem d_law_816 : decode (ib f_law) 816 = .ok (.iconst 0, 1) := by decide +kernel
theorem d_law_817 : decode (ib f_law) 817 = .ok (.ireturn, 1) := by decide +kernel
theorem d_law_818 : decode (ib f_law) 818 = .ok (.aload_n 1, 1) := by decide +kernel
theorem d_law_819 : decode (ib f_law) 819 = .ok (.aload_n 0, 1) := by decide +kernel
theorem d_law_820 : decode (ib f_law) 820 = .ok (.iload_n 3, 1) := by decide +kernel
theorem d_law_821 : decode (ib f_law) 821 = .ok (.iconst 1, 1) := by decide +kernel
theorem d_law_822 : decode (ib f_law) 822 = .ok (.iadd, 1) := by decide +kernel
theorem d_law_823 : decode (ib f_law) 823 = .ok (.iaload, 1) := by decide +kernel
theorem d_law_824 : decode (ib f_law) 824 = .ok (.invokevirtual 99, 3) := by decide +kernel
theorem d_law_827 : decode (ib f_law) 827 = .ok (.aload_n 2, 1) := by decide +kernel
theorem d_law_828 : decode (ib f_law) 828 = .ok (.aload_n 0, 1) := by decide +kernel
theorem d_law_829 : decode (ib f_law) 829 = .ok (.iload_n 3, 1) := by decide +kernel
theorem d_law_830 : decode (ib f_law) 830 = .ok (.iconst 1, 1) := by decide +kernel
theorem d_law_831 : decode (ib f_law) 831 = .ok (.iadd, 1) := by decide +kernel
theorem d_law_832 : decode (ib f_law) 832 = .ok (.iaload, 1) := by decide +kernel
theorem d_law_833 : decode (ib f_law) 833 = .ok (.invokevirtual 102, 3) := by decide +kernel
theorem d_law_836 : decode (ib f_law) 836 = .ok (.if_icmp .eq 383, 3) := by decide +kernel
theorem d_law_839 : decode (ib f_law) 839 = .ok (.iconst 0, 1) := by decide +kernel
theorem d_law_840 : decode (ib f_law) 840 = .ok (.ireturn, 1) := by decide +kernel
theorem d_law_841 : decode (ib f_law) 841 = .ok (.aload_n 1, 1) := by decide +kernel
theorem d_law_842 : decode (ib f_law) 842 = .ok (.aload_n 0, 1) := by decide +kernel
theorem d_law_843 : decode (ib f_law) 843 = .ok (.iload_n 3, 1) := by decide +kernel
theorem d_law_844 : decode (ib f_law) 844 = .ok (.iconst 1, 1) := by decide +kernel
theorem d_law_845 : decode (ib f_law) 845 = .ok (.iadd, 1) := by decide +kernel
theorem d_law_846 : decode (ib f_law) 846 = .ok (.iaload, 1) := by decide +kernel
theorem d_law_847 : decode (ib f_law) 847 = .ok (.invokevirtual 103, 3) := by decide +kernel
theorem d_law_850 : decode (ib f_law) 850 = .ok (.aload_n 2, 1) := by decide +kernel
theorem d_law_851 : decode (ib f_law) 851 = .ok (.aload_n 0, 1) := by decide +kernel
theorem d_law_852 : decode (ib f_law) 852 = .ok (.iload_n 3, 1) := by decide +kernel
theorem d_law_853 : decode (ib f_law) 853 = .ok (.iconst 1, 1) := by decide +kernel
theorem d_law_854 : decode (ib f_law) 854 = .ok (.iadd, 1) := by decide +kernel
theorem d_law_855 : decode (ib f_law) 855 = .ok (.iaload, 1) := by decide +kernel
theorem d_law_856 : decode (ib f_law) 856 = .ok (.invokevirtual 106, 3) := by decide +kernel
theorem d_law_859 : decode (ib f_law) 859 = .ok (.if_icmp .eq 360, 3) := by decide +kernel
theorem d_law_862 : decode (ib f_law) 862 = .ok (.iconst 0, 1) := by decide +kernel
theorem d_law_863 : decode (ib f_law) 863 = .ok (.ireturn, 1) := by decide +kernel
theorem d_law_864 : decode (ib f_law) 864 = .ok (.aload_n 1, 1) := by decide +kernel
theorem d_law_865 : decode (ib f_law) 865 = .ok (.aload_n 0, 1) := by decide +kernel
theorem d_law_866 : decode (ib f_law) 866 = .ok (.iload_n 3, 1) := by decide +kernel
theorem d_law_867 : decode (ib f_law) 867 = .ok (.iconst 1, 1) := by decide +kernel
theorem d_law_868 : decode (ib f_law) 868 = .ok (.iadd, 1) := by decide +kernel
theorem d_law_869 : decode (ib f_law) 869 = .ok (.iaload, 1) := by decide +kernel
theorem d_law_870 : decode (ib f_law) 870 = .ok (.invokevirtual 107, 3) := by decide +kernel
theorem d_law_873 : decode (ib f_law) 873 = .ok (.aload_n 2, 1) := by decide +kernel
theorem d_law_874 : decode (ib f_law) 874 = .ok (.aload_n 0, 1) := by decide +kernel
theorem d_law_875 : decode (ib f_law) 875 = .ok (.iload_n 3, 1) := by decide +kernel
theorem d_law_876 : decode (ib f_law) 876 = .ok (.iconst 1, 1) := by decide +kernel
theorem d_law_877 : decode (ib f_law) 877 = .ok (.iadd, 1) := by decide +kernel
theorem d_law_878 : decode (ib f_law) 878 = .ok (.iaload, 1) := by decide +kernel
theorem d_law_879 : decode (ib f_law) 879 = .ok (.invokevirtual 110, 3) := by decide +kernel
theorem d_law_882 : decode (ib f_law) 882 = .ok (.if_icmp .eq 337, 3) := by decide +kernel
theorem d_law_885 : decode (ib f_law) 885 = .ok (.iconst 0, 1) := by decide +kernel
theorem d_law_886 : decode (ib f_law) 886 = .ok (.ireturn, 1) := by decide +kernel
theorem d_law_887 : decode (ib f_law) 887 = .ok (.aload_n 1, 1) := by decide +kernel
theorem d_law_888 : decode (ib f_law) 888 = .ok (.aload_n 0, 1) := by decide +kernel
theorem d_law_889 : decode (ib f_law) 889 = .ok (.iload_n 3, 1) := by decide +kernel
theorem d_law_890 : decode (ib f_law) 890 = .ok (.iconst 1, 1) := by decide +kernel
theorem d_law_891 : decode (ib f_law) 891 = .ok (.iadd, 1) := by decide +kernel
theorem d_law_892 : decode (ib f_law) 892 = .ok (.iaload, 1) := by decide +kernel
theorem d_law_893 : decode (ib f_law) 893 = .ok (.aload_n 0, 1) := by decide +kernel
theorem d_law_894 : decode (ib f_law) 894 = .ok (.iload_n 3, 1) := by decide +kernel
theorem d_law_895 : decode (ib f_law) 895 = .ok (.iconst 2, 1) := by decide +kernel
theorem d_law_896 : decode (ib f_law) 896 = .ok (.iadd, 1) := by decide +kernel
theorem d_law_897 : decode (ib f_law) 897 = .ok (.iaload, 1) := by decide +kernel
theorem d_law_898 : decode (ib f_law) 898 = .ok (.aload_n 0, 1) := by decide +kernel
theorem d_law_899 : decode (ib f_law) 899 = .ok (.iload_n 3, 1) := by decide +kernel
theorem d_law_900 : decode (ib f_law) 900 = .ok (.iconst 3, 1) := by decide +kernel
theorem d_law_901 : decode (ib f_law) 901 = .ok (.iadd, 1) := by decide +kernel
theorem d_law_902 : decode (ib f_law) 902 = .ok (.iaload, 1) := by decide +kernel
theorem d_law_903 : decode (ib f_law) 903 = .ok (.invokevirtual 111, 3) := by decide +kernel
theorem d_law_906 : decode (ib f_law) 906 = .ok (.aload_n 2, 1) := by decide +kernel
theorem d_law_907 : decode (ib f_law) 907 = .ok (.aload_n 0, 1) := by decide +kernel
theorem d_law_908 : decode (ib f_law) 908 = .ok (.iload_n 3, 1) := by decide +kernel
theorem d_law_909 : decode (ib f_law) 909 = .ok (.iconst 1, 1) := by decide +kernel
theorem d_law_910 : decode (ib f_law) 910 = .ok (.iadd, 1) := by decide +kernel
theorem d_law_911 : decode (ib f_law) 911 = .ok (.iaload, 1) := by decide +kernel
theorem d_law_912 : decode (ib f_law) 912 = .ok (.aload_n 0, 1) := by decide +kernel
theorem d_law_913 : decode (ib f_law) 913 = .ok (.iload_n 3, 1) := by decide +kernel
theorem d_law_914 : decode (ib f_law) 914 = .ok (.iconst 2, 1) := by decide +kernel
theorem d_law_915 : decode (ib f_law) 915 = .ok (.iadd, 1) := by decide +kernel
theorem d_law_916 : decode (ib f_law) 916 = .ok (.iaload, 1) := by decide +kernel
theorem d_law_917 : decode (ib f_law) 917 = .ok (.aload_n 0, 1) := by decide +kernel
theorem d_law_918 : decode (ib f_law) 918 = .ok (.iload_n 3, 1) := by decide +kernel
theorem d_law_919 : decode (ib f_law) 919 = .ok (.iconst 3, 1) := by decide +kernel
theorem d_law_920 : decode (ib f_law) 920 = .ok (.iadd, 1) := by decide +kernel
theorem d_law_921 : decode (ib f_law) 921 = .ok (.iaload, 1) := by decide +kernel
theorem d_law_922 : decode (ib f_law) 922 = .ok (.invokevirtual 115, 3) := by decide +kernel
theorem d_law_925 : decode (ib f_law) 925 = .ok (.if_icmp .eq 294, 3) := by decide +kernel
theorem d_law_928 : decode (ib f_law) 928 = .ok (.iconst 0, 1) := by decide +kernel
theorem d_law_929 : decode (ib f_law) 929 = .ok (.ireturn, 1) := by decide +kernel
theorem d_law_930 : decode (ib f_law) 930 = .ok (.aload_n 1, 1) := by decide +kernel
theorem d_law_931 : decode (ib f_law) 931 = .ok (.aload_n 0, 1) := by decide +kernel
theorem d_law_932 : decode (ib f_law) 932 = .ok (.iload_n 3, 1) := by decide +kernel
theorem d_law_933 : decode (ib f_law) 933 = .ok (.iconst 1, 1) := by decide +kernel
theorem d_law_934 : decode (ib f_law) 934 = .ok (.iadd, 1) := by decide +kernel
theorem d_law_935 : decode (ib f_law) 935 = .ok (.iaload, 1) := by decide +kernel
theorem d_law_936 : decode (ib f_law) 936 = .ok (.invokevirtual 116, 3) := by decide +kernel
theorem d_law_939 : decode (ib f_law) 939 = .ok (.aload_n 2, 1) := by decide +kernel
theorem d_law_940 : decode (ib f_law) 940 = .ok (.aload_n 0, 1) := by decide +kernel
theorem d_law_941 : decode (ib f_law) 941 = .ok (.iload_n 3, 1) := by decide +kernel
theorem d_law_942 : decode (ib f_law) 942 = .ok (.iconst 1, 1) := by decide +kernel
theorem d_law_943 : decode (ib f_law) 943 = .ok (.iadd, 1) := by decide +kernel
theorem d_law_944 : decode (ib f_law) 944 = .ok (.iaload, 1) := by decide +kernel
theorem d_law_945 : decode (ib f_law) 945 = .ok (.invokevirtual 119, 3) := by decide +kernel
theorem d_law_948 : decode (ib f_law) 948 = .ok (.if_icmp .eq 271, 3) := by decide +kernel
theorem d_law_951 : decode (ib f_law) 951 = .ok (.iconst 0, 1) := by decide +kernel
theorem d_law_952 : decode (ib f_law) 952 = .ok (.ireturn, 1) := by decide +kernel
theorem d_law_953 : decode (ib f_law) 953 = .ok (.aload_n 1, 1) := by decide +kernel
theorem d_law_954 : decode (ib f_law) 954 = .ok (.aload_n 0, 1) := by decide +kernel
theorem d_law_955 : decode (ib f_law) 955 = .ok (.iload_n 3, 1) := by decide +kernel
theorem d_law_956 : decode (ib f_law) 956 = .ok (.iconst 1, 1) := by decide +kernel
theorem d_law_957 : decode (ib f_law) 957 = .ok (.iadd, 1) := by decide +kernel
theorem d_law_958 : decode (ib f_law) 958 = .ok (.iaload, 1) := by decide +kernel
theorem d_law_959 : decode (ib f_law) 959 = .ok (.invokevirtual 120, 3) := by decide +kernel
theorem d_law_962 : decode (ib f_law) 962 = .ok (.aload_n 2, 1) := by decide +kernel
theorem d_law_963 : decode (ib f_law) 963 = .ok (.aload_n 0, 1) := by decide +kernel
theorem d_law_964 : decode (ib f_law) 964 = .ok (.iload_n 3, 1) := by decide +kernel
theorem d_law_965 : decode (ib f_law) 965 = .ok (.iconst 1, 1) := by decide +kernel
theorem d_law_966 : decode (ib f_law) 966 = .ok (.iadd, 1) := by decide +kernel
theorem d_law_967 : decode (ib f_law) 967 = .ok (.iaload, 1) := by decide +kernel
theorem d_law_968 : decode (ib f_law) 968 = .ok (.invokevirtual 123, 3) := by decide +kernel
theorem d_law_971 : decode (ib f_law) 971 = .ok (.if_icmp .eq 248, 3) := by decide +kernel
theorem d_law_974 : decode (ib f_law) 974 = .ok (.iconst 0, 1) := by decide +kernel
theorem d_law_975 : decode (ib f_law) 975 = .ok (.ireturn, 1) := by decide +kernel
theorem d_law_976 : decode (ib f_law) 976 = .ok (.aload_n 1, 1) := by decide +kernel
theorem d_law_977 : decode (ib f_law) 977 = .ok (.aload_n 0, 1) := by decide +kernel
theorem d_law_978 : decode (ib f_law) 978 = .ok (.iload_n 3, 1) := by decide +kernel
theorem d_law_979 : decode (ib f_law) 979 = .ok (.iconst 1, 1) := by decide +kernel
theorem d_law_980 : decode (ib f_law) 980 = .ok (.iadd, 1) := by decide +kernel
theorem d_law_981 : decode (ib f_law) 981 = .ok (.iaload, 1) := by decide +kernel
theorem d_law_982 : decode (ib f_law) 982 = .ok (.aload_n 0, 1) := by decide +kernel
theorem d_law_983 : decode (ib f_law) 983 = .ok (.iload_n 3, 1) := by decide +kernel
theorem d_law_984 : decode (ib f_law) 984 = .ok (.iconst 2, 1) := by decide +kernel
theorem d_law_985 : decode (ib f_law) 985 = .ok (.iadd, 1) := by decide +kernel
theorem d_law_986 : decode (ib f_law) 986 = .ok (.iaload, 1) := by decide +kernel
theorem d_law_987 : decode (ib f_law) 987 = .ok (.invokevirtual 124, 3) := by decide +kernel
theorem d_law_990 : decode (ib f_law) 990 = .ok (.aload_n 2, 1) := by decide +kernel
theorem d_law_991 : decode (ib f_law) 991 = .ok (.aload_n 0, 1) := by decide +kernel
theorem d_law_992 : decode (ib f_law) 992 = .ok (.iload_n 3, 1) := by decide +kernel
theorem d_law_993 : decode (ib f_law) 993 = .ok (.iconst 1, 1) := by decide +kernel
theorem d_law_994 : decode (ib f_law) 994 = .ok (.iadd, 1) := by decide +kernel
theorem d_law_995 : decode (ib f_law) 995 = .ok (.iaload, 1) := by decide +kernel
theorem d_law_996 : decode (ib f_law) 996 = .ok (.aload_n 0, 1) := by decide +kernel
theorem d_law_997 : decode (ib f_law) 997 = .ok (.iload_n 3, 1) := by decide +kernel
theorem d_law_998 : decode (ib f_law) 998 = .ok (.iconst 2, 1) := by decide +kernel
theorem d_law_999 : decode (ib f_law) 999 = .ok (.iadd, 1) := by decide +kernel
theorem d_law_1000 : decode (ib f_law) 1000 = .ok (.iaload, 1) := by decide +kernel
theorem d_law_1001 : decode (ib f_law) 1001 = .ok (.invokevirtual 127, 3) := by decide +kernel
theorem d_law_1004 : decode (ib f_law) 1004 = .ok (.if_icmp .eq 215, 3) := by decide +kernel
theorem d_law_1007 : decode (ib f_law) 1007 = .ok (.iconst 0, 1) := by decide +kernel
theorem d_law_1008 : decode (ib f_law) 1008 = .ok (.ireturn, 1) := by decide +kernel
theorem d_law_1009 : decode (ib f_law) 1009 = .ok (.aload_n 1, 1) := by decide +kernel
theorem d_law_1010 : decode (ib f_law) 1010 = .ok (.aload_n 0, 1) := by decide +kernel
theorem d_law_1011 : decode (ib f_law) 1011 = .ok (.iload_n 3, 1) := by decide +kernel
theorem d_law_1012 : decode (ib f_law) 1012 = .ok (.iconst 1, 1) := by decide +kernel
theorem d_law_1013 : decode (ib f_law) 1013 = .ok (.iadd, 1) := by decide +kernel
theorem d_law_1014 : decode (ib f_law) 1014 = .ok (.iaload, 1) := by decide +kernel
theorem d_law_1015 : decode (ib f_law) 1015 = .ok (.invokevirtual 128, 3) := by decide +kernel
theorem d_law_1018 : decode (ib f_law) 1018 = .ok (.aload_n 2, 1) := by decide +kernel
theorem d_law_1019 : decode (ib f_law) 1019 = .ok (.aload_n 0, 1) := by decide +kernel
theorem d_law_1020 : decode (ib f_law) 1020 = .ok (.iload_n 3, 1) := by decide +kernel
theorem d_law_1021 : decode (ib f_law) 1021 = .ok (.iconst 1, 1) := by decide +kernel
theorem d_law_1022 : decode (ib f_law) 1022 = .ok (.iadd, 1) := by decide +kernel
theorem d_law_1023 : decode (ib f_law) 1023 = .ok (.iaload, 1) := by decide +kernel
theorem d_law_1024 : decode (ib f_law) 1024 = .ok (.invokevirtual 131, 3) := by decide +kernel
theorem d_law_1027 : decode (ib f_law) 1027 = .ok (.if_icmp .eq 192, 3) := by decide +kernel
theorem d_law_1030 : decode (ib f_law) 1030 = .ok (.iconst 0, 1) := by decide +kernel
theorem d_law_1031 : decode (ib f_law) 1031 = .ok (.ireturn, 1) := by decide +kernel
theorem d_law_1032 : decode (ib f_law) 1032 = .ok (.aload_n 1, 1) := by decide +kernel
theorem d_law_1033 : decode (ib f_law) 1033 = .ok (.aload_n 0, 1) := by decide +kernel
theorem d_law_1034 : decode (ib f_law) 1034 = .ok (.iload_n 3, 1) := by decide +kernel
theorem d_law_1035 : decode (ib f_law) 1035 = .ok (.iconst 1, 1) := by decide +kernel
theorem d_law_1036 : decode (ib f_law) 1036 = .ok (.iadd, 1) := by decide +kernel
theorem d_law_1037 : decode (ib f_law) 1037 = .ok (.iaload, 1) := by decide +kernel
theorem d_law_1038 : decode (ib f_law) 1038 = .ok (.invokevirtual 132, 3) := by decide +kernel
theorem d_law_1041 : decode (ib f_law) 1041 = .ok (.aload_n 2, 1) := by decide +kernel
theorem d_law_1042 : decode (ib f_law) 1042 = .ok (.aload_n 0, 1) := by decide +kernel
theorem d_law_1043 : decode (ib f_law) 1043 = .ok (.iload_n 3, 1) := by decide +kernel
theorem d_law_1044 : decode (ib f_law) 1044 = .ok (.iconst 1, 1) := by decide +kernel
theorem d_law_1045 : decode (ib f_law) 1045 = .ok (.iadd, 1) := by decide +kernel
theorem d_law_1046 : decode (ib f_law) 1046 = .ok (.iaload, 1) := by decide +kernel
theorem d_law_1047 : decode (ib f_law) 1047 = .ok (.invokevirtual 135, 3) := by decide +kernel
theorem d_law_1050 : decode (ib f_law) 1050 = .ok (.if_icmp .eq 169, 3) := by decide +kernel
theorem d_law_1053 : decode (ib f_law) 1053 = .ok (.iconst 0, 1) := by decide +kernel
theorem d_law_1054 : decode (ib f_law) 1054 = .ok (.ireturn, 1) := by decide +kernel
theorem d_law_1055 : decode (ib f_law) 1055 = .ok (.aload_n 1, 1) := by decide +kernel
theorem d_law_1056 : decode (ib f_law) 1056 = .ok (.aload_n 0, 1) := by decide +kernel
theorem d_law_1057 : decode (ib f_law) 1057 = .ok (.iload_n 3, 1) := by decide +kernel
theorem d_law_1058 : decode (ib f_law) 1058 = .ok (.iconst 1, 1) := by decide +kernel
theorem d_law_1059 : decode (ib f_law) 1059 = .ok (.iadd, 1) := by decide +kernel
theorem d_law_1060 : decode (ib f_law) 1060 = .ok (.iaload, 1) := by decide +kernel
theorem d_law_1061 : decode (ib f_law) 1061 = .ok (.invokevirtual 136, 3) := by decide +kernel
theorem d_law_1064 : decode (ib f_law) 1064 = .ok (.aload_n 2, 1) := by decide +kernel
theorem d_law_1065 : decode (ib f_law) 1065 = .ok (.aload_n 0, 1) := by decide +kernel
theorem d_law_1066 : decode (ib f_law) 1066 = .ok (.iload_n 3, 1) := by decide +kernel
theorem d_law_1067 : decode (ib f_law) 1067 = .ok (.iconst 1, 1) := by decide +kernel
theorem d_law_1068 : decode (ib f_law) 1068 = .ok (.iadd, 1) := by decide +kernel
theorem d_law_1069 : decode (ib f_law) 1069 = .ok (.iaload, 1) := by decide +kernel
theorem d_law_1070 : decode (ib f_law) 1070 = .ok (.invokevirtual 139, 3) := by decide +kernel
theorem d_law_1073 : decode (ib f_law) 1073 = .ok (.if_icmp .eq 146, 3) := by decide +kernel
theorem d_law_1076 : decode (ib f_law) 1076 = .ok (.iconst 0, 1) := by decide +kernel
theorem d_law_1077 : decode (ib f_law) 1077 = .ok (.ireturn, 1) := by decide +kernel
theorem d_law_1078 : decode (ib f_law) 1078 = .ok (.aload_n 1, 1) := by decide +kernel
theorem d_law_1079 : decode (ib f_law) 1079 = .ok (.aload_n 0, 1) := by decide +kernel
theorem d_law_1080 : decode (ib f_law) 1080 = .ok (.iload_n 3, 1) := by decide +kernel
theorem d_law_1081 : decode (ib f_law) 1081 = .ok (.iconst 1, 1) := by decide +kernel
theorem d_law_1082 : decode (ib f_law) 1082 = .ok (.iadd, 1) := by decide +kernel
theorem d_law_1083 : decode (ib f_law) 1083 = .ok (.iaload, 1) := by decide +kernel
theorem d_law_1084 : decode (ib f_law) 1084 = .ok (.aload_n 0, 1) := by decide +kernel
theorem d_law_1085 : decode (ib f_law) 1085 = .ok (.iload_n 3, 1) := by decide +kernel
theorem d_law_1086 : decode (ib f_law) 1086 = .ok (.iconst 2, 1) := by decide +kernel
theorem d_law_1087 : decode (ib f_law) 1087 = .ok (.iadd, 1) := by decide +kernel
theorem d_law_1088 : decode (ib f_law) 1088 = .ok (.iaload, 1) := by decide +kernel
theorem d_law_1089 : decode (ib f_law) 1089 = .ok (.aload_n 0, 1) := by decide +kernel
theorem d_law_1090 : decode (ib f_law) 1090 = .ok (.iload_n 3, 1) := by decide +kernel
theorem d_law_1091 : decode (ib f_law) 1091 = .ok (.iconst 3, 1) := by decide +kernel
theorem d_law_1092 : decode (ib f_law) 1092 = .ok (.iadd, 1) := by decide +kernel
theorem d_law_1093 : decode (ib f_law) 1093 = .ok (.iaload, 1) := by decide +kernel
theorem d_law_1094 : decode (ib f_law) 1094 = .ok (.invokevirtual 140, 3) := by decide +kernel
theorem d_law_1097 : decode (ib f_law) 1097 = .ok (.aload_n 2, 1) := by decide +kernel
theorem d_law_1098 : decode (ib f_law) 1098 = .ok (.aload_n 0, 1) := by decide +kernel
theorem d_law_1099 : decode (ib f_law) 1099 = .ok (.iload_n 3, 1) := by decide +kernel
theorem d_law_1100 : decode (ib f_law) 1100 = .ok (.iconst 1, 1) := by decide +kernel
theorem d_law_1101 : decode (ib f_law) 1101 = .ok (.iadd, 1) := by decide +kernel
theorem d_law_1102 : decode (ib f_law) 1102 = .ok (.iaload, 1) := by decide +kernel
theorem d_law_1103 : decode (ib f_law) 1103 = .ok (.aload_n 0, 1) := by decide +kernel
theorem d_law_1104 : decode (ib f_law) 1104 = .ok (.iload_n 3, 1) := by decide +kernel
theorem d_law_1105 : decode (ib f_law) 1105 = .ok (.iconst 2, 1) := by decide +kernel
theorem d_law_1106 : decode (ib f_law) 1106 = .ok (.iadd, 1) := by decide +kernel
theorem d_law_1107 : decode (ib f_law) 1107 = .ok (.iaload, 1) := by decide +kernel
theorem d_law_1108 : decode (ib f_law) 1108 = .ok (.aload_n 0, 1) := by decide +kernel
theorem d_law_1109 : decode (ib f_law) 1109 = .ok (.iload_n 3, 1) := by decide +kernel
theorem d_law_1110 : decode (ib f_law) 1110 = .ok (.iconst 3, 1) := by decide +kernel
theorem d_law_1111 : decode (ib f_law) 1111 = .ok (.iadd, 1) := by decide +kernel
theorem d_law_1112 : decode (ib f_law) 1112 = .ok (.iaload, 1) := by decide +kernel
theorem d_law_1113 : decode (ib f_law) 1113 = .ok (.invokevirtual 143, 3) := by decide +kernel
theorem d_law_1116 : decode (ib f_law) 1116 = .ok (.if_icmp .eq 103, 3) := by decide +kernel
theorem d_law_1119 : decode (ib f_law) 1119 = .ok (.iconst 0, 1) := by decide +kernel
theorem d_law_1120 : decode (ib f_law) 1120 = .ok (.ireturn, 1) := by decide +kernel
theorem d_law_1121 : decode (ib f_law) 1121 = .ok (.aload_n 1, 1) := by decide +kernel
theorem d_law_1122 : decode (ib f_law) 1122 = .ok (.aload_n 0, 1) := by decide +kernel
theorem d_law_1123 : decode (ib f_law) 1123 = .ok (.iload_n 3, 1) := by decide +kernel
theorem d_law_1124 : decode (ib f_law) 1124 = .ok (.iconst 1, 1) := by decide +kernel
theorem d_law_1125 : decode (ib f_law) 1125 = .ok (.iadd, 1) := by decide +kernel
theorem d_law_1126 : decode (ib f_law) 1126 = .ok (.iaload, 1) := by decide +kernel
theorem d_law_1127 : decode (ib f_law) 1127 = .ok (.invokevirtual 144, 3) := by decide +kernel
theorem d_law_1130 : decode (ib f_law) 1130 = .ok (.aload_n 2, 1) := by decide +kernel
theorem d_law_1131 : decode (ib f_law) 1131 = .ok (.aload_n 0, 1) := by decide +kernel
theorem d_law_1132 : decode (ib f_law) 1132 = .ok (.iload_n 3, 1) := by decide +kernel
theorem d_law_1133 : decode (ib f_law) 1133 = .ok (.iconst 1, 1) := by decide +kernel
theorem d_law_1134 : decode (ib f_law) 1134 = .ok (.iadd, 1) := by decide +kernel
theorem d_law_1135 : decode (ib f_law) 1135 = .ok (.iaload, 1) := by decide +kernel
theorem d_law_1136 : decode (ib f_law) 1136 = .ok (.invokevirtual 147, 3) := by decide +kernel
theorem d_law_1139 : decode (ib f_law) 1139 = .ok (.if_icmp .eq 80, 3) := by decide +kernel
theorem d_law_1142 : decode (ib f_law) 1142 = .ok (.iconst 0, 1) := by decide +kernel
theorem d_law_1143 : decode (ib f_law) 1143 = .ok (.ireturn, 1) := by decide +kernel
theorem d_law_1144 : decode (ib f_law) 1144 = .ok (.aload_n 1, 1) := by decide +kernel
theorem d_law_1145 : decode (ib f_law) 1145 = .ok (.invokevirtual 148, 3) := by decide +kernel
theorem d_law_1148 : decode (ib f_law) 1148 = .ok (.aload_n 2, 1) := by decide +kernel
theorem d_law_1149 : decode (ib f_law) 1149 = .ok (.invokevirtual 152, 3) := by decide +kernel
theorem d_law_1152 : decode (ib f_law) 1152 = .ok (.if_icmp .eq 67, 3) := by decide +kernel
theorem d_law_1155 : decode (ib f_law) 1155 = .ok (.iconst 0, 1) := by decide +kernel
theorem d_law_1156 : decode (ib f_law) 1156 = .ok (.ireturn, 1) := by decide +kernel
theorem d_law_1157 : decode (ib f_law) 1157 = .ok (.aload_n 1, 1) := by decide +kernel
theorem d_law_1158 : decode (ib f_law) 1158 = .ok (.aload_n 0, 1) := by decide +kernel
theorem d_law_1159 : decode (ib f_law) 1159 = .ok (.iload_n 3, 1) := by decide +kernel
theorem d_law_1160 : decode (ib f_law) 1160 = .ok (.iconst 1, 1) := by decide +kernel
theorem d_law_1161 : decode (ib f_law) 1161 = .ok (.iadd, 1) := by decide +kernel
theorem d_law_1162 : decode (ib f_law) 1162 = .ok (.iaload, 1) := by decide +kernel
theorem d_law_1163 : decode (ib f_law) 1163 = .ok (.ifCond .eq 7, 3) := by decide +kernel
theorem d_law_1166 : decode (ib f_law) 1166 = .ok (.iconst 1, 1) := by decide +kernel
theorem d_law_1167 : decode (ib f_law) 1167 = .ok (.goto 4, 3) := by decide +kernel
theorem d_law_1170 : decode (ib f_law) 1170 = .ok (.iconst 0, 1) := by decide +kernel
theorem d_law_1171 : decode (ib f_law) 1171 = .ok (.invokevirtual 153, 3) := by decide +kernel
theorem d_law_1174 : decode (ib f_law) 1174 = .ok (.aload_n 2, 1) := by decide +kernel
theorem d_law_1175 : decode (ib f_law) 1175 = .ok (.aload_n 0, 1) := by decide +kernel
theorem d_law_1176 : decode (ib f_law) 1176 = .ok (.iload_n 3, 1) := by decide +kernel
theorem d_law_1177 : decode (ib f_law) 1177 = .ok (.iconst 1, 1) := by decide +kernel
theorem d_law_1178 : decode (ib f_law) 1178 = .ok (.iadd, 1) := by decide +kernel
theorem d_law_1179 : decode (ib f_law) 1179 = .ok (.iaload, 1) := by decide +kernel
theorem d_law_1180 : decode (ib f_law) 1180 = .ok (.ifCond .eq 7, 3) := by decide +kernel
theorem d_law_1183 : decode (ib f_law) 1183 = .ok (.iconst 1, 1) := by decide +kernel
theorem d_law_1184 : decode (ib f_law) 1184 = .ok (.goto 4, 3) := by decide +kernel
theorem d_law_1187 : decode (ib f_law) 1187 = .ok (.iconst 0, 1) := by decide +kernel
theorem d_law_1188 : decode (ib f_law) 1188 = .ok (.invokevirtual 157, 3) := by decide +kernel
theorem d_law_1191 : decode (ib f_law) 1191 = .ok (.if_icmp .eq 28, 3) := by decide +kernel
theorem d_law_1194 : decode (ib f_law) 1194 = .ok (.iconst 0, 1) := by decide +kernel
theorem d_law_1195 : decode (ib f_law) 1195 = .ok (.ireturn, 1) := by decide +kernel
theorem d_law_1196 : decode (ib f_law) 1196 = .ok (.aload_n 1, 1) := by decide +kernel
theorem d_law_1197 : decode (ib f_law) 1197 = .ok (.aload_n 0, 1) := by decide +kernel
theorem d_law_1198 : decode (ib f_law) 1198 = .ok (.iload_n 3, 1) := by decide +kernel
theorem d_law_1199 : decode (ib f_law) 1199 = .ok (.iconst 1, 1) := by decide +kernel
theorem d_law_1200 : decode (ib f_law) 1200 = .ok (.iadd, 1) := by decide +kernel
theorem d_law_1201 : decode (ib f_law) 1201 = .ok (.iaload, 1) := by decide +kernel
theorem d_law_1202 : decode (ib f_law) 1202 = .ok (.invokevirtual 158, 3) := by decide +kernel
theorem d_law_1205 : decode (ib f_law) 1205 = .ok (.aload_n 2, 1) := by decide +kernel
theorem d_law_1206 : decode (ib f_law) 1206 = .ok (.aload_n 0, 1) := by decide +kernel
theorem d_law_1207 : decode (ib f_law) 1207 = .ok (.iload_n 3, 1) := by decide +kernel
theorem d_law_1208 : decode (ib f_law) 1208 = .ok (.iconst 1, 1) := by decide +kernel
theorem d_law_1209 : decode (ib f_law) 1209 = .ok (.iadd, 1) := by decide +kernel
theorem d_law_1210 : decode (ib f_law) 1210 = .ok (.iaload, 1) := by decide +kernel
theorem d_law_1211 : decode (ib f_law) 1211 = .ok (.invokevirtual 161, 3) := by decide +kernel
theorem d_law_1214 : decode (ib f_law) 1214 = .ok (.if_icmp .eq 5, 3) := by decide +kernel
theorem d_law_1217 : decode (ib f_law) 1217 = .ok (.iconst 0, 1) := by decide +kernel
theorem d_law_1218 : decode (ib f_law) 1218 = .ok (.ireturn, 1) := by decide +kernel
theorem d_law_1219 : decode (ib f_law) 1219 = .ok (.iinc 3 6, 3) := by decide +kernel
theorem d_law_1222 : decode (ib f_law) 1222 = .ok (.goto (-1204), 3) := by decide +kernel
theorem d_law_1225 : decode (ib f_law) 1225 = .ok (.iconst 1, 1) := by decide +kernel
theorem d_law_1226 : decode (ib f_law) 1226 = .ok (.ireturn, 1) := by decide +kernel
