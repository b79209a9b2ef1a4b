theorem dX11_tuned_146 : decode cX11_tuned 146 = .ok (.aload_n 0, 1) := by decide +kernel
theorem dX11_tuned_147 : decode cX11_tuned 147 = .ok (.getfield 89, 3) := by decide +kernel
theorem dX11_tuned_150 : decode cX11_tuned 150 = .ok (.iload 5, 2) := by decide +kernel
theorem dX11_tuned_152 : decode cX11_tuned 152 = .ok (.iaload, 1) := by decide +kernel
theorem dX11_tuned_153 : decode cX11_tuned 153 = .ok (.aload_n 0, 1) := by decide +kernel
theorem dX11_tuned_154 : decode cX11_tuned 154 = .ok (.iload 5, 2) := by decide +kernel
theorem dX11_tuned_156 : decode cX11_tuned 156 = .ok (.iload 7, 2) := by decide +kernel
theorem dX11_tuned_158 : decode cX11_tuned 158 = .ok (.iload_n 1, 1) := by decide +kernel
theorem dX11_tuned_159 : decode cX11_tuned 159 = .ok (.iload_n 2, 1) := by decide +kernel
theorem dX11_tuned_160 : decode cX11_tuned 160 = .ok (.iload 6, 2) := by decide +kernel
theorem dX11_tuned_162 : decode cX11_tuned 162 = .ok (.imul, 1) := by decide +kernel
theorem dX11_tuned_163 : decode cX11_tuned 163 = .ok (.iadd, 1) := by decide +kernel
theorem dX11_tuned_164 : decode cX11_tuned 164 = .ok (.invokevirtual 343, 3) := by decide +kernel
theorem dX11_tuned_167 : decode cX11_tuned 167 = .ok (.invokestatic 297, 3) := by decide +kernel
theorem dX11_tuned_170 : decode cX11_tuned 170 = .ok (.iastore, 1) := by decide +kernel
theorem dX11_tuned_171 : decode cX11_tuned 171 = .ok (.iinc 7 1, 3) := by decide +kernel
theorem dX11_tuned_174 : decode cX11_tuned 174 = .ok (.goto (-69), 3) := by decide +kernel
theorem dX11_tuned_177 : decode cX11_tuned 177 = .ok (.iinc 5 (-1), 3) := by decide +kernel
theorem dX11_tuned_180 : decode cX11_tuned 180 = .ok (.goto (-110), 3) := by decide +kernel
theorem dX11_tuned_183 : decode cX11_tuned 183 = .ok (.aload_n 0, 1) := by decide +kernel
theorem dX11_tuned_184 : decode cX11_tuned 184 = .ok (.getfield 89, 3) := by decide +kernel
theorem dX11_tuned_187 : decode cX11_tuned 187 = .ok (.iconst 0, 1) := by decide +kernel
theorem dX11_tuned_188 : decode cX11_tuned 188 = .ok (.iaload, 1) := by decide +kernel
theorem dX11_tuned_189 : decode cX11_tuned 189 = .ok (.ldc_w 296, 3) := by decide +kernel
theorem dX11_tuned_192 : decode cX11_tuned 192 = .ok (.if_icmp .ge 9, 3) := by decide +kernel
theorem dX11_tuned_195 : decode cX11_tuned 195 = .ok (.iload 4, 2) := by decide +kernel
theorem dX11_tuned_197 : decode cX11_tuned 197 = .ok (.iconst (-1), 1) := by decide +kernel
theorem dX11_tuned_198 : decode cX11_tuned 198 = .ok (.if_icmp .ne 26, 3) := by decide +kernel
theorem dX11_tuned_201 : decode cX11_tuned 201 = .ok (.aload_n 0, 1) := by decide +kernel
theorem dX11_tuned_202 : decode cX11_tuned 202 = .ok (.getfield 89, 3) := by decide +kernel
theorem dX11_tuned_205 : decode cX11_tuned 205 = .ok (.iconst 0, 1) := by decide +kernel
theorem dX11_tuned_206 : decode cX11_tuned 206 = .ok (.iaload, 1) := by decide +kernel
theorem dX11_tuned_207 : decode cX11_tuned 207 = .ok (.ldc_w 296, 3) := by decide +kernel
theorem dX11_tuned_210 : decode cX11_tuned 210 = .ok (.if_icmp .lt 7, 3) := by decide +kernel
theorem dX11_tuned_213 : decode cX11_tuned 213 = .ok (.iconst (-1), 1) := by decide +kernel
theorem dX11_tuned_214 : decode cX11_tuned 214 = .ok (.goto 9, 3) := by decide +kernel
theorem dX11_tuned_217 : decode cX11_tuned 217 = .ok (.aload_n 0, 1) := by decide +kernel
theorem dX11_tuned_218 : decode cX11_tuned 218 = .ok (.getfield 89, 3) := by decide +kernel
theorem dX11_tuned_221 : decode cX11_tuned 221 = .ok (.iconst 0, 1) := by decide +kernel
theorem dX11_tuned_222 : decode cX11_tuned 222 = .ok (.iaload, 1) := by decide +kernel
theorem dX11_tuned_223 : decode cX11_tuned 223 = .ok (.ireturn, 1) := by decide +kernel
theorem dX11_tuned_224 : decode cX11_tuned 224 = .ok (.iload 4, 2) := by decide +kernel
theorem dX11_tuned_226 : decode cX11_tuned 226 = .ok (.i2l, 1) := by decide +kernel
theorem dX11_tuned_227 : decode cX11_tuned 227 = .ok (.lconst 0, 1) := by decide +kernel
theorem dX11_tuned_228 : decode cX11_tuned 228 = .ok (.iload_n 3, 1) := by decide +kernel
theorem dX11_tuned_229 : decode cX11_tuned 229 = .ok (.iconst 1, 1) := by decide +kernel
theorem dX11_tuned_230 : decode cX11_tuned 230 = .ok (.isub, 1) := by decide +kernel
theorem dX11_tuned_231 : decode cX11_tuned 231 = .ok (.i2l, 1) := by decide +kernel
theorem dX11_tuned_232 : decode cX11_tuned 232 = .ok (.invokestatic 107, 3) := by decide +kernel
theorem dX11_tuned_235 : decode cX11_tuned 235 = .ok (.ifCond .ne 5, 3) := by decide +kernel
theorem dX11_tuned_238 : decode cX11_tuned 238 = .ok (.iconst (-1), 1) := by decide +kernel
theorem dX11_tuned_239 : decode cX11_tuned 239 = .ok (.ireturn, 1) := by decide +kernel
theorem dX11_tuned_240 : decode cX11_tuned 240 = .ok (.iconst 0, 1) := by decide +kernel
theorem dX11_tuned_241 : decode cX11_tuned 241 = .ok (.istore 5, 2) := by decide +kernel
theorem dX11_tuned_243 : decode cX11_tuned 243 = .ok (.iconst (-1), 1) := by decide +kernel
theorem dX11_tuned_244 : decode cX11_tuned 244 = .ok (.istore 6, 2) := by decide +kernel
theorem dX11_tuned_246 : decode cX11_tuned 246 = .ok (.iconst 0, 1) := by decide +kernel
theorem dX11_tuned_247 : decode cX11_tuned 247 = .ok (.istore 7, 2) := by decide +kernel
theorem dX11_tuned_249 : decode cX11_tuned 249 = .ok (.iload 7, 2) := by decide +kernel
theorem dX11_tuned_251 : decode cX11_tuned 251 = .ok (.iload 4, 2) := by decide +kernel
theorem dX11_tuned_253 : decode cX11_tuned 253 = .ok (.if_icmp .gt 61, 3) := by decide +kernel
theorem dX11_tuned_256 : decode cX11_tuned 256 = .ok (.iconst 0, 1) := by decide +kernel
theorem dX11_tuned_257 : decode cX11_tuned 257 = .ok (.istore 6, 2) := by decide +kernel
theorem dX11_tuned_259 : decode cX11_tuned 259 = .ok (.iload 5, 2) := by decide +kernel
theorem dX11_tuned_261 : decode cX11_tuned 261 = .ok (.iload 6, 2) := by decide +kernel
theorem dX11_tuned_263 : decode cX11_tuned 263 = .ok (.invokestatic 190, 3) := by decide +kernel
theorem dX11_tuned_266 : decode cX11_tuned 266 = .ok (.ifCond .ne 27, 3) := by decide +kernel
theorem dX11_tuned_269 : decode cX11_tuned 269 = .ok (.aload_n 0, 1) := by decide +kernel
theorem dX11_tuned_270 : decode cX11_tuned 270 = .ok (.iload 5, 2) := by decide +kernel
theorem dX11_tuned_272 : decode cX11_tuned 272 = .ok (.iload 6, 2) := by decide +kernel
theorem dX11_tuned_274 : decode cX11_tuned 274 = .ok (.iload_n 1, 1) := by decide +kernel
theorem dX11_tuned_275 : decode cX11_tuned 275 = .ok (.iload_n 2, 1) := by decide +kernel
theorem dX11_tuned_276 : decode cX11_tuned 276 = .ok (.iload 7, 2) := by decide +kernel
theorem dX11_tuned_278 : decode cX11_tuned 278 = .ok (.imul, 1) := by decide +kernel
theorem dX11_tuned_279 : decode cX11_tuned 279 = .ok (.iadd, 1) := by decide +kernel
theorem dX11_tuned_280 : decode cX11_tuned 280 = .ok (.invokevirtual 343, 3) := by decide +kernel
theorem dX11_tuned_283 : decode cX11_tuned 283 = .ok (.aload_n 0, 1) := by decide +kernel
theorem dX11_tuned_284 : decode cX11_tuned 284 = .ok (.getfield 89, 3) := by decide +kernel
theorem dX11_tuned_287 : decode cX11_tuned 287 = .ok (.iload 5, 2) := by decide +kernel
theorem dX11_tuned_289 : decode cX11_tuned 289 = .ok (.iaload, 1) := by decide +kernel
theorem dX11_tuned_290 : decode cX11_tuned 290 = .ok (.if_icmp .eq 9, 3) := by decide +kernel
theorem dX11_tuned_293 : decode cX11_tuned 293 = .ok (.iinc 6 1, 3) := by decide +kernel
theorem dX11_tuned_296 : decode cX11_tuned 296 = .ok (.goto (-37), 3) := by decide +kernel
theorem dX11_tuned_299 : decode cX11_tuned 299 = .ok (.iload 5, 2) := by decide +kernel
theorem dX11_tuned_301 : decode cX11_tuned 301 = .ok (.iconst 1, 1) := by decide +kernel
theorem dX11_tuned_302 : decode cX11_tuned 302 = .ok (.iload 6, 2) := by decide +kernel
theorem dX11_tuned_304 : decode cX11_tuned 304 = .ok (.ishl, 1) := by decide +kernel
theorem dX11_tuned_305 : decode cX11_tuned 305 = .ok (.ior, 1) := by decide +kernel
theorem dX11_tuned_306 : decode cX11_tuned 306 = .ok (.istore 5, 2) := by decide +kernel
theorem dX11_tuned_308 : decode cX11_tuned 308 = .ok (.iinc 7 1, 3) := by decide +kernel
theorem dX11_tuned_311 : decode cX11_tuned 311 = .ok (.goto (-62), 3) := by decide +kernel
theorem dX11_tuned_314 : decode cX11_tuned 314 = .ok (.iload 6, 2) := by decide +kernel
theorem dX11_tuned_316 : decode cX11_tuned 316 = .ok (.ireturn, 1) := by decide +kernel
theorem dX11_darkOn_0 : decode cX11_darkOn 0 = .ok (.aload_n 0, 1) := by decide +kernel
theorem dX11_darkOn_1 : decode cX11_darkOn 1 = .ok (.iconst 0, 1) := by decide +kernel
theorem dX11_darkOn_2 : decode cX11_darkOn 2 = .ok (.putfield 300, 3) := by decide +kernel
theorem dX11_darkOn_5 : decode cX11_darkOn 5 = .ok (.aload_n 0, 1) := by decide +kernel
theorem dX11_darkOn_6 : decode cX11_darkOn 6 = .ok (.iconst 0, 1) := by decide +kernel
theorem dX11_darkOn_7 : decode cX11_darkOn 7 = .ok (.putfield 303, 3) := by decide +kernel
theorem dX11_darkOn_10 : decode cX11_darkOn 10 = .ok (.iconst 0, 1) := by decide +kernel
theorem dX11_darkOn_11 : decode cX11_darkOn 11 = .ok (.istore_n 3, 1) := by decide +kernel
theorem dX11_darkOn_12 : decode cX11_darkOn 12 = .ok (.iconst 0, 1) := by decide +kernel
theorem dX11_darkOn_13 : decode cX11_darkOn 13 = .ok (.istore 4, 2) := by decide +kernel
theorem dX11_darkOn_15 : decode cX11_darkOn 15 = .ok (.iload 4, 2) := by decide +kernel
theorem dX11_darkOn_17 : decode cX11_darkOn 17 = .ok (.iload_n 2, 1) := by decide +kernel
theorem dX11_darkOn_18 : decode cX11_darkOn 18 = .ok (.if_icmp .ge 53, 3) := by decide +kernel
theorem dX11_darkOn_21 : decode cX11_darkOn 21 = .ok (.aload_n 0, 1) := by decide +kernel
theorem dX11_darkOn_22 : decode cX11_darkOn 22 = .ok (.getfield 303, 3) := by decide +kernel
theorem dX11_darkOn_25 : decode cX11_darkOn 25 = .ok (.istore 5, 2) := by decide +kernel
theorem dX11_darkOn_27 : decode cX11_darkOn 27 = .ok (.aload_n 0, 1) := by decide +kernel
theorem dX11_darkOn_28 : decode cX11_darkOn 28 = .ok (.invokevirtual 312, 3) := by decide +kernel
theorem dX11_darkOn_31 : decode cX11_darkOn 31 = .ok (.istore 6, 2) := by decide +kernel
theorem dX11_darkOn_33 : decode cX11_darkOn 33 = .ok (.iload_n 3, 1) := by decide +kernel
theorem dX11_darkOn_34 : decode cX11_darkOn 34 = .ok (.iload 6, 2) := by decide +kernel
theorem dX11_darkOn_36 : decode cX11_darkOn 36 = .ok (.bipush 64, 2) := by decide +kernel
theorem dX11_darkOn_38 : decode cX11_darkOn 38 = .ok (.if_icmp .ge 24, 3) := by decide +kernel
theorem dX11_darkOn_41 : decode cX11_darkOn 41 = .ok (.aload_n 0, 1) := by decide +kernel
theorem dX11_darkOn_42 : decode cX11_darkOn 42 = .ok (.iload 5, 2) := by decide +kernel
theorem dX11_darkOn_44 : decode cX11_darkOn 44 = .ok (.iload 6, 2) := by decide +kernel
theorem dX11_darkOn_46 : decode cX11_darkOn 46 = .ok (.aload_n 0, 1) := by decide +kernel
theorem dX11_darkOn_47 : decode cX11_darkOn 47 = .ok (.getfield 29, 3) := by decide +kernel
theorem dX11_darkOn_50 : decode cX11_darkOn 50 = .ok (.aload_n 0, 1) := by decide +kernel
theorem dX11_darkOn_51 : decode cX11_darkOn 51 = .ok (.getfield 38, 3) := by decide +kernel
theorem dX11_darkOn_54 : decode cX11_darkOn 54 = .ok (.iload_n 1, 1) := by decide +kernel
theorem dX11_darkOn_55 : decode cX11_darkOn 55 = .ok (.iaload, 1) := by decide +kernel
theorem dX11_darkOn_56 : decode cX11_darkOn 56 = .ok (.invokevirtual 255, 3) := by decide +kernel
theorem dX11_darkOn_59 : decode cX11_darkOn 59 = .ok (.goto 4, 3) := by decide +kernel
theorem dX11_darkOn_62 : decode cX11_darkOn 62 = .ok (.iconst 0, 1) := by decide +kernel
theorem dX11_darkOn_63 : decode cX11_darkOn 63 = .ok (.ior, 1) := by decide +kernel
theorem dX11_darkOn_64 : decode cX11_darkOn 64 = .ok (.istore_n 3, 1) := by decide +kernel
theorem dX11_darkOn_65 : decode cX11_darkOn 65 = .ok (.iinc 4 1, 3) := by decide +kernel
theorem dX11_darkOn_68 : decode cX11_darkOn 68 = .ok (.goto (-53), 3) := by decide +kernel
theorem dX11_darkOn_71 : decode cX11_darkOn 71 = .ok (.aload_n 0, 1) := by decide +kernel
theorem dX11_darkOn_72 : decode cX11_darkOn 72 = .ok (.invokevirtual 111, 3) := by decide +kernel
theorem dX11_darkOn_75 : decode cX11_darkOn 75 = .ok (.iload_n 3, 1) := by decide +kernel
theorem dX11_darkOn_76 : decode cX11_darkOn 76 = .ok (.iconst (-1), 1) := by decide +kernel
theorem dX11_darkOn_77 : decode cX11_darkOn 77 = .ok (.ixor, 1) := by decide +kernel
theorem dX11_darkOn_78 : decode cX11_darkOn 78 = .ok (.iand, 1) := by decide +kernel
theorem dX11_darkOn_79 : decode cX11_darkOn 79 = .ok (.ireturn, 1) := by decide +kernel
theorem dX11_flat_0 : decode cX11_flat 0 = .ok (.iload_n 1, 1) := by decide +kernel
theorem dX11_flat_1 : decode cX11_flat 1 = .ok (.i2l, 1) := by decide +kernel
theorem dX11_flat_2 : decode cX11_flat 2 = .ok (.lconst 0, 1) := by decide +kernel
theorem dX11_flat_3 : decode cX11_flat 3 = .ok (.iconst 1, 1) := by decide +kernel
theorem dX11_flat_4 : decode cX11_flat 4 = .ok (.aload_n 0, 1) := by decide +kernel
theorem dX11_flat_5 : decode cX11_flat 5 = .ok (.getfield 239, 3) := by decide +kernel
theorem dX11_flat_8 : decode cX11_flat 8 = .ok (.iadd, 1) := by decide +kernel
theorem dX11_flat_9 : decode cX11_flat 9 = .ok (.i2l, 1) := by decide +kernel
theorem dX11_flat_10 : decode cX11_flat 10 = .ok (.invokestatic 107, 3) := by decide +kernel
theorem dX11_flat_13 : decode cX11_flat 13 = .ok (.ifCond .ne 7, 3) := by decide +kernel
theorem dX11_flat_16 : decode cX11_flat 16 = .ok (.sipush (-1002), 3) := by decide +kernel
theorem dX11_flat_19 : decode cX11_flat 19 = .ok (.ireturn, 1) := by decide +kernel
theorem dX11_flat_20 : decode cX11_flat 20 = .ok (.aload_n 0, 1) := by decide +kernel
theorem dX11_flat_21 : decode cX11_flat 21 = .ok (.invokevirtual 309, 3) := by decide +kernel
theorem dX11_flat_24 : decode cX11_flat 24 = .ok (.istore_n 2, 1) := by decide +kernel
theorem dX11_flat_25 : decode cX11_flat 25 = .ok (.iload_n 2, 1) := by decide +kernel
theorem dX11_flat_26 : decode cX11_flat 26 = .ok (.ifCond .ge 7, 3) := by decide +kernel
theorem dX11_flat_29 : decode cX11_flat 29 = .ok (.sipush (-1003), 3) := by decide +kernel
theorem dX11_flat_32 : decode cX11_flat 32 = .ok (.ireturn, 1) := by decide +kernel
theorem dX11_flat_33 : decode cX11_flat 33 = .ok (.iload_n 1, 1) := by decide +kernel
theorem dX11_flat_34 : decode cX11_flat 34 = .ok (.iconst 1, 1) := by decide +kernel
theorem dX11_flat_35 : decode cX11_flat 35 = .ok (.if_icmp .le 12, 3) := by decide +kernel
theorem dX11_flat_38 : decode cX11_flat 38 = .ok (.aload_n 0, 1) := by decide +kernel
theorem dX11_flat_39 : decode cX11_flat 39 = .ok (.iload_n 1, 1) := by decide +kernel
theorem dX11_flat_40 : decode cX11_flat 40 = .ok (.iconst 2, 1) := by decide +kernel
theorem dX11_flat_41 : decode cX11_flat 41 = .ok (.isub, 1) := by decide +kernel
theorem dX11_flat_42 : decode cX11_flat 42 = .ok (.iload_n 2, 1) := by decide +kernel
theorem dX11_flat_43 : decode cX11_flat 43 = .ok (.invokevirtual 347, 3) := by decide +kernel
theorem dX11_flat_46 : decode cX11_flat 46 = .ok (.ireturn, 1) := by decide +kernel
theorem dX11_flat_47 : decode cX11_flat 47 = .ok (.iconst (-1), 1) := by decide +kernel
theorem dX11_flat_48 : decode cX11_flat 48 = .ok (.istore_n 3, 1) := by decide +kernel
theorem dX11_flat_49 : decode cX11_flat 49 = .ok (.iconst 0, 1) := by decide +kernel
theorem dX11_flat_50 : decode cX11_flat 50 = .ok (.istore 4, 2) := by decide +kernel
theorem dX11_flat_52 : decode cX11_flat 52 = .ok (.iconst 0, 1) := by decide +kernel
theorem dX11_flat_53 : decode cX11_flat 53 = .ok (.istore 5, 2) := by decide +kernel
theorem dX11_flat_55 : decode cX11_flat 55 = .ok (.iload 5, 2) := by decide +kernel
theorem dX11_flat_57 : decode cX11_flat 57 = .ok (.aload_n 0, 1) := by decide +kernel
theorem dX11_flat_58 : decode cX11_flat 58 = .ok (.getfield 239, 3) := by decide +kernel
theorem dX11_flat_61 : decode cX11_flat 61 = .ok (.if_icmp .ge 33, 3) := by decide +kernel
theorem dX11_flat_64 : decode cX11_flat 64 = .ok (.aload_n 0, 1) := by decide +kernel
theorem dX11_flat_65 : decode cX11_flat 65 = .ok (.iload 5, 2) := by decide +kernel
theorem dX11_flat_67 : decode cX11_flat 67 = .ok (.iload_n 2, 1) := by decide +kernel
theorem dX11_flat_68 : decode cX11_flat 68 = .ok (.invokevirtual 347, 3) := by decide +kernel
theorem dX11_flat_71 : decode cX11_flat 71 = .ok (.ifCond .eq 17, 3) := by decide +kernel
theorem dX11_flat_74 : decode cX11_flat 74 = .ok (.iload_n 3, 1) := by decide +kernel
theorem dX11_flat_75 : decode cX11_flat 75 = .ok (.ifCond .ge 8, 3) := by decide +kernel
theorem dX11_flat_78 : decode cX11_flat 78 = .ok (.iload 5, 2) := by decide +kernel
theorem dX11_flat_80 : decode cX11_flat 80 = .ok (.goto 4, 3) := by decide +kernel
theorem dX11_flat_83 : decode cX11_flat 83 = .ok (.iload_n 3, 1) := by decide +kernel
theorem dX11_flat_84 : decode cX11_flat 84 = .ok (.istore_n 3, 1) := by decide +kernel
theorem dX11_flat_85 : decode cX11_flat 85 = .ok (.iinc 4 1, 3) := by decide +kernel
theorem dX11_flat_88 : decode cX11_flat 88 = .ok (.iinc 5 1, 3) := by decide +kernel
theorem dX11_flat_91 : decode cX11_flat 91 = .ok (.goto (-36), 3) := by decide +kernel
theorem dX11_flat_94 : decode cX11_flat 94 = .ok (.iload_n 1, 1) := by decide +kernel
theorem dX11_flat_95 : decode cX11_flat 95 = .ok (.ifCond .ne 7, 3) := by decide +kernel
theorem dX11_flat_98 : decode cX11_flat 98 = .ok (.iload_n 3, 1) := by decide +kernel
theorem dX11_flat_99 : decode cX11_flat 99 = .ok (.goto 5, 3) := by decide +kernel
theorem dX11_flat_102 : decode cX11_flat 102 = .ok (.iload 4, 2) := by decide +kernel
theorem dX11_flat_104 : decode cX11_flat 104 = .ok (.ireturn, 1) := by decide +kernel
theorem dX11_log_0 : decode cX11_log 0 = .ok (.aload_n 0, 1) := by decide +kernel
theorem dX11_log_1 : decode cX11_log 1 = .ok (.iload_n 1, 1) := by decide +kernel
theorem dX11_log_2 : decode cX11_log 2 = .ok (.invokevirtual 315, 3) := by decide +kernel
theorem dX11_log_5 : decode cX11_log 5 = .ok (.ifCond .ne 7, 3) := by decide +kernel
theorem dX11_log_8 : decode cX11_log 8 = .ok (.sipush (-1001), 3) := by decide +kernel
theorem dX11_log_11 : decode cX11_log 11 = .ok (.ireturn, 1) := by decide +kernel
theorem dX11_log_12 : decode cX11_log 12 = .ok (.aload_n 0, 1) := by decide +kernel
theorem dX11_log_13 : decode cX11_log 13 = .ok (.getfield 215, 3) := by decide +kernel
theorem dX11_log_16 : decode cX11_log 16 = .ok (.bipush 40, 2) := by decide +kernel
theorem dX11_log_18 : decode cX11_log 18 = .ok (.if_icmp .ne 7, 3) := by decide +kernel
theorem dX11_log_21 : decode cX11_log 21 = .ok (.sipush (-1004), 3) := by decide +kernel
theorem dX11_log_24 : decode cX11_log 24 = .ok (.ireturn, 1) := by decide +kernel
theorem dX11_log_25 : decode cX11_log 25 = .ok (.aload_n 0, 1) := by decide +kernel
theorem dX11_log_26 : decode cX11_log 26 = .ok (.getfield 92, 3) := by decide +kernel
theorem dX11_log_29 : decode cX11_log 29 = .ok (.aload_n 0, 1) := by decide +kernel
theorem dX11_log_30 : decode cX11_log 30 = .ok (.getfield 215, 3) := by decide +kernel
theorem dX11_log_33 : decode cX11_log 33 = .ok (.iload_n 1, 1) := by decide +kernel
theorem dX11_log_34 : decode cX11_log 34 = .ok (.iastore, 1) := by decide +kernel
theorem dX11_log_35 : decode cX11_log 35 = .ok (.aload_n 0, 1) := by decide +kernel
theorem dX11_log_36 : decode cX11_log 36 = .ok (.dup, 1) := by decide +kernel
theorem dX11_log_37 : decode cX11_log 37 = .ok (.getfield 215, 3) := by decide +kernel
theorem dX11_log_40 : decode cX11_log 40 = .ok (.iconst 1, 1) := by decide +kernel
theorem dX11_log_41 : decode cX11_log 41 = .ok (.iadd, 1) := by decide +kernel
theorem dX11_log_42 : decode cX11_log 42 = .ok (.putfield 215, 3) := by decide +kernel
theorem dX11_log_45 : decode cX11_log 45 = .ok (.aload_n 0, 1) := by decide +kernel
theorem dX11_log_46 : decode cX11_log 46 = .ok (.getfield 215, 3) := by decide +kernel
theorem dX11_log_49 : decode cX11_log 49 = .ok (.ireturn, 1) := by decide +kernel
theorem dX11_clear_0 : decode cX11_clear 0 = .ok (.aload_n 0, 1) := by decide +kernel
theorem dX11_clear_1 : decode cX11_clear 1 = .ok (.getfield 215, 3) := by decide +kernel
theorem dX11_clear_4 : decode cX11_clear 4 = .ok (.istore_n 1, 1) := by decide +kernel
theorem dX11_clear_5 : decode cX11_clear 5 = .ok (.aload_n 0, 1) := by decide +kernel
theorem dX11_clear_6 : decode cX11_clear 6 = .ok (.iconst 0, 1) := by decide +kernel
theorem dX11_clear_7 : decode cX11_clear 7 = .ok (.putfield 215, 3) := by decide +kernel
theorem dX11_clear_10 : decode cX11_clear 10 = .ok (.iload_n 1, 1) := by decide +kernel
theorem dX11_clear_11 : decode cX11_clear 11 = .ok (.ireturn, 1) := by decide +kernel
theorem dX11_judge_0 : decode cX11_judge 0 = .ok (.iconst 0, 1) := by decide +kernel
theorem dX11_judge_1 : decode cX11_judge 1 = .ok (.istore_n 1, 1) := by decide +kernel
theorem dX11_judge_2 : decode cX11_judge 2 = .ok (.iload_n 1, 1) := by decide +kernel
theorem dX11_judge_3 : decode cX11_judge 3 = .ok (.bipush 10, 2) := by decide +kernel
theorem dX11_judge_5 : decode cX11_judge 5 = .ok (.if_icmp .ge 51, 3) := by decide +kernel
theorem dX11_judge_8 : decode cX11_judge 8 = .ok (.aload_n 0, 1) := by decide +kernel
theorem dX11_judge_9 : decode cX11_judge 9 = .ok (.getfield 95, 3) := by decide +kernel
theorem dX11_judge_12 : decode cX11_judge 12 = .ok (.iload_n 1, 1) := by decide +kernel
theorem dX11_judge_13 : decode cX11_judge 13 = .ok (.aload_n 0, 1) := by decide +kernel
theorem dX11_judge_14 : decode cX11_judge 14 = .ok (.getfield 13, 3) := by decide +kernel
theorem dX11_judge_17 : decode cX11_judge 17 = .ok (.iload_n 1, 1) := by decide +kernel
theorem dX11_judge_18 : decode cX11_judge 18 = .ok (.iaload, 1) := by decide +kernel
theorem dX11_judge_19 : decode cX11_judge 19 = .ok (.iastore, 1) := by decide +kernel
theorem dX11_judge_20 : decode cX11_judge 20 = .ok (.aload_n 0, 1) := by decide +kernel
theorem dX11_judge_21 : decode cX11_judge 21 = .ok (.getfield 95, 3) := by decide +kernel
theorem dX11_judge_24 : decode cX11_judge 24 = .ok (.bipush 10, 2) := by decide +kernel
theorem dX11_judge_26 : decode cX11_judge 26 = .ok (.iload_n 1, 1) := by decide +kernel
theorem dX11_judge_27 : decode cX11_judge 27 = .ok (.iadd, 1) := by decide +kernel
theorem dX11_judge_28 : decode cX11_judge 28 = .ok (.aload_n 0, 1) := by decide +kernel
theorem dX11_judge_29 : decode cX11_judge 29 = .ok (.getfield 16, 3) := by decide +kernel
theorem dX11_judge_32 : decode cX11_judge 32 = .ok (.iload_n 1, 1) := by decide +kernel
theorem dX11_judge_33 : decode cX11_judge 33 = .ok (.iaload, 1) := by decide +kernel
theorem dX11_judge_34 : decode cX11_judge 34 = .ok (.iastore, 1) := by decide +kernel
theorem dX11_judge_35 : decode cX11_judge 35 = .ok (.aload_n 0, 1) := by decide +kernel
theorem dX11_judge_36 : decode cX11_judge 36 = .ok (.getfield 95, 3) := by decide +kernel
theorem dX11_judge_39 : decode cX11_judge 39 = .ok (.bipush 20, 2) := by decide +kernel
theorem dX11_judge_41 : decode cX11_judge 41 = .ok (.iload_n 1, 1) := by decide +kernel
theorem dX11_judge_42 : decode cX11_judge 42 = .ok (.iadd, 1) := by decide +kernel
theorem dX11_judge_43 : decode cX11_judge 43 = .ok (.aload_n 0, 1) := by decide +kernel
theorem dX11_judge_44 : decode cX11_judge 44 = .ok (.getfield 19, 3) := by decide +kernel
theorem dX11_judge_47 : decode cX11_judge 47 = .ok (.iload_n 1, 1) := by decide +kernel
theorem dX11_judge_48 : decode cX11_judge 48 = .ok (.iaload, 1) := by decide +kernel
theorem dX11_judge_49 : decode cX11_judge 49 = .ok (.iastore, 1) := by decide +kernel
theorem dX11_judge_50 : decode cX11_judge 50 = .ok (.iinc 1 1, 3) := by decide +kernel
theorem dX11_judge_53 : decode cX11_judge 53 = .ok (.goto (-51), 3) := by decide +kernel
theorem dX11_judge_56 : decode cX11_judge 56 = .ok (.aload_n 0, 1) := by decide +kernel
theorem dX11_judge_57 : decode cX11_judge 57 = .ok (.getfield 95, 3) := by decide +kernel
theorem dX11_judge_60 : decode cX11_judge 60 = .ok (.bipush 30, 2) := by decide +kernel
theorem dX11_judge_62 : decode cX11_judge 62 = .ok (.aload_n 0, 1) := by decide +kernel
theorem dX11_judge_63 : decode cX11_judge 63 = .ok (.getfield 227, 3) := by decide +kernel
theorem dX11_judge_66 : decode cX11_judge 66 = .ok (.iastore, 1) := by decide +kernel
theorem dX11_judge_67 : decode cX11_judge 67 = .ok (.aload_n 0, 1) := by decide +kernel
theorem dX11_judge_68 : decode cX11_judge 68 = .ok (.getfield 95, 3) := by decide +kernel
theorem dX11_judge_71 : decode cX11_judge 71 = .ok (.bipush 31, 2) := by decide +kernel
theorem dX11_judge_73 : decode cX11_judge 73 = .ok (.aload_n 0, 1) := by decide +kernel
theorem dX11_judge_74 : decode cX11_judge 74 = .ok (.getfield 274, 3) := by decide +kernel
theorem dX11_judge_77 : decode cX11_judge 77 = .ok (.iastore, 1) := by decide +kernel
theorem dX11_judge_78 : decode cX11_judge 78 = .ok (.iconst (-1), 1) := by decide +kernel
theorem dX11_judge_79 : decode cX11_judge 79 = .ok (.istore_n 1, 1) := by decide +kernel
theorem dX11_judge_80 : decode cX11_judge 80 = .ok (.iconst 0, 1) := by decide +kernel
theorem dX11_judge_81 : decode cX11_judge 81 = .ok (.istore_n 2, 1) := by decide +kernel
theorem dX11_judge_82 : decode cX11_judge 82 = .ok (.iload_n 2, 1) := by decide +kernel
theorem dX11_judge_83 : decode cX11_judge 83 = .ok (.aload_n 0, 1) := by decide +kernel
theorem dX11_judge_84 : decode cX11_judge 84 = .ok (.getfield 215, 3) := by decide +kernel
theorem dX11_judge_87 : decode cX11_judge 87 = .ok (.if_icmp .ge 37, 3) := by decide +kernel
theorem dX11_judge_90 : decode cX11_judge 90 = .ok (.iload_n 1, 1) := by decide +kernel
theorem dX11_judge_91 : decode cX11_judge 91 = .ok (.ifCond .ge 33, 3) := by decide +kernel
theorem dX11_judge_94 : decode cX11_judge 94 = .ok (.aload_n 0, 1) := by decide +kernel
theorem dX11_judge_95 : decode cX11_judge 95 = .ok (.invokevirtual 289, 3) := by decide +kernel
theorem dX11_judge_98 : decode cX11_judge 98 = .ok (.aload_n 0, 1) := by decide +kernel
theorem dX11_judge_99 : decode cX11_judge 99 = .ok (.iconst 1, 1) := by decide +kernel
theorem dX11_judge_100 : decode cX11_judge 100 = .ok (.invokevirtual 292, 3) := by decide +kernel
theorem dX11_judge_103 : decode cX11_judge 103 = .ok (.aload_n 0, 1) := by decide +kernel
theorem dX11_judge_104 : decode cX11_judge 104 = .ok (.getfield 92, 3) := by decide +kernel
theorem dX11_judge_107 : decode cX11_judge 107 = .ok (.iload_n 2, 1) := by decide +kernel
theorem dX11_judge_108 : decode cX11_judge 108 = .ok (.iaload, 1) := by decide +kernel
theorem dX11_judge_109 : decode cX11_judge 109 = .ok (.if_icmp .ne 7, 3) := by decide +kernel
theorem dX11_judge_112 : decode cX11_judge 112 = .ok (.iconst (-1), 1) := by decide +kernel
theorem dX11_judge_113 : decode cX11_judge 113 = .ok (.goto 4, 3) := by decide +kernel
theorem dX11_judge_116 : decode cX11_judge 116 = .ok (.iload_n 2, 1) := by decide +kernel
theorem dX11_judge_117 : decode cX11_judge 117 = .ok (.istore_n 1, 1) := by decide +kernel
theorem dX11_judge_118 : decode cX11_judge 118 = .ok (.iinc 2 1, 3) := by decide +kernel
theorem dX11_judge_121 : decode cX11_judge 121 = .ok (.goto (-39), 3) := by decide +kernel
theorem dX11_judge_124 : decode cX11_judge 124 = .ok (.iconst 0, 1) := by decide +kernel
theorem dX11_judge_125 : decode cX11_judge 125 = .ok (.istore_n 2, 1) := by decide +kernel
theorem dX11_judge_126 : decode cX11_judge 126 = .ok (.iload_n 2, 1) := by decide +kernel
theorem dX11_judge_127 : decode cX11_judge 127 = .ok (.bipush 10, 2) := by decide +kernel
theorem dX11_judge_129 : decode cX11_judge 129 = .ok (.if_icmp .ge 51, 3) := by decide +kernel
theorem dX11_judge_132 : decode cX11_judge 132 = .ok (.aload_n 0, 1) := by decide +kernel
theorem dX11_judge_133 : decode cX11_judge 133 = .ok (.getfield 13, 3) := by decide +kernel
theorem dX11_judge_136 : decode cX11_judge 136 = .ok (.iload_n 2, 1) := by decide +kernel
theorem dX11_judge_137 : decode cX11_judge 137 = .ok (.aload_n 0, 1) := by decide +kernel
theorem dX11_judge_138 : decode cX11_judge 138 = .ok (.getfield 95, 3) := by decide +kernel
theorem dX11_judge_141 : decode cX11_judge 141 = .ok (.iload_n 2, 1) := by decide +kernel
theorem dX11_judge_142 : decode cX11_judge 142 = .ok (.iaload, 1) := by decide +kernel
theorem dX11_judge_143 : decode cX11_judge 143 = .ok (.iastore, 1) := by decide +kernel
theorem dX11_judge_144 : decode cX11_judge 144 = .ok (.aload_n 0, 1) := by decide +kernel
theorem dX11_judge_145 : decode cX11_judge 145 = .ok (.getfield 16, 3) := by decide +kernel
theorem dX11_judge_148 : decode cX11_judge 148 = .ok (.iload_n 2, 1) := by decide +kernel
theorem dX11_judge_149 : decode cX11_judge 149 = .ok (.aload_n 0, 1) := by decide +kernel
theorem dX11_judge_150 : decode cX11_judge 150 = .ok (.getfield 95, 3) := by decide +kernel
theorem dX11_judge_153 : decode cX11_judge 153 = .ok (.bipush 10, 2) := by decide +kernel
theorem dX11_judge_155 : decode cX11_judge 155 = .ok (.iload_n 2, 1) := by decide +kernel
theorem dX11_judge_156 : decode cX11_judge 156 = .ok (.iadd, 1) := by decide +kernel
theorem dX11_judge_157 : decode cX11_judge 157 = .ok (.iaload, 1) := by decide +kernel
theorem dX11_judge_158 : decode cX11_judge 158 = .ok (.iastore, 1) := by decide +kernel
theorem dX11_judge_159 : decode cX11_judge 159 = .ok (.aload_n 0, 1) := by decide +kernel
theorem dX11_judge_160 : decode cX11_judge 160 = .ok (.getfield 19, 3) := by decide +kernel
theorem dX11_judge_163 : decode cX11_judge 163 = .ok (.iload_n 2, 1) := by decide +kernel
theorem dX11_judge_164 : decode cX11_judge 164 = .ok (.aload_n 0, 1) := by decide +kernel
theorem dX11_judge_165 : decode cX11_judge 165 = .ok (.getfield 95, 3) := by decide +kernel
theorem dX11_judge_168 : decode cX11_judge 168 = .ok (.bipush 20, 2) := by decide +kernel
theorem dX11_judge_170 : decode cX11_judge 170 = .ok (.iload_n 2, 1) := by decide +kernel
theorem dX11_judge_171 : decode cX11_judge 171 = .ok (.iadd, 1) := by decide +kernel
theorem dX11_judge_172 : decode cX11_judge 172 = .ok (.iaload, 1) := by decide +kernel
theorem dX11_judge_173 : decode cX11_judge 173 = .ok (.iastore, 1) := by decide +kernel
theorem dX11_judge_174 : decode cX11_judge 174 = .ok (.iinc 2 1, 3) := by decide +kernel
theorem dX11_judge_177 : decode cX11_judge 177 = .ok (.goto (-51), 3) := by decide +kernel
theorem dX11_judge_180 : decode cX11_judge 180 = .ok (.aload_n 0, 1) := by decide +kernel
theorem dX11_judge_181 : decode cX11_judge 181 = .ok (.aload_n 0, 1) := by decide +kernel
theorem dX11_judge_182 : decode cX11_judge 182 = .ok (.getfield 95, 3) := by decide +kernel
theorem dX11_judge_185 : decode cX11_judge 185 = .ok (.bipush 30, 2) := by decide +kernel
theorem dX11_judge_187 : decode cX11_judge 187 = .ok (.iaload, 1) := by decide +kernel
theorem dX11_judge_188 : decode cX11_judge 188 = .ok (.putfield 227, 3) := by decide +kernel
theorem dX11_judge_191 : decode cX11_judge 191 = .ok (.aload_n 0, 1) := by decide +kernel
theorem dX11_judge_192 : decode cX11_judge 192 = .ok (.aload_n 0, 1) := by decide +kernel
theorem dX11_judge_193 : decode cX11_judge 193 = .ok (.getfield 95, 3) := by decide +kernel
theorem dX11_judge_196 : decode cX11_judge 196 = .ok (.bipush 31, 2) := by decide +kernel
theorem dX11_judge_198 : decode cX11_judge 198 = .ok (.iaload, 1) := by decide +kernel
theorem dX11_judge_199 : decode cX11_judge 199 = .ok (.putfield 274, 3) := by decide +kernel
theorem dX11_judge_202 : decode cX11_judge 202 = .ok (.iload_n 1, 1) := by decide +kernel
theorem dX11_judge_203 : decode cX11_judge 203 = .ok (.ireturn, 1) := by decide +kernel
theorem dX11_seed_0 : decode cX11_seed 0 = .ok (.iload_n 1, 1) := by decide +kernel
theorem dX11_seed_1 : decode cX11_seed 1 = .ok (.ifCond .ge 7, 3) := by decide +kernel
theorem dX11_seed_4 : decode cX11_seed 4 = .ok (.sipush (-1002), 3) := by decide +kernel
theorem dX11_seed_7 : decode cX11_seed 7 = .ok (.ireturn, 1) := by decide +kernel
theorem dX11_seed_8 : decode cX11_seed 8 = .ok (.aload_n 0, 1) := by decide +kernel
theorem dX11_seed_9 : decode cX11_seed 9 = .ok (.getfield 274, 3) := by decide +kernel
theorem dX11_seed_12 : decode cX11_seed 12 = .ok (.istore_n 2, 1) := by decide +kernel
theorem dX11_seed_13 : decode cX11_seed 13 = .ok (.aload_n 0, 1) := by decide +kernel
theorem dX11_seed_14 : decode cX11_seed 14 = .ok (.iload_n 1, 1) := by decide +kernel
theorem dX11_seed_15 : decode cX11_seed 15 = .ok (.putfield 274, 3) := by decide +kernel
theorem dX11_seed_18 : decode cX11_seed 18 = .ok (.iload_n 2, 1) := by decide +kernel
theorem dX11_seed_19 : decode cX11_seed 19 = .ok (.ireturn, 1) := by decide +kernel
theorem dX11_keep_0 : decode cX11_keep 0 = .ok (.iload_n 1, 1) := by decide +kernel
theorem dX11_keep_1 : decode cX11_keep 1 = .ok (.i2l, 1) := by decide +kernel
theorem dX11_keep_2 : decode cX11_keep 2 = .ok (.lconst 0, 1) := by decide +kernel
theorem dX11_keep_3 : decode cX11_keep 3 = .ok (.lconst 1, 1) := by decide +kernel
theorem dX11_keep_4 : decode cX11_keep 4 = .ok (.invokestatic 107, 3) := by decide +kernel
theorem dX11_keep_7 : decode cX11_keep 7 = .ok (.ifCond .ne 7, 3) := by decide +kernel
theorem dX11_keep_10 : decode cX11_keep 10 = .ok (.sipush (-1001), 3) := by decide +kernel
theorem dX11_keep_13 : decode cX11_keep 13 = .ok (.ireturn, 1) := by decide +kernel
theorem dX11_keep_14 : decode cX11_keep 14 = .ok (.bipush 50, 2) := by decide +kernel
theorem dX11_keep_16 : decode cX11_keep 16 = .ok (.iload_n 1, 1) := by decide +kernel
theorem dX11_keep_17 : decode cX11_keep 17 = .ok (.imul, 1) := by decide +kernel
theorem dX11_keep_18 : decode cX11_keep 18 = .ok (.istore_n 2, 1) := by decide +kernel
theorem dX11_keep_19 : decode cX11_keep 19 = .ok (.iconst 0, 1) := by decide +kernel
theorem dX11_keep_20 : decode cX11_keep 20 = .ok (.istore_n 3, 1) := by decide +kernel
theorem dX11_keep_21 : decode cX11_keep 21 = .ok (.iload_n 3, 1) := by decide +kernel
theorem dX11_keep_22 : decode cX11_keep 22 = .ok (.bipush 10, 2) := by decide +kernel
theorem dX11_keep_24 : decode cX11_keep 24 = .ok (.if_icmp .ge 78, 3) := by decide +kernel
theorem dX11_keep_27 : decode cX11_keep 27 = .ok (.aload_n 0, 1) := by decide +kernel
theorem dX11_keep_28 : decode cX11_keep 28 = .ok (.getfield 98, 3) := by decide +kernel
theorem dX11_keep_31 : decode cX11_keep 31 = .ok (.iload_n 2, 1) := by decide +kernel
theorem dX11_keep_32 : decode cX11_keep 32 = .ok (.iload_n 3, 1) := by decide +kernel
theorem dX11_keep_33 : decode cX11_keep 33 = .ok (.iadd, 1) := by decide +kernel
theorem dX11_keep_34 : decode cX11_keep 34 = .ok (.aload_n 0, 1) := by decide +kernel
theorem dX11_keep_35 : decode cX11_keep 35 = .ok (.getfield 7, 3) := by decide +kernel
theorem dX11_keep_38 : decode cX11_keep 38 = .ok (.iconst 4, 1) := by decide +kernel
theorem dX11_keep_39 : decode cX11_keep 39 = .ok (.iload_n 3, 1) := by decide +kernel
theorem dX11_keep_40 : decode cX11_keep 40 = .ok (.imul, 1) := by decide +kernel
theorem dX11_keep_41 : decode cX11_keep 41 = .ok (.iconst 1, 1) := by decide +kernel
theorem dX11_keep_42 : decode cX11_keep 42 = .ok (.iadd, 1) := by decide +kernel
theorem dX11_keep_43 : decode cX11_keep 43 = .ok (.iaload, 1) := by decide +kernel
theorem dX11_keep_44 : decode cX11_keep 44 = .ok (.iastore, 1) := by decide +kernel
theorem dX11_keep_45 : decode cX11_keep 45 = .ok (.aload_n 0, 1) := by decide +kernel
theorem dX11_keep_46 : decode cX11_keep 46 = .ok (.getfield 98, 3) := by decide +kernel
theorem dX11_keep_49 : decode cX11_keep 49 = .ok (.iload_n 2, 1) := by decide +kernel
theorem dX11_keep_50 : decode cX11_keep 50 = .ok (.bipush 10, 2) := by decide +kernel
theorem dX11_keep_52 : decode cX11_keep 52 = .ok (.iadd, 1) := by decide +kernel
theorem dX11_keep_53 : decode cX11_keep 53 = .ok (.iload_n 3, 1) := by decide +kernel
theorem dX11_keep_54 : decode cX11_keep 54 = .ok (.iadd, 1) := by decide +kernel
theorem dX11_keep_55 : decode cX11_keep 55 = .ok (.aload_n 0, 1) := by decide +kernel
theorem dX11_keep_56 : decode cX11_keep 56 = .ok (.getfield 13, 3) := by decide +kernel
theorem dX11_keep_59 : decode cX11_keep 59 = .ok (.iload_n 3, 1) := by decide +kernel
theorem dX11_keep_60 : decode cX11_keep 60 = .ok (.iaload, 1) := by decide +kernel
theorem dX11_keep_61 : decode cX11_keep 61 = .ok (.iastore, 1) := by decide +kernel
theorem dX11_keep_62 : decode cX11_keep 62 = .ok (.aload_n 0, 1) := by decide +kernel
theorem dX11_keep_63 : decode cX11_keep 63 = .ok (.getfield 98, 3) := by decide +kernel
theorem dX11_keep_66 : decode cX11_keep 66 = .ok (.iload_n 2, 1) := by decide +kernel
theorem dX11_keep_67 : decode cX11_keep 67 = .ok (.bipush 20, 2) := by decide +kernel
theorem dX11_keep_69 : decode cX11_keep 69 = .ok (.iadd, 1) := by decide +kernel
theorem dX11_keep_70 : decode cX11_keep 70 = .ok (.iload_n 3, 1) := by decide +kernel
theorem dX11_keep_71 : decode cX11_keep 71 = .ok (.iadd, 1) := by decide +kernel
theorem dX11_keep_72 : decode cX11_keep 72 = .ok (.aload_n 0, 1) := by decide +kernel
theorem dX11_keep_73 : decode cX11_keep 73 = .ok (.getfield 16, 3) := by decide +kernel
theorem dX11_keep_76 : decode cX11_keep 76 = .ok (.iload_n 3, 1) := by decide +kernel
theorem dX11_keep_77 : decode cX11_keep 77 = .ok (.iaload, 1) := by decide +kernel
theorem dX11_keep_78 : decode cX11_keep 78 = .ok (.iastore, 1) := by decide +kernel
theorem dX11_keep_79 : decode cX11_keep 79 = .ok (.aload_n 0, 1) := by decide +kernel
theorem dX11_keep_80 : decode cX11_keep 80 = .ok (.getfield 98, 3) := by decide +kernel
theorem dX11_keep_83 : decode cX11_keep 83 = .ok (.iload_n 2, 1) := by decide +kernel
theorem dX11_keep_84 : decode cX11_keep 84 = .ok (.bipush 30, 2) := by decide +kernel
theorem dX11_keep_86 : decode cX11_keep 86 = .ok (.iadd, 1) := by decide +kernel
theorem dX11_keep_87 : decode cX11_keep 87 = .ok (.iload_n 3, 1) := by decide +kernel
theorem dX11_keep_88 : decode cX11_keep 88 = .ok (.iadd, 1) := by decide +kernel
theorem dX11_keep_89 : decode cX11_keep 89 = .ok (.aload_n 0, 1) := by decide +kernel
theorem dX11_keep_90 : decode cX11_keep 90 = .ok (.getfield 19, 3) := by decide +kernel
theorem dX11_keep_93 : decode cX11_keep 93 = .ok (.iload_n 3, 1) := by decide +kernel
theorem dX11_keep_94 : decode cX11_keep 94 = .ok (.iaload, 1) := by decide +kernel
theorem dX11_keep_95 : decode cX11_keep 95 = .ok (.iastore, 1) := by decide +kernel
theorem dX11_keep_96 : decode cX11_keep 96 = .ok (.iinc 3 1, 3) := by decide +kernel
theorem dX11_keep_99 : decode cX11_keep 99 = .ok (.goto (-78), 3) := by decide +kernel
theorem dX11_keep_102 : decode cX11_keep 102 = .ok (.aload_n 0, 1) := by decide +kernel
theorem dX11_keep_103 : decode cX11_keep 103 = .ok (.getfield 98, 3) := by decide +kernel
theorem dX11_keep_106 : decode cX11_keep 106 = .ok (.iload_n 2, 1) := by decide +kernel
theorem dX11_keep_107 : decode cX11_keep 107 = .ok (.bipush 40, 2) := by decide +kernel
theorem dX11_keep_109 : decode cX11_keep 109 = .ok (.iadd, 1) := by decide +kernel
theorem dX11_keep_110 : decode cX11_keep 110 = .ok (.aload_n 0, 1) := by decide +kernel
theorem dX11_keep_111 : decode cX11_keep 111 = .ok (.getfield 227, 3) := by decide +kernel
theorem dX11_keep_114 : decode cX11_keep 114 = .ok (.iastore, 1) := by decide +kernel
theorem dX11_keep_115 : decode cX11_keep 115 = .ok (.aload_n 0, 1) := by decide +kernel
theorem dX11_keep_116 : decode cX11_keep 116 = .ok (.getfield 98, 3) := by decide +kernel
theorem dX11_keep_119 : decode cX11_keep 119 = .ok (.iload_n 2, 1) := by decide +kernel
theorem dX11_keep_120 : decode cX11_keep 120 = .ok (.bipush 41, 2) := by decide +kernel
theorem dX11_keep_122 : decode cX11_keep 122 = .ok (.iadd, 1) := by decide +kernel
theorem dX11_keep_123 : decode cX11_keep 123 = .ok (.aload_n 0, 1) := by decide +kernel
theorem dX11_keep_124 : decode cX11_keep 124 = .ok (.getfield 218, 3) := by decide +kernel
theorem dX11_keep_127 : decode cX11_keep 127 = .ok (.iastore, 1) := by decide +kernel
theorem dX11_keep_128 : decode cX11_keep 128 = .ok (.aload_n 0, 1) := by decide +kernel
theorem dX11_keep_129 : decode cX11_keep 129 = .ok (.getfield 98, 3) := by decide +kernel
theorem dX11_keep_132 : decode cX11_keep 132 = .ok (.iload_n 2, 1) := by decide +kernel
theorem dX11_keep_133 : decode cX11_keep 133 = .ok (.bipush 42, 2) := by decide +kernel
theorem dX11_keep_135 : decode cX11_keep 135 = .ok (.iadd, 1) := by decide +kernel
theorem dX11_keep_136 : decode cX11_keep 136 = .ok (.aload_n 0, 1) := by decide +kernel
theorem dX11_keep_137 : decode cX11_keep 137 = .ok (.getfield 221, 3) := by decide +kernel
theorem dX11_keep_140 : decode cX11_keep 140 = .ok (.iastore, 1) := by decide +kernel
theorem dX11_keep_141 : decode cX11_keep 141 = .ok (.aload_n 0, 1) := by decide +kernel
theorem dX11_keep_142 : decode cX11_keep 142 = .ok (.getfield 98, 3) := by decide +kernel
theorem dX11_keep_145 : decode cX11_keep 145 = .ok (.iload_n 2, 1) := by decide +kernel
theorem dX11_keep_146 : decode cX11_keep 146 = .ok (.bipush 43, 2) := by decide +kernel
theorem dX11_keep_148 : decode cX11_keep 148 = .ok (.iadd, 1) := by decide +kernel
theorem dX11_keep_149 : decode cX11_keep 149 = .ok (.aload_n 0, 1) := by decide +kernel
theorem dX11_keep_150 : decode cX11_keep 150 = .ok (.getfield 274, 3) := by decide +kernel
theorem dX11_keep_153 : decode cX11_keep 153 = .ok (.iastore, 1) := by decide +kernel
theorem dX11_keep_154 : decode cX11_keep 154 = .ok (.aload_n 0, 1) := by decide +kernel
theorem dX11_keep_155 : decode cX11_keep 155 = .ok (.getfield 101, 3) := by decide +kernel
theorem dX11_keep_158 : decode cX11_keep 158 = .ok (.iload_n 1, 1) := by decide +kernel
theorem dX11_keep_159 : decode cX11_keep 159 = .ok (.iconst 1, 1) := by decide +kernel
theorem dX11_keep_160 : decode cX11_keep 160 = .ok (.bastore, 1) := by decide +kernel
theorem dX11_keep_161 : decode cX11_keep 161 = .ok (.iconst 1, 1) := by decide +kernel
theorem dX11_keep_162 : decode cX11_keep 162 = .ok (.ireturn, 1) := by decide +kernel
theorem dX11_goBack_0 : decode cX11_goBack 0 = .ok (.iload_n 1, 1) := by decide +kernel
theorem dX11_goBack_1 : decode cX11_goBack 1 = .ok (.i2l, 1) := by decide +kernel
theorem dX11_goBack_2 : decode cX11_goBack 2 = .ok (.lconst 0, 1) := by decide +kernel
theorem dX11_goBack_3 : decode cX11_goBack 3 = .ok (.lconst 1, 1) := by decide +kernel
theorem dX11_goBack_4 : decode cX11_goBack 4 = .ok (.invokestatic 107, 3) := by decide +kernel
theorem dX11_goBack_7 : decode cX11_goBack 7 = .ok (.ifCond .ne 7, 3) := by decide +kernel
theorem dX11_goBack_10 : decode cX11_goBack 10 = .ok (.sipush (-1001), 3) := by decide +kernel
theorem dX11_goBack_13 : decode cX11_goBack 13 = .ok (.ireturn, 1) := by decide +kernel
theorem dX11_goBack_14 : decode cX11_goBack 14 = .ok (.aload_n 0, 1) := by decide +kernel
theorem dX11_goBack_15 : decode cX11_goBack 15 = .ok (.getfield 101, 3) := by decide +kernel
theorem dX11_goBack_18 : decode cX11_goBack 18 = .ok (.iload_n 1, 1) := by decide +kernel
theorem dX11_goBack_19 : decode cX11_goBack 19 = .ok (.baload, 1) := by decide +kernel
theorem dX11_goBack_20 : decode cX11_goBack 20 = .ok (.ifCond .ne 7, 3) := by decide +kernel
theorem dX11_goBack_23 : decode cX11_goBack 23 = .ok (.sipush (-1003), 3) := by decide +kernel
theorem dX11_goBack_26 : decode cX11_goBack 26 = .ok (.ireturn, 1) := by decide +kernel
theorem dX11_goBack_27 : decode cX11_goBack 27 = .ok (.bipush 50, 2) := by decide +kernel
theorem dX11_goBack_29 : decode cX11_goBack 29 = .ok (.iload_n 1, 1) := by decide +kernel
theorem dX11_goBack_30 : decode cX11_goBack 30 = .ok (.imul, 1) := by decide +kernel
theorem dX11_goBack_31 : decode cX11_goBack 31 = .ok (.istore_n 2, 1) := by decide +kernel
theorem dX11_goBack_32 : decode cX11_goBack 32 = .ok (.iconst 0, 1) := by decide +kernel
theorem dX11_goBack_33 : decode cX11_goBack 33 = .ok (.istore_n 3, 1) := by decide +kernel
theorem dX11_goBack_34 : decode cX11_goBack 34 = .ok (.iload_n 3, 1) := by decide +kernel
theorem dX11_goBack_35 : decode cX11_goBack 35 = .ok (.bipush 10, 2) := by decide +kernel
theorem dX11_goBack_37 : decode cX11_goBack 37 = .ok (.if_icmp .ge 78, 3) := by decide +kernel
theorem dX11_goBack_40 : decode cX11_goBack 40 = .ok (.aload_n 0, 1) := by decide +kernel
theorem dX11_goBack_41 : decode cX11_goBack 41 = .ok (.getfield 7, 3) := by decide +kernel
theorem dX11_goBack_44 : decode cX11_goBack 44 = .ok (.iconst 4, 1) := by decide +kernel
theorem dX11_goBack_45 : decode cX11_goBack 45 = .ok (.iload_n 3, 1) := by decide +kernel
theorem dX11_goBack_46 : decode cX11_goBack 46 = .ok (.imul, 1) := by decide +kernel
theorem dX11_goBack_47 : decode cX11_goBack 47 = .ok (.iconst 1, 1) := by decide +kernel
theorem dX11_goBack_48 : decode cX11_goBack 48 = .ok (.iadd, 1) := by decide +kernel
theorem dX11_goBack_49 : decode cX11_goBack 49 = .ok (.aload_n 0, 1) := by decide +kernel
theorem dX11_goBack_50 : decode cX11_goBack 50 = .ok (.getfield 98, 3) := by decide +kernel
theorem dX11_goBack_53 : decode cX11_goBack 53 = .ok (.iload_n 2, 1) := by decide +kernel
theorem dX11_goBack_54 : decode cX11_goBack 54 = .ok (.iload_n 3, 1) := by decide +kernel
theorem dX11_goBack_55 : decode cX11_goBack 55 = .ok (.iadd, 1) := by decide +kernel
theorem dX11_goBack_56 : decode cX11_goBack 56 = .ok (.iaload, 1) := by decide +kernel
theorem dX11_goBack_57 : decode cX11_goBack 57 = .ok (.iastore, 1) := by decide +kernel
theorem dX11_goBack_58 : decode cX11_goBack 58 = .ok (.aload_n 0, 1) := by decide +kernel
theorem dX11_goBack_59 : decode cX11_goBack 59 = .ok (.getfield 13, 3) := by decide +kernel
theorem dX11_goBack_62 : decode cX11_goBack 62 = .ok (.iload_n 3, 1) := by decide +kernel
theorem dX11_goBack_63 : decode cX11_goBack 63 = .ok (.aload_n 0, 1) := by decide +kernel
theorem dX11_goBack_64 : decode cX11_goBack 64 = .ok (.getfield 98, 3) := by decide +kernel
theorem dX11_goBack_67 : decode cX11_goBack 67 = .ok (.iload_n 2, 1) := by decide +kernel
theorem dX11_goBack_68 : decode cX11_goBack 68 = .ok (.bipush 10, 2) := by decide +kernel
theorem dX11_goBack_70 : decode cX11_goBack 70 = .ok (.iadd, 1) := by decide +kernel
theorem dX11_goBack_71 : decode cX11_goBack 71 = .ok (.iload_n 3, 1) := by decide +kernel
theorem dX11_goBack_72 : decode cX11_goBack 72 = .ok (.iadd, 1) := by decide +kernel
theorem dX11_goBack_73 : decode cX11_goBack 73 = .ok (.iaload, 1) := by decide +kernel
theorem dX11_goBack_74 : decode cX11_goBack 74 = .ok (.iastore, 1) := by decide +kernel
theorem dX11_goBack_75 : decode cX11_goBack 75 = .ok (.aload_n 0, 1) := by decide +kernel
theorem dX11_goBack_76 : decode cX11_goBack 76 = .ok (.getfield 16, 3) := by decide +kernel
theorem dX11_goBack_79 : decode cX11_goBack 79 = .ok (.iload_n 3, 1) := by decide +kernel
theorem dX11_goBack_80 : decode cX11_goBack 80 = .ok (.aload_n 0, 1) := by decide +kernel
theorem dX11_goBack_81 : decode cX11_goBack 81 = .ok (.getfield 98, 3) := by decide +kernel
theorem dX11_goBack_84 : decode cX11_goBack 84 = .ok (.iload_n 2, 1) := by decide +kernel
theorem dX11_goBack_85 : decode cX11_goBack 85 = .ok (.bipush 20, 2) := by decide +kernel
theorem dX11_goBack_87 : decode cX11_goBack 87 = .ok (.iadd, 1) := by decide +kernel
theorem dX11_goBack_88 : decode cX11_goBack 88 = .ok (.iload_n 3, 1) := by decide +kernel
theorem dX11_goBack_89 : decode cX11_goBack 89 = .ok (.iadd, 1) := by decide +kernel
theorem dX11_goBack_90 : decode cX11_goBack 90 = .ok (.iaload, 1) := by decide +kernel
theorem dX11_goBack_91 : decode cX11_goBack 91 = .ok (.iastore, 1) := by decide +kernel
theorem dX11_goBack_92 : decode cX11_goBack 92 = .ok (.aload_n 0, 1) := by decide +kernel
theorem dX11_goBack_93 : decode cX11_goBack 93 = .ok (.getfield 19, 3) := by decide +kernel
theorem dX11_goBack_96 : decode cX11_goBack 96 = .ok (.iload_n 3, 1) := by decide +kernel
theorem dX11_goBack_97 : decode cX11_goBack 97 = .ok (.aload_n 0, 1) := by decide +kernel
theorem dX11_goBack_98 : decode cX11_goBack 98 = .ok (.getfield 98, 3) := by decide +kernel
theorem dX11_goBack_101 : decode cX11_goBack 101 = .ok (.iload_n 2, 1) := by decide +kernel
theorem dX11_goBack_102 : decode cX11_goBack 102 = .ok (.bipush 30, 2) := by decide +kernel
theorem dX11_goBack_104 : decode cX11_goBack 104 = .ok (.iadd, 1) := by decide +kernel
theorem dX11_goBack_105 : decode cX11_goBack 105 = .ok (.iload_n 3, 1) := by decide +kernel
theorem dX11_goBack_106 : decode cX11_goBack 106 = .ok (.iadd, 1) := by decide +kernel
theorem dX11_goBack_107 : decode cX11_goBack 107 = .ok (.iaload, 1) := by decide +kernel
theorem dX11_goBack_108 : decode cX11_goBack 108 = .ok (.iastore, 1) := by decide +kernel
theorem dX11_goBack_109 : decode cX11_goBack 109 = .ok (.iinc 3 1, 3) := by decide +kernel
theorem dX11_goBack_112 : decode cX11_goBack 112 = .ok (.goto (-78), 3) := by decide +kernel
theorem dX11_goBack_115 : decode cX11_goBack 115 = .ok (.aload_n 0, 1) := by decide +kernel
theorem dX11_goBack_116 : decode cX11_goBack 116 = .ok (.aload_n 0, 1) := by decide +kernel
theorem dX11_goBack_117 : decode cX11_goBack 117 = .ok (.getfield 98, 3) := by decide +kernel
theorem dX11_goBack_120 : decode cX11_goBack 120 = .ok (.iload_n 2, 1) := by decide +kernel
theorem dX11_goBack_121 : decode cX11_goBack 121 = .ok (.bipush 40, 2) := by decide +kernel
theorem dX11_goBack_123 : decode cX11_goBack 123 = .ok (.iadd, 1) := by decide +kernel
theorem dX11_goBack_124 : decode cX11_goBack 124 = .ok (.iaload, 1) := by decide +kernel
theorem dX11_goBack_125 : decode cX11_goBack 125 = .ok (.putfield 227, 3) := by decide +kernel
theorem dX11_goBack_128 : decode cX11_goBack 128 = .ok (.aload_n 0, 1) := by decide +kernel
theorem dX11_goBack_129 : decode cX11_goBack 129 = .ok (.aload_n 0, 1) := by decide +kernel
theorem dX11_goBack_130 : decode cX11_goBack 130 = .ok (.getfield 98, 3) := by decide +kernel
theorem dX11_goBack_133 : decode cX11_goBack 133 = .ok (.iload_n 2, 1) := by decide +kernel
theorem dX11_goBack_134 : decode cX11_goBack 134 = .ok (.bipush 41, 2) := by decide +kernel
theorem dX11_goBack_136 : decode cX11_goBack 136 = .ok (.iadd, 1) := by decide +kernel
theorem dX11_goBack_137 : decode cX11_goBack 137 = .ok (.iaload, 1) := by decide +kernel
theorem dX11_goBack_138 : decode cX11_goBack 138 = .ok (.putfield 218, 3) := by decide +kernel
theorem dX11_goBack_141 : decode cX11_goBack 141 = .ok (.aload_n 0, 1) := by decide +kernel
theorem dX11_goBack_142 : decode cX11_goBack 142 = .ok (.aload_n 0, 1) := by decide +kernel
theorem dX11_goBack_143 : decode cX11_goBack 143 = .ok (.getfield 98, 3) := by decide +kernel
theorem dX11_goBack_146 : decode cX11_goBack 146 = .ok (.iload_n 2, 1) := by decide +kernel
theorem dX11_goBack_147 : decode cX11_goBack 147 = .ok (.bipush 42, 2) := by decide +kernel
theorem dX11_goBack_149 : decode cX11_goBack 149 = .ok (.iadd, 1) := by decide +kernel
theorem dX11_goBack_150 : decode cX11_goBack 150 = .ok (.iaload, 1) := by decide +kernel
theorem dX11_goBack_151 : decode cX11_goBack 151 = .ok (.putfield 221, 3) := by decide +kernel
theorem dX11_goBack_154 : decode cX11_goBack 154 = .ok (.aload_n 0, 1) := by decide +kernel
theorem dX11_goBack_155 : decode cX11_goBack 155 = .ok (.aload_n 0, 1) := by decide +kernel
theorem dX11_goBack_156 : decode cX11_goBack 156 = .ok (.getfield 98, 3) := by decide +kernel
theorem dX11_goBack_159 : decode cX11_goBack 159 = .ok (.iload_n 2, 1) := by decide +kernel
theorem dX11_goBack_160 : decode cX11_goBack 160 = .ok (.bipush 43, 2) := by decide +kernel
theorem dX11_goBack_162 : decode cX11_goBack 162 = .ok (.iadd, 1) := by decide +kernel
theorem dX11_goBack_163 : decode cX11_goBack 163 = .ok (.iaload, 1) := by decide +kernel
theorem dX11_goBack_164 : decode cX11_goBack 164 = .ok (.putfield 274, 3) := by decide +kernel
theorem dX11_goBack_167 : decode cX11_goBack 167 = .ok (.iconst 1, 1) := by decide +kernel
theorem dX11_goBack_168 : decode cX11_goBack 168 = .ok (.ireturn, 1) := by decide +kernel
theorem dX2_init_0 : decode cX2_init 0 = .ok (.aload_n 0, 1) := by decide +kernel
theorem dX2_init_1 : decode cX2_init 1 = .ok (.invokespecial 3, 3) := by decide +kernel
theorem dX2_init_4 : decode cX2_init 4 = .ok (.aload_n 0, 1) := by decide +kernel
theorem dX2_init_5 : decode cX2_init 5 = .ok (.bipush 10, 2) := by decide +kernel
theorem dX2_init_7 : decode cX2_init 7 = .ok (.newarray .int, 2) := by decide +kernel
theorem dX2_init_9 : decode cX2_init 9 = .ok (.putfield 9, 3) := by decide +kernel
theorem dX2_init_12 : decode cX2_init 12 = .ok (.aload_n 0, 1) := by decide +kernel
theorem dX2_init_13 : decode cX2_init 13 = .ok (.bipush 10, 2) := by decide +kernel
theorem dX2_init_15 : decode cX2_init 15 = .ok (.newarray .int, 2) := by decide +kernel
theorem dX2_init_17 : decode cX2_init 17 = .ok (.putfield 15, 3) := by decide +kernel
theorem dX2_init_20 : decode cX2_init 20 = .ok (.aload_n 0, 1) := by decide +kernel
theorem dX2_init_21 : decode cX2_init 21 = .ok (.bipush 10, 2) := by decide +kernel
theorem dX2_init_23 : decode cX2_init 23 = .ok (.newarray .int, 2) := by decide +kernel
theorem dX2_init_25 : decode cX2_init 25 = .ok (.putfield 18, 3) := by decide +kernel
theorem dX2_init_28 : decode cX2_init 28 = .ok (.aload_n 0, 1) := by decide +kernel
theorem dX2_init_29 : decode cX2_init 29 = .ok (.bipush 10, 2) := by decide +kernel
theorem dX2_init_31 : decode cX2_init 31 = .ok (.newarray .int, 2) := by decide +kernel
theorem dX2_init_33 : decode cX2_init 33 = .ok (.putfield 21, 3) := by decide +kernel
theorem dX2_init_36 : decode cX2_init 36 = .ok (.aload_n 0, 1) := by decide +kernel
theorem dX2_init_37 : decode cX2_init 37 = .ok (.aload_n 1, 1) := by decide +kernel
theorem dX2_init_38 : decode cX2_init 38 = .ok (.putfield 24, 3) := by decide +kernel
theorem dX2_init_41 : decode cX2_init 41 = .ok (.return_, 1) := by decide +kernel
theorem dX2_startOn_0 : decode cX2_startOn 0 = .ok (.iconst 0, 1) := by decide +kernel
theorem dX2_startOn_1 : decode cX2_startOn 1 = .ok (.istore_n 1, 1) := by decide +kernel
theorem dX2_startOn_2 : decode cX2_startOn 2 = .ok (.iload_n 1, 1) := by decide +kernel
theorem dX2_startOn_3 : decode cX2_startOn 3 = .ok (.bipush 10, 2) := by decide +kernel
theorem dX2_startOn_5 : decode cX2_startOn 5 = .ok (.if_icmp .ge 26, 3) := by decide +kernel
theorem dX2_startOn_8 : decode cX2_startOn 8 = .ok (.aload_n 0, 1) := by decide +kernel
theorem dX2_startOn_9 : decode cX2_startOn 9 = .ok (.getfield 9, 3) := by decide +kernel
theorem dX2_startOn_12 : decode cX2_startOn 12 = .ok (.iload_n 1, 1) := by decide +kernel
theorem dX2_startOn_13 : decode cX2_startOn 13 = .ok (.aload_n 0, 1) := by decide +kernel
theorem dX2_startOn_14 : decode cX2_startOn 14 = .ok (.getfield 24, 3) := by decide +kernel
theorem dX2_startOn_17 : decode cX2_startOn 17 = .ok (.getfield 28, 3) := by decide +kernel
theorem dX2_startOn_20 : decode cX2_startOn 20 = .ok (.iload_n 1, 1) := by decide +kernel
theorem dX2_startOn_21 : decode cX2_startOn 21 = .ok (.invokevirtual 34, 3) := by decide +kernel
theorem dX2_startOn_24 : decode cX2_startOn 24 = .ok (.iastore, 1) := by decide +kernel
theorem dX2_startOn_25 : decode cX2_startOn 25 = .ok (.iinc 1 1, 3) := by decide +kernel
theorem dX2_startOn_28 : decode cX2_startOn 28 = .ok (.goto (-26), 3) := by decide +kernel
theorem dX2_startOn_31 : decode cX2_startOn 31 = .ok (.aload_n 0, 1) := by decide +kernel
theorem dX2_startOn_32 : decode cX2_startOn 32 = .ok (.iconst 0, 1) := by decide +kernel
theorem dX2_startOn_33 : decode cX2_startOn 33 = .ok (.putfield 40, 3) := by decide +kernel
theorem dX2_startOn_36 : decode cX2_startOn 36 = .ok (.aload_n 0, 1) := by decide +kernel
theorem dX2_startOn_37 : decode cX2_startOn 37 = .ok (.iconst 0, 1) := by decide +kernel
theorem dX2_startOn_38 : decode cX2_startOn 38 = .ok (.putfield 44, 3) := by decide +kernel
theorem dX2_startOn_41 : decode cX2_startOn 41 = .ok (.aload_n 0, 1) := by decide +kernel
theorem dX2_startOn_42 : decode cX2_startOn 42 = .ok (.invokevirtual 47, 3) := by decide +kernel
theorem dX2_startOn_45 : decode cX2_startOn 45 = .ok (.return_, 1) := by decide +kernel
theorem dX2_darken_0 : decode cX2_darken 0 = .ok (.iconst 0, 1) := by decide +kernel
theorem dX2_darken_1 : decode cX2_darken 1 = .ok (.istore_n 1, 1) := by decide +kernel
theorem dX2_darken_2 : decode cX2_darken 2 = .ok (.iload_n 1, 1) := by decide +kernel
theorem dX2_darken_3 : decode cX2_darken 3 = .ok (.bipush 10, 2) := by decide +kernel
theorem dX2_darken_5 : decode cX2_darken 5 = .ok (.if_icmp .ge 30, 3) := by decide +kernel
theorem dX2_darken_8 : decode cX2_darken 8 = .ok (.aload_n 0, 1) := by decide +kernel
theorem dX2_darken_9 : decode cX2_darken 9 = .ok (.getfield 15, 3) := by decide +kernel
theorem dX2_darken_12 : decode cX2_darken 12 = .ok (.iload_n 1, 1) := by decide +kernel
theorem dX2_darken_13 : decode cX2_darken 13 = .ok (.iconst 0, 1) := by decide +kernel
theorem dX2_darken_14 : decode cX2_darken 14 = .ok (.iastore, 1) := by decide +kernel
theorem dX2_darken_15 : decode cX2_darken 15 = .ok (.aload_n 0, 1) := by decide +kernel
theorem dX2_darken_16 : decode cX2_darken 16 = .ok (.getfield 18, 3) := by decide +kernel
theorem dX2_darken_19 : decode cX2_darken 19 = .ok (.iload_n 1, 1) := by decide +kernel
theorem dX2_darken_20 : decode cX2_darken 20 = .ok (.iconst 0, 1) := by decide +kernel
theorem dX2_darken_21 : decode cX2_darken 21 = .ok (.iastore, 1) := by decide +kernel
theorem dX2_darken_22 : decode cX2_darken 22 = .ok (.aload_n 0, 1) := by decide +kernel
theorem dX2_darken_23 : decode cX2_darken 23 = .ok (.getfield 21, 3) := by decide +kernel
theorem dX2_darken_26 : decode cX2_darken 26 = .ok (.iload_n 1, 1) := by decide +kernel
theorem dX2_darken_27 : decode cX2_darken 27 = .ok (.iconst (-1), 1) := by decide +kernel
theorem dX2_darken_28 : decode cX2_darken 28 = .ok (.iastore, 1) := by decide +kernel
theorem dX2_darken_29 : decode cX2_darken 29 = .ok (.iinc 1 1, 3) := by decide +kernel
theorem dX2_darken_32 : decode cX2_darken 32 = .ok (.goto (-30), 3) := by decide +kernel
theorem dX2_darken_35 : decode cX2_darken 35 = .ok (.aload_n 0, 1) := by decide +kernel
theorem dX2_darken_36 : decode cX2_darken 36 = .ok (.iconst 0, 1) := by decide +kernel
theorem dX2_darken_37 : decode cX2_darken 37 = .ok (.putfield 50, 3) := by decide +kernel
theorem dX2_darken_40 : decode cX2_darken 40 = .ok (.return_, 1) := by decide +kernel
theorem dX2_copy_0 : decode cX2_copy 0 = .ok (.iconst 0, 1) := by decide +kernel
theorem dX2_copy_1 : decode cX2_copy 1 = .ok (.istore_n 2, 1) := by decide +kernel
theorem dX2_copy_2 : decode cX2_copy 2 = .ok (.iload_n 2, 1) := by decide +kernel
theorem dX2_copy_3 : decode cX2_copy 3 = .ok (.bipush 10, 2) := by decide +kernel
theorem dX2_copy_5 : decode cX2_copy 5 = .ok (.if_icmp .ge 57, 3) := by decide +kernel
theorem dX2_copy_8 : decode cX2_copy 8 = .ok (.aload_n 0, 1) := by decide +kernel
theorem dX2_copy_9 : decode cX2_copy 9 = .ok (.getfield 9, 3) := by decide +kernel
theorem dX2_copy_12 : decode cX2_copy 12 = .ok (.iload_n 2, 1) := by decide +kernel
theorem dX2_copy_13 : decode cX2_copy 13 = .ok (.aload_n 1, 1) := by decide +kernel
theorem dX2_copy_14 : decode cX2_copy 14 = .ok (.getfield 9, 3) := by decide +kernel
theorem dX2_copy_17 : decode cX2_copy 17 = .ok (.iload_n 2, 1) := by decide +kernel
theorem dX2_copy_18 : decode cX2_copy 18 = .ok (.iaload, 1) := by decide +kernel
theorem dX2_copy_19 : decode cX2_copy 19 = .ok (.iastore, 1) := by decide +kernel
theorem dX2_copy_20 : decode cX2_copy 20 = .ok (.aload_n 0, 1) := by decide +kernel
theorem dX2_copy_21 : decode cX2_copy 21 = .ok (.getfield 15, 3) := by decide +kernel
theorem dX2_copy_24 : decode cX2_copy 24 = .ok (.iload_n 2, 1) := by decide +kernel
theorem dX2_copy_25 : decode cX2_copy 25 = .ok (.aload_n 1, 1) := by decide +kernel
theorem dX2_copy_26 : decode cX2_copy 26 = .ok (.getfield 15, 3) := by decide +kernel
theorem dX2_copy_29 : decode cX2_copy 29 = .ok (.iload_n 2, 1) := by decide +kernel
theorem dX2_copy_30 : decode cX2_copy 30 = .ok (.iaload, 1) := by decide +kernel
theorem dX2_copy_31 : decode cX2_copy 31 = .ok (.iastore, 1) := by decide +kernel
theorem dX2_copy_32 : decode cX2_copy 32 = .ok (.aload_n 0, 1) := by decide +kernel
theorem dX2_copy_33 : decode cX2_copy 33 = .ok (.getfield 18, 3) := by decide +kernel
theorem dX2_copy_36 : decode cX2_copy 36 = .ok (.iload_n 2, 1) := by decide +kernel
theorem dX2_copy_37 : decode cX2_copy 37 = .ok (.aload_n 1, 1) := by decide +kernel
theorem dX2_copy_38 : decode cX2_copy 38 = .ok (.getfield 18, 3) := by decide +kernel
theorem dX2_copy_41 : decode cX2_copy 41 = .ok (.iload_n 2, 1) := by decide +kernel
theorem dX2_copy_42 : decode cX2_copy 42 = .ok (.iaload, 1) := by decide +kernel
theorem dX2_copy_43 : decode cX2_copy 43 = .ok (.iastore, 1) := by decide +kernel
theorem dX2_copy_44 : decode cX2_copy 44 = .ok (.aload_n 0, 1) := by decide +kernel
theorem dX2_copy_45 : decode cX2_copy 45 = .ok (.getfield 21, 3) := by decide +kernel
theorem dX2_copy_48 : decode cX2_copy 48 = .ok (.iload_n 2, 1) := by decide +kernel
theorem dX2_copy_49 : decode cX2_copy 49 = .ok (.aload_n 1, 1) := by decide +kernel
theorem dX2_copy_50 : decode cX2_copy 50 = .ok (.getfield 21, 3) := by decide +kernel
theorem dX2_copy_53 : decode cX2_copy 53 = .ok (.iload_n 2, 1) := by decide +kernel
theorem dX2_copy_54 : decode cX2_copy 54 = .ok (.iaload, 1) := by decide +kernel
theorem dX2_copy_55 : decode cX2_copy 55 = .ok (.iastore, 1) := by decide +kernel
theorem dX2_copy_56 : decode cX2_copy 56 = .ok (.iinc 2 1, 3) := by decide +kernel
theorem dX2_copy_59 : decode cX2_copy 59 = .ok (.goto (-57), 3) := by decide +kernel
theorem dX2_copy_62 : decode cX2_copy 62 = .ok (.aload_n 0, 1) := by decide +kernel
theorem dX2_copy_63 : decode cX2_copy 63 = .ok (.aload_n 1, 1) := by decide +kernel
theorem dX2_copy_64 : decode cX2_copy 64 = .ok (.getfield 50, 3) := by decide +kernel
theorem dX2_copy_67 : decode cX2_copy 67 = .ok (.putfield 50, 3) := by decide +kernel
theorem dX2_copy_70 : decode cX2_copy 70 = .ok (.aload_n 0, 1) := by decide +kernel
theorem dX2_copy_71 : decode cX2_copy 71 = .ok (.aload_n 1, 1) := by decide +kernel
theorem dX2_copy_72 : decode cX2_copy 72 = .ok (.getfield 40, 3) := by decide +kernel
theorem dX2_copy_75 : decode cX2_copy 75 = .ok (.putfield 40, 3) := by decide +kernel
theorem dX2_copy_78 : decode cX2_copy 78 = .ok (.aload_n 0, 1) := by decide +kernel
theorem dX2_copy_79 : decode cX2_copy 79 = .ok (.aload_n 1, 1) := by decide +kernel
theorem dX2_copy_80 : decode cX2_copy 80 = .ok (.getfield 44, 3) := by decide +kernel
theorem dX2_copy_83 : decode cX2_copy 83 = .ok (.putfield 44, 3) := by decide +kernel
theorem dX2_copy_86 : decode cX2_copy 86 = .ok (.aload_n 0, 1) := by decide +kernel
theorem dX2_copy_87 : decode cX2_copy 87 = .ok (.aload_n 1, 1) := by decide +kernel
theorem dX2_copy_88 : decode cX2_copy 88 = .ok (.getfield 53, 3) := by decide +kernel
theorem dX2_copy_91 : decode cX2_copy 91 = .ok (.putfield 53, 3) := by decide +kernel
theorem dX2_copy_94 : decode cX2_copy 94 = .ok (.return_, 1) := by decide +kernel
theorem dX2_noteOf_0 : decode cX2_noteOf 0 = .ok (.iload_n 1, 1) := by decide +kernel
theorem dX2_noteOf_1 : decode cX2_noteOf 1 = .ok (.ifCond .lt 18, 3) := by decide +kernel
theorem dX2_noteOf_4 : decode cX2_noteOf 4 = .ok (.iload_n 1, 1) := by decide +kernel
theorem dX2_noteOf_5 : decode cX2_noteOf 5 = .ok (.bipush 10, 2) := by decide +kernel
theorem dX2_noteOf_7 : decode cX2_noteOf 7 = .ok (.if_icmp .ge 12, 3) := by decide +kernel
theorem dX2_noteOf_10 : decode cX2_noteOf 10 = .ok (.aload_n 0, 1) := by decide +kernel
theorem dX2_noteOf_11 : decode cX2_noteOf 11 = .ok (.getfield 9, 3) := by decide +kernel
theorem dX2_noteOf_14 : decode cX2_noteOf 14 = .ok (.iload_n 1, 1) := by decide +kernel
theorem dX2_noteOf_15 : decode cX2_noteOf 15 = .ok (.iaload, 1) := by decide +kernel
theorem dX2_noteOf_16 : decode cX2_noteOf 16 = .ok (.goto 4, 3) := by decide +kernel
theorem dX2_noteOf_19 : decode cX2_noteOf 19 = .ok (.iconst 0, 1) := by decide +kernel
theorem dX2_noteOf_20 : decode cX2_noteOf 20 = .ok (.ireturn, 1) := by decide +kernel
theorem dX2_ear_0 : decode cX2_ear 0 = .ok (.aload_n 0, 1) := by decide +kernel
theorem dX2_ear_1 : decode cX2_ear 1 = .ok (.iload_n 1, 1) := by decide +kernel
theorem dX2_ear_2 : decode cX2_ear 2 = .ok (.invokevirtual 56, 3) := by decide +kernel
theorem dX2_ear_5 : decode cX2_ear 5 = .ok (.aload_n 0, 1) := by decide +kernel
theorem dX2_ear_6 : decode cX2_ear 6 = .ok (.getfield 24, 3) := by decide +kernel
theorem dX2_ear_9 : decode cX2_ear 9 = .ok (.getfield 59, 3) := by decide +kernel
theorem dX2_ear_12 : decode cX2_ear 12 = .ok (.iload_n 1, 1) := by decide +kernel
theorem dX2_ear_13 : decode cX2_ear 13 = .ok (.invokevirtual 34, 3) := by decide +kernel
theorem dX2_ear_16 : decode cX2_ear 16 = .ok (.aload_n 0, 1) := by decide +kernel
theorem dX2_ear_17 : decode cX2_ear 17 = .ok (.getfield 40, 3) := by decide +kernel
theorem dX2_ear_20 : decode cX2_ear 20 = .ok (.imul, 1) := by decide +kernel
theorem dX2_ear_21 : decode cX2_ear 21 = .ok (.isub, 1) := by decide +kernel
theorem dX2_ear_22 : decode cX2_ear 22 = .ok (.ireturn, 1) := by decide +kernel
theorem dX2_woken_0 : decode cX2_woken 0 = .ok (.iconst 0, 1) := by decide +kernel
theorem dX2_woken_1 : decode cX2_woken 1 = .ok (.istore 4, 2) := by decide +kernel
theorem dX2_woken_3 : decode cX2_woken 3 = .ok (.iconst 0, 1) := by decide +kernel
theorem dX2_woken_4 : decode cX2_woken 4 = .ok (.istore 5, 2) := by decide +kernel
theorem dX2_woken_6 : decode cX2_woken 6 = .ok (.iload 5, 2) := by decide +kernel
theorem dX2_woken_8 : decode cX2_woken 8 = .ok (.aload_n 0, 1) := by decide +kernel
theorem dX2_woken_9 : decode cX2_woken 9 = .ok (.getfield 24, 3) := by decide +kernel
theorem dX2_woken_12 : decode cX2_woken 12 = .ok (.invokevirtual 62, 3) := by decide +kernel
theorem dX2_woken_15 : decode cX2_woken 15 = .ok (.if_icmp .ge 77, 3) := by decide +kernel
theorem dX2_woken_18 : decode cX2_woken 18 = .ok (.aload_n 0, 1) := by decide +kernel
theorem dX2_woken_19 : decode cX2_woken 19 = .ok (.iload 5, 2) := by decide +kernel
theorem dX2_woken_21 : decode cX2_woken 21 = .ok (.invokevirtual 66, 3) := by decide +kernel
theorem dX2_woken_24 : decode cX2_woken 24 = .ok (.iload_n 2, 1) := by decide +kernel
theorem dX2_woken_25 : decode cX2_woken 25 = .ok (.isub, 1) := by decide +kernel
theorem dX2_woken_26 : decode cX2_woken 26 = .ok (.invokestatic 69, 3) := by decide +kernel
theorem dX2_woken_29 : decode cX2_woken 29 = .ok (.aload_n 0, 1) := by decide +kernel
theorem dX2_woken_30 : decode cX2_woken 30 = .ok (.getfield 24, 3) := by decide +kernel
theorem dX2_woken_33 : decode cX2_woken 33 = .ok (.getfield 74, 3) := by decide +kernel
theorem dX2_woken_36 : decode cX2_woken 36 = .ok (.iload 5, 2) := by decide +kernel
theorem dX2_woken_38 : decode cX2_woken 38 = .ok (.invokevirtual 34, 3) := by decide +kernel
theorem dX2_woken_41 : decode cX2_woken 41 = .ok (.if_icmp .gt 7, 3) := by decide +kernel
theorem dX2_woken_44 : decode cX2_woken 44 = .ok (.iconst 1, 1) := by decide +kernel
theorem dX2_woken_45 : decode cX2_woken 45 = .ok (.goto 4, 3) := by decide +kernel
theorem dX2_woken_48 : decode cX2_woken 48 = .ok (.iconst 0, 1) := by decide +kernel
theorem dX2_woken_49 : decode cX2_woken 49 = .ok (.istore 6, 2) := by decide +kernel
theorem dX2_woken_51 : decode cX2_woken 51 = .ok (.iload 6, 2) := by decide +kernel
theorem dX2_woken_53 : decode cX2_woken 53 = .ok (.ifCond .eq 33, 3) := by decide +kernel
theorem dX2_woken_56 : decode cX2_woken 56 = .ok (.aload_n 0, 1) := by decide +kernel
theorem dX2_woken_57 : decode cX2_woken 57 = .ok (.getfield 24, 3) := by decide +kernel
theorem dX2_woken_60 : decode cX2_woken 60 = .ok (.getfield 77, 3) := by decide +kernel
theorem dX2_woken_63 : decode cX2_woken 63 = .ok (.iload 5, 2) := by decide +kernel
theorem dX2_woken_65 : decode cX2_woken 65 = .ok (.invokevirtual 34, 3) := by decide +kernel
theorem dX2_woken_68 : decode cX2_woken 68 = .ok (.iload_n 1, 1) := by decide +kernel
theorem dX2_woken_69 : decode cX2_woken 69 = .ok (.isub, 1) := by decide +kernel
theorem dX2_woken_70 : decode cX2_woken 70 = .ok (.invokestatic 69, 3) := by decide +kernel
theorem dX2_woken_73 : decode cX2_woken 73 = .ok (.iload_n 3, 1) := by decide +kernel
theorem dX2_woken_74 : decode cX2_woken 74 = .ok (.if_icmp .ge 12, 3) := by decide +kernel
theorem dX2_woken_77 : decode cX2_woken 77 = .ok (.iload 4, 2) := by decide +kernel
theorem dX2_woken_79 : decode cX2_woken 79 = .ok (.iconst 1, 1) := by decide +kernel
theorem dX2_woken_80 : decode cX2_woken 80 = .ok (.iload 5, 2) := by decide +kernel
theorem dX2_woken_82 : decode cX2_woken 82 = .ok (.ishl, 1) := by decide +kernel
theorem dX2_woken_83 : decode cX2_woken 83 = .ok (.ior, 1) := by decide +kernel
theorem dX2_woken_84 : decode cX2_woken 84 = .ok (.istore 4, 2) := by decide +kernel
theorem dX2_woken_86 : decode cX2_woken 86 = .ok (.iinc 5 1, 3) := by decide +kernel
theorem dX2_woken_89 : decode cX2_woken 89 = .ok (.goto (-83), 3) := by decide +kernel
theorem dX2_woken_92 : decode cX2_woken 92 = .ok (.iload 4, 2) := by decide +kernel
theorem dX2_woken_94 : decode cX2_woken 94 = .ok (.ireturn, 1) := by decide +kernel
theorem dX2_light_0 : decode cX2_light 0 = .ok (.iconst 0, 1) := by decide +kernel
theorem dX2_light_1 : decode cX2_light 1 = .ok (.istore_n 3, 1) := by decide +kernel
theorem dX2_light_2 : decode cX2_light 2 = .ok (.iload_n 3, 1) := by decide +kernel
theorem dX2_light_3 : decode cX2_light 3 = .ok (.bipush 10, 2) := by decide +kernel
theorem dX2_light_5 : decode cX2_light 5 = .ok (.if_icmp .ge 37, 3) := by decide +kernel
theorem dX2_light_8 : decode cX2_light 8 = .ok (.iload_n 1, 1) := by decide +kernel
theorem dX2_light_9 : decode cX2_light 9 = .ok (.iload_n 3, 1) := by decide +kernel
theorem dX2_light_10 : decode cX2_light 10 = .ok (.ishr, 1) := by decide +kernel
theorem dX2_light_11 : decode cX2_light 11 = .ok (.iconst 1, 1) := by decide +kernel
theorem dX2_light_12 : decode cX2_light 12 = .ok (.iand, 1) := by decide +kernel
theorem dX2_light_13 : decode cX2_light 13 = .ok (.ifCond .eq 23, 3) := by decide +kernel
theorem dX2_light_16 : decode cX2_light 16 = .ok (.aload_n 0, 1) := by decide +kernel
theorem dX2_light_17 : decode cX2_light 17 = .ok (.getfield 15, 3) := by decide +kernel
theorem dX2_light_20 : decode cX2_light 20 = .ok (.iload_n 3, 1) := by decide +kernel
theorem dX2_light_21 : decode cX2_light 21 = .ok (.aload_n 0, 1) := by decide +kernel
theorem dX2_light_22 : decode cX2_light 22 = .ok (.getfield 24, 3) := by decide +kernel
theorem dX2_light_25 : decode cX2_light 25 = .ok (.getfield 80, 3) := by decide +kernel
theorem dX2_light_28 : decode cX2_light 28 = .ok (.iastore, 1) := by decide +kernel
theorem dX2_light_29 : decode cX2_light 29 = .ok (.aload_n 0, 1) := by decide +kernel
theorem dX2_light_30 : decode cX2_light 30 = .ok (.getfield 21, 3) := by decide +kernel
theorem dX2_light_33 : decode cX2_light 33 = .ok (.iload_n 3, 1) := by decide +kernel
theorem dX2_light_34 : decode cX2_light 34 = .ok (.iload_n 2, 1) := by decide +kernel
theorem dX2_light_35 : decode cX2_light 35 = .ok (.iastore, 1) := by decide +kernel
theorem dX2_light_36 : decode cX2_light 36 = .ok (.iinc 3 1, 3) := by decide +kernel
theorem dX2_light_39 : decode cX2_light 39 = .ok (.goto (-37), 3) := by decide +kernel
theorem dX2_light_42 : decode cX2_light 42 = .ok (.return_, 1) := by decide +kernel
theorem dX2_passMinute_0 : decode cX2_passMinute 0 = .ok (.iconst 0, 1) := by decide +kernel
theorem dX2_passMinute_1 : decode cX2_passMinute 1 = .ok (.istore_n 2, 1) := by decide +kernel
theorem dX2_passMinute_2 : decode cX2_passMinute 2 = .ok (.iload_n 2, 1) := by decide +kernel
theorem dX2_passMinute_3 : decode cX2_passMinute 3 = .ok (.aload_n 1, 1) := by decide +kernel
theorem dX2_passMinute_4 : decode cX2_passMinute 4 = .ok (.invokevirtual 83, 3) := by decide +kernel
theorem dX2_passMinute_7 : decode cX2_passMinute 7 = .ok (.if_icmp .ge 72, 3) := by decide +kernel
theorem dX2_passMinute_10 : decode cX2_passMinute 10 = .ok (.aload_n 1, 1) := by decide +kernel
theorem dX2_passMinute_11 : decode cX2_passMinute 11 = .ok (.getfield 88, 3) := by decide +kernel
theorem dX2_passMinute_14 : decode cX2_passMinute 14 = .ok (.iload_n 2, 1) := by decide +kernel
theorem dX2_passMinute_15 : decode cX2_passMinute 15 = .ok (.invokevirtual 34, 3) := by decide +kernel
theorem dX2_passMinute_18 : decode cX2_passMinute 18 = .ok (.aload_n 0, 1) := by decide +kernel
theorem dX2_passMinute_19 : decode cX2_passMinute 19 = .ok (.getfield 50, 3) := by decide +kernel
theorem dX2_passMinute_22 : decode cX2_passMinute 22 = .ok (.if_icmp .ne 51, 3) := by decide +kernel
theorem dX2_passMinute_25 : decode cX2_passMinute 25 = .ok (.aload_n 1, 1) := by decide +kernel
theorem dX2_passMinute_26 : decode cX2_passMinute 26 = .ok (.getfield 90, 3) := by decide +kernel
theorem dX2_passMinute_29 : decode cX2_passMinute 29 = .ok (.iload_n 2, 1) := by decide +kernel
theorem dX2_passMinute_30 : decode cX2_passMinute 30 = .ok (.invokevirtual 34, 3) := by decide +kernel
theorem dX2_passMinute_33 : decode cX2_passMinute 33 = .ok (.istore_n 3, 1) := by decide +kernel
theorem dX2_passMinute_34 : decode cX2_passMinute 34 = .ok (.aload_n 0, 1) := by decide +kernel
theorem dX2_passMinute_35 : decode cX2_passMinute 35 = .ok (.aload_n 0, 1) := by decide +kernel
theorem dX2_passMinute_36 : decode cX2_passMinute 36 = .ok (.aload_n 0, 1) := by decide +kernel
theorem dX2_passMinute_37 : decode cX2_passMinute 37 = .ok (.getfield 24, 3) := by decide +kernel
theorem dX2_passMinute_40 : decode cX2_passMinute 40 = .ok (.getfield 93, 3) := by decide +kernel
theorem dX2_passMinute_43 : decode cX2_passMinute 43 = .ok (.iload_n 3, 1) := by decide +kernel
theorem dX2_passMinute_44 : decode cX2_passMinute 44 = .ok (.invokevirtual 34, 3) := by decide +kernel
theorem dX2_passMinute_47 : decode cX2_passMinute 47 = .ok (.aload_n 1, 1) := by decide +kernel
theorem dX2_passMinute_48 : decode cX2_passMinute 48 = .ok (.getfield 96, 3) := by decide +kernel
theorem dX2_passMinute_51 : decode cX2_passMinute 51 = .ok (.iload_n 2, 1) := by decide +kernel
theorem dX2_passMinute_52 : decode cX2_passMinute 52 = .ok (.invokevirtual 34, 3) := by decide +kernel
theorem dX2_passMinute_55 : decode cX2_passMinute 55 = .ok (.aload_n 0, 1) := by decide +kernel
theorem dX2_passMinute_56 : decode cX2_passMinute 56 = .ok (.getfield 24, 3) := by decide +kernel
theorem dX2_passMinute_59 : decode cX2_passMinute 59 = .ok (.getfield 98, 3) := by decide +kernel
theorem dX2_passMinute_62 : decode cX2_passMinute 62 = .ok (.iload_n 3, 1) := by decide +kernel
theorem dX2_passMinute_63 : decode cX2_passMinute 63 = .ok (.invokevirtual 34, 3) := by decide +kernel
theorem dX2_passMinute_66 : decode cX2_passMinute 66 = .ok (.invokevirtual 101, 3) := by decide +kernel
theorem dX2_passMinute_69 : decode cX2_passMinute 69 = .ok (.iload_n 3, 1) := by decide +kernel
theorem dX2_passMinute_70 : decode cX2_passMinute 70 = .ok (.invokevirtual 105, 3) := by decide +kernel
theorem dX2_passMinute_73 : decode cX2_passMinute 73 = .ok (.iinc 2 1, 3) := by decide +kernel
theorem dX2_passMinute_76 : decode cX2_passMinute 76 = .ok (.goto (-74), 3) := by decide +kernel
theorem dX2_passMinute_79 : decode cX2_passMinute 79 = .ok (.aload_n 0, 1) := by decide +kernel
theorem dX2_passMinute_80 : decode cX2_passMinute 80 = .ok (.getfield 44, 3) := by decide +kernel
theorem dX2_passMinute_83 : decode cX2_passMinute 83 = .ok (.ifCond .le 33, 3) := by decide +kernel
theorem dX2_passMinute_86 : decode cX2_passMinute 86 = .ok (.aload_n 0, 1) := by decide +kernel
theorem dX2_passMinute_87 : decode cX2_passMinute 87 = .ok (.bipush 50, 2) := by decide +kernel
theorem dX2_passMinute_89 : decode cX2_passMinute 89 = .ok (.invokevirtual 109, 3) := by decide +kernel
theorem dX2_passMinute_92 : decode cX2_passMinute 92 = .ok (.istore_n 2, 1) := by decide +kernel
theorem dX2_passMinute_93 : decode cX2_passMinute 93 = .ok (.aload_n 0, 1) := by decide +kernel
theorem dX2_passMinute_94 : decode cX2_passMinute 94 = .ok (.bipush 64, 2) := by decide +kernel
theorem dX2_passMinute_96 : decode cX2_passMinute 96 = .ok (.invokevirtual 109, 3) := by decide +kernel
theorem dX2_passMinute_99 : decode cX2_passMinute 99 = .ok (.istore_n 3, 1) := by decide +kernel
theorem dX2_passMinute_100 : decode cX2_passMinute 100 = .ok (.aload_n 0, 1) := by decide +kernel
theorem dX2_passMinute_101 : decode cX2_passMinute 101 = .ok (.aload_n 0, 1) := by decide +kernel
theorem dX2_passMinute_102 : decode cX2_passMinute 102 = .ok (.iload_n 2, 1) := by decide +kernel
theorem dX2_passMinute_103 : decode cX2_passMinute 103 = .ok (.iload_n 3, 1) := by decide +kernel
theorem dX2_passMinute_104 : decode cX2_passMinute 104 = .ok (.aload_n 0, 1) := by decide +kernel
theorem dX2_passMinute_105 : decode cX2_passMinute 105 = .ok (.getfield 44, 3) := by decide +kernel
theorem dX2_passMinute_108 : decode cX2_passMinute 108 = .ok (.invokevirtual 101, 3) := by decide +kernel
theorem dX2_passMinute_111 : decode cX2_passMinute 111 = .ok (.bipush (-2), 2) := by decide +kernel
theorem dX2_passMinute_113 : decode cX2_passMinute 113 = .ok (.invokevirtual 105, 3) := by decide +kernel
theorem dX2_passMinute_116 : decode cX2_passMinute 116 = .ok (.aload_n 0, 1) := by decide +kernel
theorem dX2_passMinute_117 : decode cX2_passMinute 117 = .ok (.invokevirtual 112, 3) := by decide +kernel
theorem dX2_passMinute_120 : decode cX2_passMinute 120 = .ok (.aload_n 0, 1) := by decide +kernel
theorem dX2_passMinute_121 : decode cX2_passMinute 121 = .ok (.dup, 1) := by decide +kernel
theorem dX2_passMinute_122 : decode cX2_passMinute 122 = .ok (.getfield 50, 3) := by decide +kernel
theorem dX2_passMinute_125 : decode cX2_passMinute 125 = .ok (.iconst 1, 1) := by decide +kernel
theorem dX2_passMinute_126 : decode cX2_passMinute 126 = .ok (.iadd, 1) := by decide +kernel
theorem dX2_passMinute_127 : decode cX2_passMinute 127 = .ok (.putfield 50, 3) := by decide +kernel
theorem dX2_passMinute_130 : decode cX2_passMinute 130 = .ok (.return_, 1) := by decide +kernel
theorem dX2_draw_0 : decode cX2_draw 0 = .ok (.aload_n 0, 1) := by decide +kernel
theorem dX2_draw_1 : decode cX2_draw 1 = .ok (.aload_n 0, 1) := by decide +kernel
theorem dX2_draw_2 : decode cX2_draw 2 = .ok (.getfield 53, 3) := by decide +kernel
theorem dX2_draw_5 : decode cX2_draw 5 = .ok (.ldc 115, 2) := by decide +kernel
theorem dX2_draw_7 : decode cX2_draw 7 = .ok (.imul, 1) := by decide +kernel
theorem dX2_draw_8 : decode cX2_draw 8 = .ok (.sipush 12345, 3) := by decide +kernel
theorem dX2_draw_11 : decode cX2_draw 11 = .ok (.iadd, 1) := by decide +kernel
theorem dX2_draw_12 : decode cX2_draw 12 = .ok (.ldc 116, 2) := by decide +kernel
theorem dX2_draw_14 : decode cX2_draw 14 = .ok (.iand, 1) := by decide +kernel
theorem dX2_draw_15 : decode cX2_draw 15 = .ok (.putfield 53, 3) := by decide +kernel
theorem dX2_draw_18 : decode cX2_draw 18 = .ok (.iload_n 1, 1) := by decide +kernel
theorem dX2_draw_19 : decode cX2_draw 19 = .ok (.ifCond .le 15, 3) := by decide +kernel
theorem dX2_draw_22 : decode cX2_draw 22 = .ok (.aload_n 0, 1) := by decide +kernel
theorem dX2_draw_23 : decode cX2_draw 23 = .ok (.getfield 53, 3) := by decide +kernel
theorem dX2_draw_26 : decode cX2_draw 26 = .ok (.ldc 117, 2) := by decide +kernel
theorem dX2_draw_28 : decode cX2_draw 28 = .ok (.idiv, 1) := by decide +kernel
theorem dX2_draw_29 : decode cX2_draw 29 = .ok (.iload_n 1, 1) := by decide +kernel
theorem dX2_draw_30 : decode cX2_draw 30 = .ok (.irem, 1) := by decide +kernel
theorem dX2_draw_31 : decode cX2_draw 31 = .ok (.goto 4, 3) := by decide +kernel
theorem dX2_draw_34 : decode cX2_draw 34 = .ok (.iconst 0, 1) := by decide +kernel
theorem dX2_draw_35 : decode cX2_draw 35 = .ok (.ireturn, 1) := by decide +kernel
theorem dX2_burnDown_0 : decode cX2_burnDown 0 = .ok (.iconst 0, 1) := by decide +kernel
theorem dX2_burnDown_1 : decode cX2_burnDown 1 = .ok (.istore_n 1, 1) := by decide +kernel
theorem dX2_burnDown_2 : decode cX2_burnDown 2 = .ok (.iload_n 1, 1) := by decide +kernel
theorem dX2_burnDown_3 : decode cX2_burnDown 3 = .ok (.bipush 10, 2) := by decide +kernel
theorem dX2_burnDown_5 : decode cX2_burnDown 5 = .ok (.if_icmp .ge 58, 3) := by decide +kernel
theorem dX2_burnDown_8 : decode cX2_burnDown 8 = .ok (.aload_n 0, 1) := by decide +kernel
theorem dX2_burnDown_9 : decode cX2_burnDown 9 = .ok (.getfield 15, 3) := by decide +kernel
theorem dX2_burnDown_12 : decode cX2_burnDown 12 = .ok (.iload_n 1, 1) := by decide +kernel
theorem dX2_burnDown_13 : decode cX2_burnDown 13 = .ok (.iaload, 1) := by decide +kernel
theorem dX2_burnDown_14 : decode cX2_burnDown 14 = .ok (.ifCond .le 13, 3) := by decide +kernel
theorem dX2_burnDown_17 : decode cX2_burnDown 17 = .ok (.aload_n 0, 1) := by decide +kernel
theorem dX2_burnDown_18 : decode cX2_burnDown 18 = .ok (.getfield 15, 3) := by decide +kernel
theorem dX2_burnDown_21 : decode cX2_burnDown 21 = .ok (.iload_n 1, 1) := by decide +kernel
theorem dX2_burnDown_22 : decode cX2_burnDown 22 = .ok (.dup2, 1) := by decide +kernel
theorem dX2_burnDown_23 : decode cX2_burnDown 23 = .ok (.iaload, 1) := by decide +kernel
theorem dX2_burnDown_24 : decode cX2_burnDown 24 = .ok (.iconst 1, 1) := by decide +kernel
theorem dX2_burnDown_25 : decode cX2_burnDown 25 = .ok (.isub, 1) := by decide +kernel
theorem dX2_burnDown_26 : decode cX2_burnDown 26 = .ok (.iastore, 1) := by decide +kernel
theorem dX2_burnDown_27 : decode cX2_burnDown 27 = .ok (.aload_n 0, 1) := by decide +kernel
theorem dX2_burnDown_28 : decode cX2_burnDown 28 = .ok (.getfield 15, 3) := by decide +kernel
theorem dX2_burnDown_31 : decode cX2_burnDown 31 = .ok (.iload_n 1, 1) := by decide +kernel
theorem dX2_burnDown_32 : decode cX2_burnDown 32 = .ok (.iaload, 1) := by decide +kernel
theorem dX2_burnDown_33 : decode cX2_burnDown 33 = .ok (.ifCond .le 24, 3) := by decide +kernel
theorem dX2_burnDown_36 : decode cX2_burnDown 36 = .ok (.aload_n 0, 1) := by decide +kernel
theorem dX2_burnDown_37 : decode cX2_burnDown 37 = .ok (.getfield 18, 3) := by decide +kernel
theorem dX2_burnDown_40 : decode cX2_burnDown 40 = .ok (.iload_n 1, 1) := by decide +kernel
theorem dX2_burnDown_41 : decode cX2_burnDown 41 = .ok (.iaload, 1) := by decide +kernel
theorem dX2_burnDown_42 : decode cX2_burnDown 42 = .ok (.bipush 99, 2) := by decide +kernel
theorem dX2_burnDown_44 : decode cX2_burnDown 44 = .ok (.if_icmp .ge 13, 3) := by decide +kernel
theorem dX2_burnDown_47 : decode cX2_burnDown 47 = .ok (.aload_n 0, 1) := by decide +kernel
theorem dX2_burnDown_48 : decode cX2_burnDown 48 = .ok (.getfield 18, 3) := by decide +kernel
theorem dX2_burnDown_51 : decode cX2_burnDown 51 = .ok (.iload_n 1, 1) := by decide +kernel
theorem dX2_burnDown_52 : decode cX2_burnDown 52 = .ok (.dup2, 1) := by decide +kernel
theorem dX2_burnDown_53 : decode cX2_burnDown 53 = .ok (.iaload, 1) := by decide +kernel
theorem dX2_burnDown_54 : decode cX2_burnDown 54 = .ok (.iconst 1, 1) := by decide +kernel
theorem dX2_burnDown_55 : decode cX2_burnDown 55 = .ok (.iadd, 1) := by decide +kernel
theorem dX2_burnDown_56 : decode cX2_burnDown 56 = .ok (.iastore, 1) := by decide +kernel
theorem dX2_burnDown_57 : decode cX2_burnDown 57 = .ok (.iinc 1 1, 3) := by decide +kernel
theorem dX2_burnDown_60 : decode cX2_burnDown 60 = .ok (.goto (-58), 3) := by decide +kernel
theorem dX2_burnDown_63 : decode cX2_burnDown 63 = .ok (.return_, 1) := by decide +kernel
theorem dX2_burning_0 : decode cX2_burning 0 = .ok (.iconst 0, 1) := by decide +kernel
theorem dX2_burning_1 : decode cX2_burning 1 = .ok (.istore_n 1, 1) := by decide +kernel
theorem dX2_burning_2 : decode cX2_burning 2 = .ok (.iconst 0, 1) := by decide +kernel
theorem dX2_burning_3 : decode cX2_burning 3 = .ok (.istore_n 2, 1) := by decide +kernel
theorem dX2_burning_4 : decode cX2_burning 4 = .ok (.iload_n 2, 1) := by decide +kernel
theorem dX2_burning_5 : decode cX2_burning 5 = .ok (.bipush 10, 2) := by decide +kernel
theorem dX2_burning_7 : decode cX2_burning 7 = .ok (.if_icmp .ge 24, 3) := by decide +kernel
theorem dX2_burning_10 : decode cX2_burning 10 = .ok (.aload_n 0, 1) := by decide +kernel
theorem dX2_burning_11 : decode cX2_burning 11 = .ok (.getfield 15, 3) := by decide +kernel
theorem dX2_burning_14 : decode cX2_burning 14 = .ok (.iload_n 2, 1) := by decide +kernel
theorem dX2_burning_15 : decode cX2_burning 15 = .ok (.iaload, 1) := by decide +kernel
theorem dX2_burning_16 : decode cX2_burning 16 = .ok (.ifCond .le 9, 3) := by decide +kernel
theorem dX2_burning_19 : decode cX2_burning 19 = .ok (.iload_n 1, 1) := by decide +kernel
theorem dX2_burning_20 : decode cX2_burning 20 = .ok (.iconst 1, 1) := by decide +kernel
theorem dX2_burning_21 : decode cX2_burning 21 = .ok (.iload_n 2, 1) := by decide +kernel
theorem dX2_burning_22 : decode cX2_burning 22 = .ok (.ishl, 1) := by decide +kernel
theorem dX2_burning_23 : decode cX2_burning 23 = .ok (.ior, 1) := by decide +kernel
theorem dX2_burning_24 : decode cX2_burning 24 = .ok (.istore_n 1, 1) := by decide +kernel
theorem dX2_burning_25 : decode cX2_burning 25 = .ok (.iinc 2 1, 3) := by decide +kernel
theorem dX2_burning_28 : decode cX2_burning 28 = .ok (.goto (-24), 3) := by decide +kernel
theorem dX2_burning_31 : decode cX2_burning 31 = .ok (.iload_n 1, 1) := by decide +kernel
theorem dX2_burning_32 : decode cX2_burning 32 = .ok (.ireturn, 1) := by decide +kernel
theorem dX2_seen_0 : decode cX2_seen 0 = .ok (.iconst 0, 1) := by decide +kernel
theorem dX2_seen_1 : decode cX2_seen 1 = .ok (.istore_n 1, 1) := by decide +kernel
theorem dX2_seen_2 : decode cX2_seen 2 = .ok (.iconst 0, 1) := by decide +kernel
theorem dX2_seen_3 : decode cX2_seen 3 = .ok (.istore_n 2, 1) := by decide +kernel
theorem dX2_seen_4 : decode cX2_seen 4 = .ok (.iload_n 2, 1) := by decide +kernel
theorem dX2_seen_5 : decode cX2_seen 5 = .ok (.bipush 10, 2) := by decide +kernel
theorem dX2_seen_7 : decode cX2_seen 7 = .ok (.if_icmp .ge 40, 3) := by decide +kernel
theorem dX2_seen_10 : decode cX2_seen 10 = .ok (.aload_n 0, 1) := by decide +kernel
theorem dX2_seen_11 : decode cX2_seen 11 = .ok (.getfield 15, 3) := by decide +kernel
theorem dX2_seen_14 : decode cX2_seen 14 = .ok (.iload_n 2, 1) := by decide +kernel
theorem dX2_seen_15 : decode cX2_seen 15 = .ok (.iaload, 1) := by decide +kernel
theorem dX2_seen_16 : decode cX2_seen 16 = .ok (.ifCond .le 25, 3) := by decide +kernel
theorem dX2_seen_19 : decode cX2_seen 19 = .ok (.aload_n 0, 1) := by decide +kernel
theorem dX2_seen_20 : decode cX2_seen 20 = .ok (.getfield 18, 3) := by decide +kernel
theorem dX2_seen_23 : decode cX2_seen 23 = .ok (.iload_n 2, 1) := by decide +kernel
theorem dX2_seen_24 : decode cX2_seen 24 = .ok (.iaload, 1) := by decide +kernel
theorem dX2_seen_25 : decode cX2_seen 25 = .ok (.aload_n 0, 1) := by decide +kernel
theorem dX2_seen_26 : decode cX2_seen 26 = .ok (.getfield 24, 3) := by decide +kernel
theorem dX2_seen_29 : decode cX2_seen 29 = .ok (.getfield 118, 3) := by decide +kernel
theorem dX2_seen_32 : decode cX2_seen 32 = .ok (.if_icmp .ge 9, 3) := by decide +kernel
theorem dX2_seen_35 : decode cX2_seen 35 = .ok (.iload_n 1, 1) := by decide +kernel
theorem dX2_seen_36 : decode cX2_seen 36 = .ok (.iconst 1, 1) := by decide +kernel
theorem dX2_seen_37 : decode cX2_seen 37 = .ok (.iload_n 2, 1) := by decide +kernel
theorem dX2_seen_38 : decode cX2_seen 38 = .ok (.ishl, 1) := by decide +kernel
theorem dX2_seen_39 : decode cX2_seen 39 = .ok (.ior, 1) := by decide +kernel
theorem dX2_seen_40 : decode cX2_seen 40 = .ok (.istore_n 1, 1) := by decide +kernel
theorem dX2_seen_41 : decode cX2_seen 41 = .ok (.iinc 2 1, 3) := by decide +kernel
theorem dX2_seen_44 : decode cX2_seen 44 = .ok (.goto (-40), 3) := by decide +kernel
theorem dX2_seen_47 : decode cX2_seen 47 = .ok (.iload_n 1, 1) := by decide +kernel
theorem dX2_seen_48 : decode cX2_seen 48 = .ok (.ireturn, 1) := by decide +kernel
theorem dX3_init_0 : decode cX3_init 0 = .ok (.aload_n 0, 1) := by decide +kernel
theorem dX3_init_1 : decode cX3_init 1 = .ok (.invokespecial 3, 3) := by decide +kernel
theorem dX3_init_4 : decode cX3_init 4 = .ok (.aload_n 0, 1) := by decide +kernel
theorem dX3_init_5 : decode cX3_init 5 = .ok (.iconst (-1), 1) := by decide +kernel
theorem dX3_init_6 : decode cX3_init 6 = .ok (.putfield 9, 3) := by decide +kernel
theorem dX3_init_9 : decode cX3_init 9 = .ok (.aload_n 0, 1) := by decide +kernel
theorem dX3_init_10 : decode cX3_init 10 = .ok (.aload_n 1, 1) := by decide +kernel
theorem dX3_init_11 : decode cX3_init 11 = .ok (.putfield 15, 3) := by decide +kernel
theorem dX3_init_14 : decode cX3_init 14 = .ok (.return_, 1) := by decide +kernel
theorem dX3_start_0 : decode cX3_start 0 = .ok (.aload_n 0, 1) := by decide +kernel
theorem dX3_start_1 : decode cX3_start 1 = .ok (.iconst 0, 1) := by decide +kernel
theorem dX3_start_2 : decode cX3_start 2 = .ok (.putfield 19, 3) := by decide +kernel
theorem dX3_start_5 : decode cX3_start 5 = .ok (.aload_n 0, 1) := by decide +kernel
theorem dX3_start_6 : decode cX3_start 6 = .ok (.iconst 0, 1) := by decide +kernel
theorem dX3_start_7 : decode cX3_start 7 = .ok (.putfield 22, 3) := by decide +kernel
theorem dX3_start_10 : decode cX3_start 10 = .ok (.aload_n 0, 1) := by decide +kernel
theorem dX3_start_11 : decode cX3_start 11 = .ok (.iconst (-1), 1) := by decide +kernel
theorem dX3_start_12 : decode cX3_start 12 = .ok (.putfield 9, 3) := by decide +kernel
theorem dX3_start_15 : decode cX3_start 15 = .ok (.return_, 1) := by decide +kernel
theorem dX3_hasFault_0 : decode cX3_hasFault 0 = .ok (.aload_n 0, 1) := by decide +kernel
theorem dX3_hasFault_1 : decode cX3_hasFault 1 = .ok (.getfield 22, 3) := by decide +kernel
theorem dX3_hasFault_4 : decode cX3_hasFault 4 = .ok (.ifCond .eq 7, 3) := by decide +kernel
theorem dX3_hasFault_7 : decode cX3_hasFault 7 = .ok (.iconst 1, 1) := by decide +kernel
theorem dX3_hasFault_8 : decode cX3_hasFault 8 = .ok (.goto 4, 3) := by decide +kernel
theorem dX3_hasFault_11 : decode cX3_hasFault 11 = .ok (.iconst 0, 1) := by decide +kernel
theorem dX3_hasFault_12 : decode cX3_hasFault 12 = .ok (.ireturn, 1) := by decide +kernel
theorem dX3_fail_0 : decode cX3_fail 0 = .ok (.aload_n 0, 1) := by decide +kernel
theorem dX3_fail_1 : decode cX3_fail 1 = .ok (.getfield 22, 3) := by decide +kernel
theorem dX3_fail_4 : decode cX3_fail 4 = .ok (.ifCond .ne 13, 3) := by decide +kernel
theorem dX3_fail_7 : decode cX3_fail 7 = .ok (.aload_n 0, 1) := by decide +kernel
theorem dX3_fail_8 : decode cX3_fail 8 = .ok (.iload_n 1, 1) := by decide +kernel
theorem dX3_fail_9 : decode cX3_fail 9 = .ok (.putfield 22, 3) := by decide +kernel
theorem dX3_fail_12 : decode cX3_fail 12 = .ok (.aload_n 0, 1) := by decide +kernel
theorem dX3_fail_13 : decode cX3_fail 13 = .ok (.iload_n 2, 1) := by decide +kernel
theorem dX3_fail_14 : decode cX3_fail 14 = .ok (.putfield 9, 3) := by decide +kernel
theorem dX3_fail_17 : decode cX3_fail 17 = .ok (.return_, 1) := by decide +kernel
theorem dX3_failAtWord_0 : decode cX3_failAtWord 0 = .ok (.aload_n 0, 1) := by decide +kernel
theorem dX3_failAtWord_1 : decode cX3_failAtWord 1 = .ok (.iload_n 1, 1) := by decide +kernel
theorem dX3_failAtWord_2 : decode cX3_failAtWord 2 = .ok (.aload_n 0, 1) := by decide +kernel
theorem dX3_failAtWord_3 : decode cX3_failAtWord 3 = .ok (.getfield 25, 3) := by decide +kernel
theorem dX3_failAtWord_6 : decode cX3_failAtWord 6 = .ok (.invokevirtual 28, 3) := by decide +kernel
theorem dX3_failAtWord_9 : decode cX3_failAtWord 9 = .ok (.return_, 1) := by decide +kernel
theorem dX3_failAtNumber_0 : decode cX3_failAtNumber 0 = .ok (.aload_n 0, 1) := by decide +kernel
theorem dX3_failAtNumber_1 : decode cX3_failAtNumber 1 = .ok (.iload_n 1, 1) := by decide +kernel
theorem dX3_failAtNumber_2 : decode cX3_failAtNumber 2 = .ok (.aload_n 0, 1) := by decide +kernel
theorem dX3_failAtNumber_3 : decode cX3_failAtNumber 3 = .ok (.getfield 32, 3) := by decide +kernel
theorem dX3_failAtNumber_6 : decode cX3_failAtNumber 6 = .ok (.invokevirtual 28, 3) := by decide +kernel
theorem dX3_failAtNumber_9 : decode cX3_failAtNumber 9 = .ok (.return_, 1) := by decide +kernel
theorem dX3_hasMore_0 : decode cX3_hasMore 0 = .ok (.aload_n 0, 1) := by decide +kernel
theorem dX3_hasMore_1 : decode cX3_hasMore 1 = .ok (.invokevirtual 35, 3) := by decide +kernel
theorem dX3_hasMore_4 : decode cX3_hasMore 4 = .ok (.aload_n 0, 1) := by decide +kernel
theorem dX3_hasMore_5 : decode cX3_hasMore 5 = .ok (.invokevirtual 38, 3) := by decide +kernel
theorem dX3_hasMore_8 : decode cX3_hasMore 8 = .ok (.ifCond .ne 21, 3) := by decide +kernel
theorem dX3_hasMore_11 : decode cX3_hasMore 11 = .ok (.aload_n 0, 1) := by decide +kernel
theorem dX3_hasMore_12 : decode cX3_hasMore 12 = .ok (.getfield 19, 3) := by decide +kernel
theorem dX3_hasMore_15 : decode cX3_hasMore 15 = .ok (.aload_n 0, 1) := by decide +kernel
theorem dX3_hasMore_16 : decode cX3_hasMore 16 = .ok (.getfield 15, 3) := by decide +kernel
theorem dX3_hasMore_19 : decode cX3_hasMore 19 = .ok (.invokevirtual 42, 3) := by decide +kernel
theorem dX3_hasMore_22 : decode cX3_hasMore 22 = .ok (.if_icmp .ge 7, 3) := by decide +kernel
theorem dX3_hasMore_25 : decode cX3_hasMore 25 = .ok (.iconst 1, 1) := by decide +kernel
theorem dX3_hasMore_26 : decode cX3_hasMore 26 = .ok (.goto 4, 3) := by decide +kernel
theorem dX3_hasMore_29 : decode cX3_hasMore 29 = .ok (.iconst 0, 1) := by decide +kernel
theorem dX3_hasMore_30 : decode cX3_hasMore 30 = .ok (.ireturn, 1) := by decide +kernel
theorem dX3_skipBlanks_0 : decode cX3_skipBlanks 0 = .ok (.aload_n 0, 1) := by decide +kernel
theorem dX3_skipBlanks_1 : decode cX3_skipBlanks 1 = .ok (.getfield 19, 3) := by decide +kernel
theorem dX3_skipBlanks_4 : decode cX3_skipBlanks 4 = .ok (.aload_n 0, 1) := by decide +kernel
theorem dX3_skipBlanks_5 : decode cX3_skipBlanks 5 = .ok (.getfield 15, 3) := by decide +kernel
theorem dX3_skipBlanks_8 : decode cX3_skipBlanks 8 = .ok (.invokevirtual 42, 3) := by decide +kernel
theorem dX3_skipBlanks_11 : decode cX3_skipBlanks 11 = .ok (.if_icmp .ge 32, 3) := by decide +kernel
theorem dX3_skipBlanks_14 : decode cX3_skipBlanks 14 = .ok (.aload_n 0, 1) := by decide +kernel
theorem dX3_skipBlanks_15 : decode cX3_skipBlanks 15 = .ok (.getfield 15, 3) := by decide +kernel
theorem dX3_skipBlanks_18 : decode cX3_skipBlanks 18 = .ok (.aload_n 0, 1) := by decide +kernel
theorem dX3_skipBlanks_19 : decode cX3_skipBlanks 19 = .ok (.getfield 19, 3) := by decide +kernel
theorem dX3_skipBlanks_22 : decode cX3_skipBlanks 22 = .ok (.invokevirtual 48, 3) := by decide +kernel
theorem dX3_skipBlanks_25 : decode cX3_skipBlanks 25 = .ok (.bipush 32, 2) := by decide +kernel
theorem dX3_skipBlanks_27 : decode cX3_skipBlanks 27 = .ok (.if_icmp .ne 16, 3) := by decide +kernel
theorem dX3_skipBlanks_30 : decode cX3_skipBlanks 30 = .ok (.aload_n 0, 1) := by decide +kernel
theorem dX3_skipBlanks_31 : decode cX3_skipBlanks 31 = .ok (.dup, 1) := by decide +kernel
theorem dX3_skipBlanks_32 : decode cX3_skipBlanks 32 = .ok (.getfield 19, 3) := by decide +kernel
theorem dX3_skipBlanks_35 : decode cX3_skipBlanks 35 = .ok (.iconst 1, 1) := by decide +kernel
theorem dX3_skipBlanks_36 : decode cX3_skipBlanks 36 = .ok (.iadd, 1) := by decide +kernel
theorem dX3_skipBlanks_37 : decode cX3_skipBlanks 37 = .ok (.putfield 19, 3) := by decide +kernel
theorem dX3_skipBlanks_40 : decode cX3_skipBlanks 40 = .ok (.goto (-40), 3) := by decide +kernel
theorem dX3_skipBlanks_43 : decode cX3_skipBlanks 43 = .ok (.return_, 1) := by decide +kernel
theorem dX3_readWord_0 : decode cX3_readWord 0 = .ok (.aload_n 0, 1) := by decide +kernel
theorem dX3_readWord_1 : decode cX3_readWord 1 = .ok (.invokevirtual 35, 3) := by decide +kernel
theorem dX3_readWord_4 : decode cX3_readWord 4 = .ok (.aload_n 0, 1) := by decide +kernel
theorem dX3_readWord_5 : decode cX3_readWord 5 = .ok (.aload_n 0, 1) := by decide +kernel
theorem dX3_readWord_6 : decode cX3_readWord 6 = .ok (.getfield 19, 3) := by decide +kernel
theorem dX3_readWord_9 : decode cX3_readWord 9 = .ok (.putfield 25, 3) := by decide +kernel
theorem dX3_readWord_12 : decode cX3_readWord 12 = .ok (.aload_n 0, 1) := by decide +kernel
theorem dX3_readWord_13 : decode cX3_readWord 13 = .ok (.getfield 19, 3) := by decide +kernel
theorem dX3_readWord_16 : decode cX3_readWord 16 = .ok (.aload_n 0, 1) := by decide +kernel
theorem dX3_readWord_17 : decode cX3_readWord 17 = .ok (.getfield 15, 3) := by decide +kernel
theorem dX3_readWord_20 : decode cX3_readWord 20 = .ok (.invokevirtual 42, 3) := by decide +kernel
theorem dX3_readWord_23 : decode cX3_readWord 23 = .ok (.if_icmp .ge 37, 3) := by decide +kernel
theorem dX3_readWord_26 : decode cX3_readWord 26 = .ok (.aload_n 0, 1) := by decide +kernel
theorem dX3_readWord_27 : decode cX3_readWord 27 = .ok (.getfield 15, 3) := by decide +kernel
theorem dX3_readWord_30 : decode cX3_readWord 30 = .ok (.aload_n 0, 1) := by decide +kernel
theorem dX3_readWord_31 : decode cX3_readWord 31 = .ok (.getfield 19, 3) := by decide +kernel
theorem dX3_readWord_34 : decode cX3_readWord 34 = .ok (.invokevirtual 48, 3) := by decide +kernel
theorem dX3_readWord_37 : decode cX3_readWord 37 = .ok (.bipush 97, 2) := by decide +kernel
theorem dX3_readWord_39 : decode cX3_readWord 39 = .ok (.bipush 122, 2) := by decide +kernel
theorem dX3_readWord_41 : decode cX3_readWord 41 = .ok (.invokestatic 52, 3) := by decide +kernel
theorem dX3_readWord_44 : decode cX3_readWord 44 = .ok (.ifCond .eq 16, 3) := by decide +kernel
theorem dX3_readWord_47 : decode cX3_readWord 47 = .ok (.aload_n 0, 1) := by decide +kernel
theorem dX3_readWord_48 : decode cX3_readWord 48 = .ok (.dup, 1) := by decide +kernel
theorem dX3_readWord_49 : decode cX3_readWord 49 = .ok (.getfield 19, 3) := by decide +kernel
theorem dX3_readWord_52 : decode cX3_readWord 52 = .ok (.iconst 1, 1) := by decide +kernel
theorem dX3_readWord_53 : decode cX3_readWord 53 = .ok (.iadd, 1) := by decide +kernel
theorem dX3_readWord_54 : decode cX3_readWord 54 = .ok (.putfield 19, 3) := by decide +kernel
theorem dX3_readWord_57 : decode cX3_readWord 57 = .ok (.goto (-45), 3) := by decide +kernel
theorem dX3_readWord_60 : decode cX3_readWord 60 = .ok (.return_, 1) := by decide +kernel
theorem dX3_wordIs_0 : decode cX3_wordIs 0 = .ok (.aload_n 0, 1) := by decide +kernel
theorem dX3_wordIs_1 : decode cX3_wordIs 1 = .ok (.getfield 19, 3) := by decide +kernel
theorem dX3_wordIs_4 : decode cX3_wordIs 4 = .ok (.aload_n 0, 1) := by decide +kernel
theorem dX3_wordIs_5 : decode cX3_wordIs 5 = .ok (.getfield 25, 3) := by decide +kernel
theorem dX3_wordIs_8 : decode cX3_wordIs 8 = .ok (.isub, 1) := by decide +kernel
theorem dX3_wordIs_9 : decode cX3_wordIs 9 = .ok (.aload_n 1, 1) := by decide +kernel
theorem dX3_wordIs_10 : decode cX3_wordIs 10 = .ok (.invokevirtual 56, 3) := by decide +kernel
theorem dX3_wordIs_13 : decode cX3_wordIs 13 = .ok (.if_icmp .eq 5, 3) := by decide +kernel
theorem dX3_wordIs_16 : decode cX3_wordIs 16 = .ok (.iconst 0, 1) := by decide +kernel
theorem dX3_wordIs_17 : decode cX3_wordIs 17 = .ok (.ireturn, 1) := by decide +kernel
theorem dX3_wordIs_18 : decode cX3_wordIs 18 = .ok (.iconst 0, 1) := by decide +kernel
theorem dX3_wordIs_19 : decode cX3_wordIs 19 = .ok (.istore_n 2, 1) := by decide +kernel
theorem dX3_wordIs_20 : decode cX3_wordIs 20 = .ok (.iload_n 2, 1) := by decide +kernel
theorem dX3_wordIs_21 : decode cX3_wordIs 21 = .ok (.aload_n 1, 1) := by decide +kernel
theorem dX3_wordIs_22 : decode cX3_wordIs 22 = .ok (.invokevirtual 56, 3) := by decide +kernel
theorem dX3_wordIs_25 : decode cX3_wordIs 25 = .ok (.if_icmp .ge 32, 3) := by decide +kernel
theorem dX3_wordIs_28 : decode cX3_wordIs 28 = .ok (.aload_n 0, 1) := by decide +kernel
theorem dX3_wordIs_29 : decode cX3_wordIs 29 = .ok (.getfield 15, 3) := by decide +kernel
theorem dX3_wordIs_32 : decode cX3_wordIs 32 = .ok (.aload_n 0, 1) := by decide +kernel
theorem dX3_wordIs_33 : decode cX3_wordIs 33 = .ok (.getfield 25, 3) := by decide +kernel
theorem dX3_wordIs_36 : decode cX3_wordIs 36 = .ok (.iload_n 2, 1) := by decide +kernel
theorem dX3_wordIs_37 : decode cX3_wordIs 37 = .ok (.iadd, 1) := by decide +kernel
theorem dX3_wordIs_38 : decode cX3_wordIs 38 = .ok (.invokevirtual 48, 3) := by decide +kernel
theorem dX3_wordIs_41 : decode cX3_wordIs 41 = .ok (.aload_n 1, 1) := by decide +kernel
theorem dX3_wordIs_42 : decode cX3_wordIs 42 = .ok (.iload_n 2, 1) := by decide +kernel
theorem dX3_wordIs_43 : decode cX3_wordIs 43 = .ok (.invokevirtual 61, 3) := by decide +kernel
theorem dX3_wordIs_46 : decode cX3_wordIs 46 = .ok (.if_icmp .eq 5, 3) := by decide +kernel
theorem dX3_wordIs_49 : decode cX3_wordIs 49 = .ok (.iconst 0, 1) := by decide +kernel
theorem dX3_wordIs_50 : decode cX3_wordIs 50 = .ok (.ireturn, 1) := by decide +kernel
theorem dX3_wordIs_51 : decode cX3_wordIs 51 = .ok (.iinc 2 1, 3) := by decide +kernel
theorem dX3_wordIs_54 : decode cX3_wordIs 54 = .ok (.goto (-34), 3) := by decide +kernel
theorem dX3_wordIs_57 : decode cX3_wordIs 57 = .ok (.iconst 1, 1) := by decide +kernel
theorem dX3_wordIs_58 : decode cX3_wordIs 58 = .ok (.ireturn, 1) := by decide +kernel
theorem dX3_readNumber_0 : decode cX3_readNumber 0 = .ok (.aload_n 0, 1) := by decide +kernel
theorem dX3_readNumber_1 : decode cX3_readNumber 1 = .ok (.invokevirtual 35, 3) := by decide +kernel
theorem dX3_readNumber_4 : decode cX3_readNumber 4 = .ok (.aload_n 0, 1) := by decide +kernel
theorem dX3_readNumber_5 : decode cX3_readNumber 5 = .ok (.aload_n 0, 1) := by decide +kernel
theorem dX3_readNumber_6 : decode cX3_readNumber 6 = .ok (.getfield 19, 3) := by decide +kernel
theorem dX3_readNumber_9 : decode cX3_readNumber 9 = .ok (.putfield 32, 3) := by decide +kernel
theorem dX3_readNumber_12 : decode cX3_readNumber 12 = .ok (.iconst 0, 1) := by decide +kernel
theorem dX3_readNumber_13 : decode cX3_readNumber 13 = .ok (.istore_n 3, 1) := by decide +kernel
theorem dX3_readNumber_14 : decode cX3_readNumber 14 = .ok (.aload_n 0, 1) := by decide +kernel
theorem dX3_readNumber_15 : decode cX3_readNumber 15 = .ok (.getfield 19, 3) := by decide +kernel
theorem dX3_readNumber_18 : decode cX3_readNumber 18 = .ok (.aload_n 0, 1) := by decide +kernel
theorem dX3_readNumber_19 : decode cX3_readNumber 19 = .ok (.getfield 15, 3) := by decide +kernel
theorem dX3_readNumber_22 : decode cX3_readNumber 22 = .ok (.invokevirtual 42, 3) := by decide +kernel
theorem dX3_readNumber_25 : decode cX3_readNumber 25 = .ok (.if_icmp .ge 70, 3) := by decide +kernel
theorem dX3_readNumber_28 : decode cX3_readNumber 28 = .ok (.aload_n 0, 1) := by decide +kernel
theorem dX3_readNumber_29 : decode cX3_readNumber 29 = .ok (.getfield 15, 3) := by decide +kernel
theorem dX3_readNumber_32 : decode cX3_readNumber 32 = .ok (.aload_n 0, 1) := by decide +kernel
theorem dX3_readNumber_33 : decode cX3_readNumber 33 = .ok (.getfield 19, 3) := by decide +kernel
theorem dX3_readNumber_36 : decode cX3_readNumber 36 = .ok (.invokevirtual 48, 3) := by decide +kernel
theorem dX3_readNumber_39 : decode cX3_readNumber 39 = .ok (.bipush 48, 2) := by decide +kernel
theorem dX3_readNumber_41 : decode cX3_readNumber 41 = .ok (.bipush 57, 2) := by decide +kernel
theorem dX3_readNumber_43 : decode cX3_readNumber 43 = .ok (.invokestatic 52, 3) := by decide +kernel
theorem dX3_readNumber_46 : decode cX3_readNumber 46 = .ok (.ifCond .eq 49, 3) := by decide +kernel
theorem dX3_readNumber_49 : decode cX3_readNumber 49 = .ok (.aload_n 0, 1) := by decide +kernel
theorem dX3_readNumber_50 : decode cX3_readNumber 50 = .ok (.getfield 19, 3) := by decide +kernel
theorem dX3_readNumber_53 : decode cX3_readNumber 53 = .ok (.aload_n 0, 1) := by decide +kernel
theorem dX3_readNumber_54 : decode cX3_readNumber 54 = .ok (.getfield 32, 3) := by decide +kernel
theorem dX3_readNumber_57 : decode cX3_readNumber 57 = .ok (.isub, 1) := by decide +kernel
theorem dX3_readNumber_58 : decode cX3_readNumber 58 = .ok (.iconst 3, 1) := by decide +kernel
theorem dX3_readNumber_59 : decode cX3_readNumber 59 = .ok (.if_icmp .ge 23, 3) := by decide +kernel
theorem dX3_readNumber_62 : decode cX3_readNumber 62 = .ok (.iload_n 3, 1) := by decide +kernel
theorem dX3_readNumber_63 : decode cX3_readNumber 63 = .ok (.bipush 10, 2) := by decide +kernel
theorem dX3_readNumber_65 : decode cX3_readNumber 65 = .ok (.imul, 1) := by decide +kernel
theorem dX3_readNumber_66 : decode cX3_readNumber 66 = .ok (.aload_n 0, 1) := by decide +kernel
theorem dX3_readNumber_67 : decode cX3_readNumber 67 = .ok (.getfield 15, 3) := by decide +kernel
theorem dX3_readNumber_70 : decode cX3_readNumber 70 = .ok (.aload_n 0, 1) := by decide +kernel
theorem dX3_readNumber_71 : decode cX3_readNumber 71 = .ok (.getfield 19, 3) := by decide +kernel
theorem dX3_readNumber_74 : decode cX3_readNumber 74 = .ok (.invokevirtual 48, 3) := by decide +kernel
theorem dX3_readNumber_77 : decode cX3_readNumber 77 = .ok (.iadd, 1) := by decide +kernel
theorem dX3_readNumber_78 : decode cX3_readNumber 78 = .ok (.bipush 48, 2) := by decide +kernel
theorem dX3_readNumber_80 : decode cX3_readNumber 80 = .ok (.isub, 1) := by decide +kernel
theorem dX3_readNumber_81 : decode cX3_readNumber 81 = .ok (.istore_n 3, 1) := by decide +kernel
theorem dX3_readNumber_82 : decode cX3_readNumber 82 = .ok (.aload_n 0, 1) := by decide +kernel
theorem dX3_readNumber_83 : decode cX3_readNumber 83 = .ok (.dup, 1) := by decide +kernel
theorem dX3_readNumber_84 : decode cX3_readNumber 84 = .ok (.getfield 19, 3) := by decide +kernel
theorem dX3_readNumber_87 : decode cX3_readNumber 87 = .ok (.iconst 1, 1) := by decide +kernel
theorem dX3_readNumber_88 : decode cX3_readNumber 88 = .ok (.iadd, 1) := by decide +kernel
theorem dX3_readNumber_89 : decode cX3_readNumber 89 = .ok (.putfield 19, 3) := by decide +kernel
theorem dX3_readNumber_92 : decode cX3_readNumber 92 = .ok (.goto (-78), 3) := by decide +kernel
theorem dX3_readNumber_95 : decode cX3_readNumber 95 = .ok (.aload_n 0, 1) := by decide +kernel
theorem dX3_readNumber_96 : decode cX3_readNumber 96 = .ok (.getfield 19, 3) := by decide +kernel
theorem dX3_readNumber_99 : decode cX3_readNumber 99 = .ok (.aload_n 0, 1) := by decide +kernel
theorem dX3_readNumber_100 : decode cX3_readNumber 100 = .ok (.getfield 32, 3) := by decide +kernel
theorem dX3_readNumber_103 : decode cX3_readNumber 103 = .ok (.isub, 1) := by decide +kernel
theorem dX3_readNumber_104 : decode cX3_readNumber 104 = .ok (.istore 4, 2) := by decide +kernel
theorem dX3_readNumber_106 : decode cX3_readNumber 106 = .ok (.iload 4, 2) := by decide +kernel
theorem dX3_readNumber_108 : decode cX3_readNumber 108 = .ok (.ifCond .ne 11, 3) := by decide +kernel
theorem dX3_readNumber_111 : decode cX3_readNumber 111 = .ok (.aload_n 0, 1) := by decide +kernel
theorem dX3_readNumber_112 : decode cX3_readNumber 112 = .ok (.iconst 1, 1) := by decide +kernel
theorem dX3_readNumber_113 : decode cX3_readNumber 113 = .ok (.invokevirtual 65, 3) := by decide +kernel
theorem dX3_readNumber_116 : decode cX3_readNumber 116 = .ok (.goto 23, 3) := by decide +kernel
theorem dX3_readNumber_119 : decode cX3_readNumber 119 = .ok (.iload 4, 2) := by decide +kernel
theorem dX3_readNumber_121 : decode cX3_readNumber 121 = .ok (.iconst 3, 1) := by decide +kernel
theorem dX3_readNumber_122 : decode cX3_readNumber 122 = .ok (.if_icmp .gt 12, 3) := by decide +kernel
theorem dX3_readNumber_125 : decode cX3_readNumber 125 = .ok (.iload_n 3, 1) := by decide +kernel
theorem dX3_readNumber_126 : decode cX3_readNumber 126 = .ok (.iload_n 1, 1) := by decide +kernel
theorem dX3_readNumber_127 : decode cX3_readNumber 127 = .ok (.iload_n 2, 1) := by decide +kernel
theorem dX3_readNumber_128 : decode cX3_readNumber 128 = .ok (.invokestatic 52, 3) := by decide +kernel
theorem dX3_readNumber_131 : decode cX3_readNumber 131 = .ok (.ifCond .ne 8, 3) := by decide +kernel
theorem dX3_readNumber_134 : decode cX3_readNumber 134 = .ok (.aload_n 0, 1) := by decide +kernel
theorem dX3_readNumber_135 : decode cX3_readNumber 135 = .ok (.iconst 2, 1) := by decide +kernel
theorem dX3_readNumber_136 : decode cX3_readNumber 136 = .ok (.invokevirtual 65, 3) := by decide +kernel
theorem dX3_readNumber_139 : decode cX3_readNumber 139 = .ok (.iload_n 3, 1) := by decide +kernel
theorem dX3_readNumber_140 : decode cX3_readNumber 140 = .ok (.ireturn, 1) := by decide +kernel
theorem dX3_endClause_0 : decode cX3_endClause 0 = .ok (.aload_n 0, 1) := by decide +kernel
theorem dX3_endClause_1 : decode cX3_endClause 1 = .ok (.invokevirtual 35, 3) := by decide +kernel
theorem dX3_endClause_4 : decode cX3_endClause 4 = .ok (.aload_n 0, 1) := by decide +kernel
theorem dX3_endClause_5 : decode cX3_endClause 5 = .ok (.getfield 19, 3) := by decide +kernel
theorem dX3_endClause_8 : decode cX3_endClause 8 = .ok (.aload_n 0, 1) := by decide +kernel
theorem dX3_endClause_9 : decode cX3_endClause 9 = .ok (.getfield 15, 3) := by decide +kernel
theorem dX3_endClause_12 : decode cX3_endClause 12 = .ok (.invokevirtual 42, 3) := by decide +kernel
theorem dX3_endClause_15 : decode cX3_endClause 15 = .ok (.if_icmp .ge 32, 3) := by decide +kernel
theorem dX3_endClause_18 : decode cX3_endClause 18 = .ok (.aload_n 0, 1) := by decide +kernel
theorem dX3_endClause_19 : decode cX3_endClause 19 = .ok (.getfield 15, 3) := by decide +kernel
theorem dX3_endClause_22 : decode cX3_endClause 22 = .ok (.aload_n 0, 1) := by decide +kernel
theorem dX3_endClause_23 : decode cX3_endClause 23 = .ok (.getfield 19, 3) := by decide +kernel
theorem dX3_endClause_26 : decode cX3_endClause 26 = .ok (.invokevirtual 48, 3) := by decide +kernel
theorem dX3_endClause_29 : decode cX3_endClause 29 = .ok (.bipush 59, 2) := by decide +kernel
theorem dX3_endClause_31 : decode cX3_endClause 31 = .ok (.if_icmp .ne 16, 3) := by decide +kernel
theorem dX3_endClause_34 : decode cX3_endClause 34 = .ok (.aload_n 0, 1) := by decide +kernel
theorem dX3_endClause_35 : decode cX3_endClause 35 = .ok (.dup, 1) := by decide +kernel
theorem dX3_endClause_36 : decode cX3_endClause 36 = .ok (.getfield 19, 3) := by decide +kernel
theorem dX3_endClause_39 : decode cX3_endClause 39 = .ok (.iconst 1, 1) := by decide +kernel
theorem dX3_endClause_40 : decode cX3_endClause 40 = .ok (.iadd, 1) := by decide +kernel
theorem dX3_endClause_41 : decode cX3_endClause 41 = .ok (.putfield 19, 3) := by decide +kernel
theorem dX3_endClause_44 : decode cX3_endClause 44 = .ok (.goto 12, 3) := by decide +kernel
theorem dX3_endClause_47 : decode cX3_endClause 47 = .ok (.aload_n 0, 1) := by decide +kernel
theorem dX3_endClause_48 : decode cX3_endClause 48 = .ok (.iconst 1, 1) := by decide +kernel
theorem dX3_endClause_49 : decode cX3_endClause 49 = .ok (.aload_n 0, 1) := by decide +kernel
theorem dX3_endClause_50 : decode cX3_endClause 50 = .ok (.getfield 19, 3) := by decide +kernel
theorem dX3_endClause_53 : decode cX3_endClause 53 = .ok (.invokevirtual 28, 3) := by decide +kernel
theorem dX3_endClause_56 : decode cX3_endClause 56 = .ok (.return_, 1) := by decide +kernel
theorem dX4_init_0 : decode cX4_init 0 = .ok (.aload_n 0, 1) := by decide +kernel
theorem dX4_init_1 : decode cX4_init 1 = .ok (.invokespecial 3, 3) := by decide +kernel
theorem dX4_init_4 : decode cX4_init 4 = .ok (.aload_n 0, 1) := by decide +kernel
theorem dX4_init_5 : decode cX4_init 5 = .ok (.iload_n 1, 1) := by decide +kernel
theorem dX4_init_6 : decode cX4_init 6 = .ok (.iconst 0, 1) := by decide +kernel
theorem dX4_init_7 : decode cX4_init 7 = .ok (.invokestatic 9, 3) := by decide +kernel
theorem dX4_init_10 : decode cX4_init 10 = .ok (.newarray .int, 2) := by decide +kernel
theorem dX4_init_12 : decode cX4_init 12 = .ok (.putfield 15, 3) := by decide +kernel
theorem dX4_init_15 : decode cX4_init 15 = .ok (.return_, 1) := by decide +kernel
theorem dX4_size_0 : decode cX4_size 0 = .ok (.aload_n 0, 1) := by decide +kernel
theorem dX4_size_1 : decode cX4_size 1 = .ok (.getfield 21, 3) := by decide +kernel
theorem dX4_size_4 : decode cX4_size 4 = .ok (.ireturn, 1) := by decide +kernel
theorem dX4_isFull_0 : decode cX4_isFull 0 = .ok (.aload_n 0, 1) := by decide +kernel
theorem dX4_isFull_1 : decode cX4_isFull 1 = .ok (.getfield 21, 3) := by decide +kernel
theorem dX4_isFull_4 : decode cX4_isFull 4 = .ok (.aload_n 0, 1) := by decide +kernel
theorem dX4_isFull_5 : decode cX4_isFull 5 = .ok (.getfield 15, 3) := by decide +kernel
theorem dX4_isFull_8 : decode cX4_isFull 8 = .ok (.arraylength, 1) := by decide +kernel
theorem dX4_isFull_9 : decode cX4_isFull 9 = .ok (.if_icmp .lt 7, 3) := by decide +kernel
theorem dX4_isFull_12 : decode cX4_isFull 12 = .ok (.iconst 1, 1) := by decide +kernel
theorem dX4_isFull_13 : decode cX4_isFull 13 = .ok (.goto 4, 3) := by decide +kernel
theorem dX4_isFull_16 : decode cX4_isFull 16 = .ok (.iconst 0, 1) := by decide +kernel
theorem dX4_isFull_17 : decode cX4_isFull 17 = .ok (.ireturn, 1) := by decide +kernel
theorem dX4_at_0 : decode cX4_at 0 = .ok (.iload_n 1, 1) := by decide +kernel
theorem dX4_at_1 : decode cX4_at 1 = .ok (.ifCond .lt 20, 3) := by decide +kernel
theorem dX4_at_4 : decode cX4_at 4 = .ok (.iload_n 1, 1) := by decide +kernel
theorem dX4_at_5 : decode cX4_at 5 = .ok (.aload_n 0, 1) := by decide +kernel
theorem dX4_at_6 : decode cX4_at 6 = .ok (.getfield 21, 3) := by decide +kernel
theorem dX4_at_9 : decode cX4_at 9 = .ok (.if_icmp .ge 12, 3) := by decide +kernel
theorem dX4_at_12 : decode cX4_at 12 = .ok (.aload_n 0, 1) := by decide +kernel
theorem dX4_at_13 : decode cX4_at 13 = .ok (.getfield 15, 3) := by decide +kernel
theorem dX4_at_16 : decode cX4_at 16 = .ok (.iload_n 1, 1) := by decide +kernel
theorem dX4_at_17 : decode cX4_at 17 = .ok (.iaload, 1) := by decide +kernel
theorem dX4_at_18 : decode cX4_at 18 = .ok (.goto 4, 3) := by decide +kernel
theorem dX4_at_21 : decode cX4_at 21 = .ok (.iconst 0, 1) := by decide +kernel
theorem dX4_at_22 : decode cX4_at 22 = .ok (.ireturn, 1) := by decide +kernel
theorem dX4_put_0 : decode cX4_put 0 = .ok (.aload_n 0, 1) := by decide +kernel
theorem dX4_put_1 : decode cX4_put 1 = .ok (.getfield 21, 3) := by decide +kernel
theorem dX4_put_4 : decode cX4_put 4 = .ok (.aload_n 0, 1) := by decide +kernel
theorem dX4_put_5 : decode cX4_put 5 = .ok (.getfield 15, 3) := by decide +kernel
theorem dX4_put_8 : decode cX4_put 8 = .ok (.arraylength, 1) := by decide +kernel
theorem dX4_put_9 : decode cX4_put 9 = .ok (.if_icmp .ge 23, 3) := by decide +kernel
theorem dX4_put_12 : decode cX4_put 12 = .ok (.aload_n 0, 1) := by decide +kernel
theorem dX4_put_13 : decode cX4_put 13 = .ok (.getfield 15, 3) := by decide +kernel
theorem dX4_put_16 : decode cX4_put 16 = .ok (.aload_n 0, 1) := by decide +kernel
theorem dX4_put_17 : decode cX4_put 17 = .ok (.getfield 21, 3) := by decide +kernel
theorem dX4_put_20 : decode cX4_put 20 = .ok (.iload_n 1, 1) := by decide +kernel
theorem dX4_put_21 : decode cX4_put 21 = .ok (.iastore, 1) := by decide +kernel
theorem dX4_put_22 : decode cX4_put 22 = .ok (.aload_n 0, 1) := by decide +kernel
theorem dX4_put_23 : decode cX4_put 23 = .ok (.dup, 1) := by decide +kernel
theorem dX4_put_24 : decode cX4_put 24 = .ok (.getfield 21, 3) := by decide +kernel
theorem dX4_put_27 : decode cX4_put 27 = .ok (.iconst 1, 1) := by decide +kernel
theorem dX4_put_28 : decode cX4_put 28 = .ok (.iadd, 1) := by decide +kernel
theorem dX4_put_29 : decode cX4_put 29 = .ok (.putfield 21, 3) := by decide +kernel
theorem dX4_put_32 : decode cX4_put 32 = .ok (.return_, 1) := by decide +kernel
theorem dX4_empty_0 : decode cX4_empty 0 = .ok (.aload_n 0, 1) := by decide +kernel
theorem dX4_empty_1 : decode cX4_empty 1 = .ok (.iconst 0, 1) := by decide +kernel
theorem dX4_empty_2 : decode cX4_empty 2 = .ok (.putfield 21, 3) := by decide +kernel
theorem dX4_empty_5 : decode cX4_empty 5 = .ok (.return_, 1) := by decide +kernel
theorem dX4_indexOf_0 : decode cX4_indexOf 0 = .ok (.iconst 0, 1) := by decide +kernel
theorem dX4_indexOf_1 : decode cX4_indexOf 1 = .ok (.istore_n 2, 1) := by decide +kernel
theorem dX4_indexOf_2 : decode cX4_indexOf 2 = .ok (.iload_n 2, 1) := by decide +kernel
theorem dX4_indexOf_3 : decode cX4_indexOf 3 = .ok (.aload_n 0, 1) := by decide +kernel
theorem dX4_indexOf_4 : decode cX4_indexOf 4 = .ok (.getfield 21, 3) := by decide +kernel
theorem dX4_indexOf_7 : decode cX4_indexOf 7 = .ok (.if_icmp .ge 21, 3) := by decide +kernel
theorem dX4_indexOf_10 : decode cX4_indexOf 10 = .ok (.aload_n 0, 1) := by decide +kernel
theorem dX4_indexOf_11 : decode cX4_indexOf 11 = .ok (.getfield 15, 3) := by decide +kernel
theorem dX4_indexOf_14 : decode cX4_indexOf 14 = .ok (.iload_n 2, 1) := by decide +kernel
theorem dX4_indexOf_15 : decode cX4_indexOf 15 = .ok (.iaload, 1) := by decide +kernel
theorem dX4_indexOf_16 : decode cX4_indexOf 16 = .ok (.iload_n 1, 1) := by decide +kernel
theorem dX4_indexOf_17 : decode cX4_indexOf 17 = .ok (.if_icmp .ne 5, 3) := by decide +kernel
theorem dX4_indexOf_20 : decode cX4_indexOf 20 = .ok (.iload_n 2, 1) := by decide +kernel
theorem dX4_indexOf_21 : decode cX4_indexOf 21 = .ok (.ireturn, 1) := by decide +kernel
theorem dX4_indexOf_22 : decode cX4_indexOf 22 = .ok (.iinc 2 1, 3) := by decide +kernel
theorem dX4_indexOf_25 : decode cX4_indexOf 25 = .ok (.goto (-23), 3) := by decide +kernel
theorem dX4_indexOf_28 : decode cX4_indexOf 28 = .ok (.iconst (-1), 1) := by decide +kernel
theorem dX4_indexOf_29 : decode cX4_indexOf 29 = .ok (.ireturn, 1) := by decide +kernel
theorem dX4_copy_0 : decode cX4_copy 0 = .ok (.aload_n 0, 1) := by decide +kernel
theorem dX4_copy_1 : decode cX4_copy 1 = .ok (.iconst 0, 1) := by decide +kernel
theorem dX4_copy_2 : decode cX4_copy 2 = .ok (.putfield 21, 3) := by decide +kernel
theorem dX4_copy_5 : decode cX4_copy 5 = .ok (.iconst 0, 1) := by decide +kernel
theorem dX4_copy_6 : decode cX4_copy 6 = .ok (.istore_n 2, 1) := by decide +kernel
theorem dX4_copy_7 : decode cX4_copy 7 = .ok (.iload_n 2, 1) := by decide +kernel
theorem dX4_copy_8 : decode cX4_copy 8 = .ok (.aload_n 1, 1) := by decide +kernel
theorem dX4_copy_9 : decode cX4_copy 9 = .ok (.getfield 21, 3) := by decide +kernel
theorem dX4_copy_12 : decode cX4_copy 12 = .ok (.if_icmp .ge 19, 3) := by decide +kernel
theorem dX4_copy_15 : decode cX4_copy 15 = .ok (.aload_n 0, 1) := by decide +kernel
theorem dX4_copy_16 : decode cX4_copy 16 = .ok (.aload_n 1, 1) := by decide +kernel
theorem dX4_copy_17 : decode cX4_copy 17 = .ok (.getfield 15, 3) := by decide +kernel
theorem dX4_copy_20 : decode cX4_copy 20 = .ok (.iload_n 2, 1) := by decide +kernel
theorem dX4_copy_21 : decode cX4_copy 21 = .ok (.iaload, 1) := by decide +kernel
theorem dX4_copy_22 : decode cX4_copy 22 = .ok (.invokevirtual 25, 3) := by decide +kernel
theorem dX4_copy_25 : decode cX4_copy 25 = .ok (.iinc 2 1, 3) := by decide +kernel
theorem dX4_copy_28 : decode cX4_copy 28 = .ok (.goto (-21), 3) := by decide +kernel
theorem dX4_copy_31 : decode cX4_copy 31 = .ok (.return_, 1) := by decide +kernel
theorem dX4_putIfLargest_0 : decode cX4_putIfLargest 0 = .ok (.iconst 0, 1) := by decide +kernel
theorem dX4_putIfLargest_1 : decode cX4_putIfLargest 1 = .ok (.istore_n 2, 1) := by decide +kernel
theorem dX4_putIfLargest_2 : decode cX4_putIfLargest 2 = .ok (.iload_n 2, 1) := by decide +kernel
theorem dX4_putIfLargest_3 : decode cX4_putIfLargest 3 = .ok (.aload_n 0, 1) := by decide +kernel
theorem dX4_putIfLargest_4 : decode cX4_putIfLargest 4 = .ok (.getfield 21, 3) := by decide +kernel
theorem dX4_putIfLargest_7 : decode cX4_putIfLargest 7 = .ok (.if_icmp .ge 23, 3) := by decide +kernel
theorem dX4_putIfLargest_10 : decode cX4_putIfLargest 10 = .ok (.iload_n 1, 1) := by decide +kernel
theorem dX4_putIfLargest_11 : decode cX4_putIfLargest 11 = .ok (.aload_n 0, 1) := by decide +kernel
theorem dX4_putIfLargest_12 : decode cX4_putIfLargest 12 = .ok (.getfield 15, 3) := by decide +kernel
theorem dX4_putIfLargest_15 : decode cX4_putIfLargest 15 = .ok (.iload_n 2, 1) := by decide +kernel
theorem dX4_putIfLargest_16 : decode cX4_putIfLargest 16 = .ok (.iaload, 1) := by decide +kernel
theorem dX4_putIfLargest_17 : decode cX4_putIfLargest 17 = .ok (.iconst (-1), 1) := by decide +kernel
theorem dX4_putIfLargest_18 : decode cX4_putIfLargest 18 = .ok (.ixor, 1) := by decide +kernel
theorem dX4_putIfLargest_19 : decode cX4_putIfLargest 19 = .ok (.iand, 1) := by decide +kernel
theorem dX4_putIfLargest_20 : decode cX4_putIfLargest 20 = .ok (.ifCond .ne 4, 3) := by decide +kernel
theorem dX4_putIfLargest_23 : decode cX4_putIfLargest 23 = .ok (.return_, 1) := by decide +kernel
theorem dX4_putIfLargest_24 : decode cX4_putIfLargest 24 = .ok (.iinc 2 1, 3) := by decide +kernel
theorem dX4_putIfLargest_27 : decode cX4_putIfLargest 27 = .ok (.goto (-25), 3) := by decide +kernel
theorem dX4_putIfLargest_30 : decode cX4_putIfLargest 30 = .ok (.iconst 0, 1) := by decide +kernel
theorem dX4_putIfLargest_31 : decode cX4_putIfLargest 31 = .ok (.istore_n 2, 1) := by decide +kernel
theorem dX4_putIfLargest_32 : decode cX4_putIfLargest 32 = .ok (.iconst 0, 1) := by decide +kernel
theorem dX4_putIfLargest_33 : decode cX4_putIfLargest 33 = .ok (.istore_n 3, 1) := by decide +kernel
theorem dX4_putIfLargest_34 : decode cX4_putIfLargest 34 = .ok (.iload_n 3, 1) := by decide +kernel
theorem dX4_putIfLargest_35 : decode cX4_putIfLargest 35 = .ok (.aload_n 0, 1) := by decide +kernel
theorem dX4_putIfLargest_36 : decode cX4_putIfLargest 36 = .ok (.getfield 21, 3) := by decide +kernel
theorem dX4_putIfLargest_39 : decode cX4_putIfLargest 39 = .ok (.if_icmp .ge 37, 3) := by decide +kernel
theorem dX4_putIfLargest_42 : decode cX4_putIfLargest 42 = .ok (.aload_n 0, 1) := by decide +kernel
theorem dX4_putIfLargest_43 : decode cX4_putIfLargest 43 = .ok (.getfield 15, 3) := by decide +kernel
theorem dX4_putIfLargest_46 : decode cX4_putIfLargest 46 = .ok (.iload_n 3, 1) := by decide +kernel
theorem dX4_putIfLargest_47 : decode cX4_putIfLargest 47 = .ok (.iaload, 1) := by decide +kernel
theorem dX4_putIfLargest_48 : decode cX4_putIfLargest 48 = .ok (.iload_n 1, 1) := by decide +kernel
theorem dX4_putIfLargest_49 : decode cX4_putIfLargest 49 = .ok (.iconst (-1), 1) := by decide +kernel
theorem dX4_putIfLargest_50 : decode cX4_putIfLargest 50 = .ok (.ixor, 1) := by decide +kernel
theorem dX4_putIfLargest_51 : decode cX4_putIfLargest 51 = .ok (.iand, 1) := by decide +kernel
theorem dX4_putIfLargest_52 : decode cX4_putIfLargest 52 = .ok (.ifCond .eq 18, 3) := by decide +kernel
theorem dX4_putIfLargest_55 : decode cX4_putIfLargest 55 = .ok (.aload_n 0, 1) := by decide +kernel
theorem dX4_putIfLargest_56 : decode cX4_putIfLargest 56 = .ok (.getfield 15, 3) := by decide +kernel
theorem dX4_putIfLargest_59 : decode cX4_putIfLargest 59 = .ok (.iload_n 2, 1) := by decide +kernel
theorem dX4_putIfLargest_60 : decode cX4_putIfLargest 60 = .ok (.aload_n 0, 1) := by decide +kernel
theorem dX4_putIfLargest_61 : decode cX4_putIfLargest 61 = .ok (.getfield 15, 3) := by decide +kernel
theorem dX4_putIfLargest_64 : decode cX4_putIfLargest 64 = .ok (.iload_n 3, 1) := by decide +kernel
theorem dX4_putIfLargest_65 : decode cX4_putIfLargest 65 = .ok (.iaload, 1) := by decide +kernel
theorem dX4_putIfLargest_66 : decode cX4_putIfLargest 66 = .ok (.iastore, 1) := by decide +kernel
theorem dX4_putIfLargest_67 : decode cX4_putIfLargest 67 = .ok (.iinc 2 1, 3) := by decide +kernel
theorem dX4_putIfLargest_70 : decode cX4_putIfLargest 70 = .ok (.iinc 3 1, 3) := by decide +kernel
theorem dX4_putIfLargest_73 : decode cX4_putIfLargest 73 = .ok (.goto (-39), 3) := by decide +kernel
theorem dX4_putIfLargest_76 : decode cX4_putIfLargest 76 = .ok (.aload_n 0, 1) := by decide +kernel
theorem dX4_putIfLargest_77 : decode cX4_putIfLargest 77 = .ok (.iload_n 2, 1) := by decide +kernel
theorem dX4_putIfLargest_78 : decode cX4_putIfLargest 78 = .ok (.putfield 21, 3) := by decide +kernel
theorem dX4_putIfLargest_81 : decode cX4_putIfLargest 81 = .ok (.aload_n 0, 1) := by decide +kernel
theorem dX4_putIfLargest_82 : decode cX4_putIfLargest 82 = .ok (.iload_n 1, 1) := by decide +kernel
theorem dX4_putIfLargest_83 : decode cX4_putIfLargest 83 = .ok (.invokevirtual 25, 3) := by decide +kernel
theorem dX4_putIfLargest_86 : decode cX4_putIfLargest 86 = .ok (.return_, 1) := by decide +kernel
theorem dX5_init_0 : decode cX5_init 0 = .ok (.aload_n 0, 1) := by decide +kernel
theorem dX5_init_1 : decode cX5_init 1 = .ok (.invokespecial 3, 3) := by decide +kernel
theorem dX5_init_4 : decode cX5_init 4 = .ok (.aload_n 0, 1) := by decide +kernel
theorem dX5_init_5 : decode cX5_init 5 = .ok (.new 9, 3) := by decide +kernel
theorem dX5_init_8 : decode cX5_init 8 = .ok (.dup, 1) := by decide +kernel
theorem dX5_init_9 : decode cX5_init 9 = .ok (.invokespecial 11, 3) := by decide +kernel
theorem dX5_init_12 : decode cX5_init 12 = .ok (.putfield 12, 3) := by decide +kernel
theorem dX5_init_15 : decode cX5_init 15 = .ok (.aload_n 0, 1) := by decide +kernel
theorem dX5_init_16 : decode cX5_init 16 = .ok (.new 18, 3) := by decide +kernel
theorem dX5_init_19 : decode cX5_init 19 = .ok (.dup, 1) := by decide +kernel
theorem dX5_init_20 : decode cX5_init 20 = .ok (.invokespecial 20, 3) := by decide +kernel
theorem dX5_init_23 : decode cX5_init 23 = .ok (.putfield 21, 3) := by decide +kernel
theorem dX5_init_26 : decode cX5_init 26 = .ok (.aload_n 0, 1) := by decide +kernel
theorem dX5_init_27 : decode cX5_init 27 = .ok (.new 25, 3) := by decide +kernel
theorem dX5_init_30 : decode cX5_init 30 = .ok (.dup, 1) := by decide +kernel
theorem dX5_init_31 : decode cX5_init 31 = .ok (.bipush 30, 2) := by decide +kernel
theorem dX5_init_33 : decode cX5_init 33 = .ok (.invokespecial 27, 3) := by decide +kernel
theorem dX5_init_36 : decode cX5_init 36 = .ok (.putfield 30, 3) := by decide +kernel
theorem dX5_init_39 : decode cX5_init 39 = .ok (.aload_n 0, 1) := by decide +kernel
theorem dX5_init_40 : decode cX5_init 40 = .ok (.aload_n 1, 1) := by decide +kernel
theorem dX5_init_41 : decode cX5_init 41 = .ok (.putfield 34, 3) := by decide +kernel
theorem dX5_init_44 : decode cX5_init 44 = .ok (.aload_n 0, 1) := by decide +kernel
theorem dX5_init_45 : decode cX5_init 45 = .ok (.new 37, 3) := by decide +kernel
theorem dX5_init_48 : decode cX5_init 48 = .ok (.dup, 1) := by decide +kernel
theorem dX5_init_49 : decode cX5_init 49 = .ok (.aload_n 1, 1) := by decide +kernel
theorem dX5_init_50 : decode cX5_init 50 = .ok (.invokespecial 39, 3) := by decide +kernel
theorem dX5_init_53 : decode cX5_init 53 = .ok (.putfield 42, 3) := by decide +kernel
theorem dX5_init_56 : decode cX5_init 56 = .ok (.return_, 1) := by decide +kernel
theorem dX5_faultPlace_0 : decode cX5_faultPlace 0 = .ok (.aload_n 0, 1) := by decide +kernel
theorem dX5_faultPlace_1 : decode cX5_faultPlace 1 = .ok (.getfield 42, 3) := by decide +kernel
theorem dX5_faultPlace_4 : decode cX5_faultPlace 4 = .ok (.getfield 46, 3) := by decide +kernel
theorem dX5_faultPlace_7 : decode cX5_faultPlace 7 = .ok (.ireturn, 1) := by decide +kernel
theorem dX5_readQuay_0 : decode cX5_readQuay 0 = .ok (.aload_n 0, 1) := by decide +kernel
theorem dX5_readQuay_1 : decode cX5_readQuay 1 = .ok (.getfield 12, 3) := by decide +kernel
theorem dX5_readQuay_4 : decode cX5_readQuay 4 = .ok (.invokevirtual 50, 3) := by decide +kernel
theorem dX5_readQuay_7 : decode cX5_readQuay 7 = .ok (.aload_n 0, 1) := by decide +kernel
theorem dX5_readQuay_8 : decode cX5_readQuay 8 = .ok (.getfield 42, 3) := by decide +kernel
theorem dX5_readQuay_11 : decode cX5_readQuay 11 = .ok (.invokevirtual 53, 3) := by decide +kernel
theorem dX5_readQuay_14 : decode cX5_readQuay 14 = .ok (.iconst 0, 1) := by decide +kernel
theorem dX5_readQuay_15 : decode cX5_readQuay 15 = .ok (.istore_n 2, 1) := by decide +kernel
theorem dX5_readQuay_16 : decode cX5_readQuay 16 = .ok (.iload_n 2, 1) := by decide +kernel
theorem dX5_readQuay_17 : decode cX5_readQuay 17 = .ok (.sipush 400, 3) := by decide +kernel
theorem dX5_readQuay_20 : decode cX5_readQuay 20 = .ok (.if_icmp .ge 23, 3) := by decide +kernel
theorem dX5_readQuay_23 : decode cX5_readQuay 23 = .ok (.aload_n 0, 1) := by decide +kernel
theorem dX5_readQuay_24 : decode cX5_readQuay 24 = .ok (.getfield 42, 3) := by decide +kernel
theorem dX5_readQuay_27 : decode cX5_readQuay 27 = .ok (.invokevirtual 56, 3) := by decide +kernel
theorem dX5_readQuay_30 : decode cX5_readQuay 30 = .ok (.ifCond .eq 13, 3) := by decide +kernel
theorem dX5_readQuay_33 : decode cX5_readQuay 33 = .ok (.aload_n 0, 1) := by decide +kernel
theorem dX5_readQuay_34 : decode cX5_readQuay 34 = .ok (.invokevirtual 60, 3) := by decide +kernel
theorem dX5_readQuay_37 : decode cX5_readQuay 37 = .ok (.iinc 2 1, 3) := by decide +kernel
theorem dX5_readQuay_40 : decode cX5_readQuay 40 = .ok (.goto (-24), 3) := by decide +kernel
theorem dX5_readQuay_43 : decode cX5_readQuay 43 = .ok (.aload_n 0, 1) := by decide +kernel
theorem dX5_readQuay_44 : decode cX5_readQuay 44 = .ok (.getfield 34, 3) := by decide +kernel
theorem dX5_readQuay_47 : decode cX5_readQuay 47 = .ok (.invokevirtual 63, 3) := by decide +kernel
theorem dX5_readQuay_50 : decode cX5_readQuay 50 = .ok (.aload_n 0, 1) := by decide +kernel
theorem dX5_readQuay_51 : decode cX5_readQuay 51 = .ok (.getfield 42, 3) := by decide +kernel
theorem dX5_readQuay_54 : decode cX5_readQuay 54 = .ok (.invokevirtual 64, 3) := by decide +kernel
theorem dX5_readQuay_57 : decode cX5_readQuay 57 = .ok (.ifCond .eq 14, 3) := by decide +kernel
theorem dX5_readQuay_60 : decode cX5_readQuay 60 = .ok (.bipush (-10), 2) := by decide +kernel
theorem dX5_readQuay_62 : decode cX5_readQuay 62 = .ok (.aload_n 0, 1) := by decide +kernel
theorem dX5_readQuay_63 : decode cX5_readQuay 63 = .ok (.getfield 42, 3) := by decide +kernel
theorem dX5_readQuay_66 : decode cX5_readQuay 66 = .ok (.getfield 67, 3) := by decide +kernel
theorem dX5_readQuay_69 : decode cX5_readQuay 69 = .ok (.isub, 1) := by decide +kernel
theorem dX5_readQuay_70 : decode cX5_readQuay 70 = .ok (.ireturn, 1) := by decide +kernel
theorem dX5_readQuay_71 : decode cX5_readQuay 71 = .ok (.aload_n 0, 1) := by decide +kernel
theorem dX5_readQuay_72 : decode cX5_readQuay 72 = .ok (.getfield 12, 3) := by decide +kernel
theorem dX5_readQuay_75 : decode cX5_readQuay 75 = .ok (.invokevirtual 70, 3) := by decide +kernel
theorem dX5_readQuay_78 : decode cX5_readQuay 78 = .ok (.aload_n 1, 1) := by decide +kernel
theorem dX5_readQuay_79 : decode cX5_readQuay 79 = .ok (.aload_n 0, 1) := by decide +kernel
theorem dX5_readQuay_80 : decode cX5_readQuay 80 = .ok (.getfield 12, 3) := by decide +kernel
theorem dX5_readQuay_83 : decode cX5_readQuay 83 = .ok (.invokevirtual 73, 3) := by decide +kernel
theorem dX5_readQuay_86 : decode cX5_readQuay 86 = .ok (.aload_n 1, 1) := by decide +kernel
theorem dX5_readQuay_87 : decode cX5_readQuay 87 = .ok (.invokevirtual 77, 3) := by decide +kernel
theorem dX5_readQuay_90 : decode cX5_readQuay 90 = .ok (.ireturn, 1) := by decide +kernel
theorem dX5_readQuayClause_0 : decode cX5_readQuayClause 0 = .ok (.aload_n 0, 1) := by decide +kernel
theorem dX5_readQuayClause_1 : decode cX5_readQuayClause 1 = .ok (.getfield 42, 3) := by decide +kernel
theorem dX5_readQuayClause_4 : decode cX5_readQuayClause 4 = .ok (.invokevirtual 81, 3) := by decide +kernel
theorem dX5_readQuayClause_7 : decode cX5_readQuayClause 7 = .ok (.aload_n 0, 1) := by decide +kernel
theorem dX5_readQuayClause_8 : decode cX5_readQuayClause 8 = .ok (.getfield 42, 3) := by decide +kernel
theorem dX5_readQuayClause_11 : decode cX5_readQuayClause 11 = .ok (.ldc 84, 2) := by decide +kernel
theorem dX5_readQuayClause_13 : decode cX5_readQuayClause 13 = .ok (.invokevirtual 86, 3) := by decide +kernel
theorem dX5_readQuayClause_16 : decode cX5_readQuayClause 16 = .ok (.ifCond .eq 10, 3) := by decide +kernel
theorem dX5_readQuayClause_19 : decode cX5_readQuayClause 19 = .ok (.aload_n 0, 1) := by decide +kernel
theorem dX5_readQuayClause_20 : decode cX5_readQuayClause 20 = .ok (.invokevirtual 90, 3) := by decide +kernel
theorem dX5_readQuayClause_23 : decode cX5_readQuayClause 23 = .ok (.goto 135, 3) := by decide +kernel
theorem dX5_readQuayClause_26 : decode cX5_readQuayClause 26 = .ok (.aload_n 0, 1) := by decide +kernel
theorem dX5_readQuayClause_27 : decode cX5_readQuayClause 27 = .ok (.getfield 42, 3) := by decide +kernel
theorem dX5_readQuayClause_30 : decode cX5_readQuayClause 30 = .ok (.ldc 93, 2) := by decide +kernel
theorem dX5_readQuayClause_32 : decode cX5_readQuayClause 32 = .ok (.invokevirtual 86, 3) := by decide +kernel
theorem dX5_readQuayClause_35 : decode cX5_readQuayClause 35 = .ok (.ifCond .eq 10, 3) := by decide +kernel
theorem dX5_readQuayClause_38 : decode cX5_readQuayClause 38 = .ok (.aload_n 0, 1) := by decide +kernel
theorem dX5_readQuayClause_39 : decode cX5_readQuayClause 39 = .ok (.invokevirtual 95, 3) := by decide +kernel
theorem dX5_readQuayClause_42 : decode cX5_readQuayClause 42 = .ok (.goto 116, 3) := by decide +kernel
theorem dX5_readQuayClause_45 : decode cX5_readQuayClause 45 = .ok (.aload_n 0, 1) := by decide +kernel
theorem dX5_readQuayClause_46 : decode cX5_readQuayClause 46 = .ok (.getfield 42, 3) := by decide +kernel
theorem dX5_readQuayClause_49 : decode cX5_readQuayClause 49 = .ok (.ldc 98, 2) := by decide +kernel
theorem dX5_readQuayClause_51 : decode cX5_readQuayClause 51 = .ok (.invokevirtual 86, 3) := by decide +kernel
theorem dX5_readQuayClause_54 : decode cX5_readQuayClause 54 = .ok (.ifCond .eq 26, 3) := by decide +kernel
theorem dX5_readQuayClause_57 : decode cX5_readQuayClause 57 = .ok (.aload_n 0, 1) := by decide +kernel
theorem dX5_readQuayClause_58 : decode cX5_readQuayClause 58 = .ok (.getfield 12, 3) := by decide +kernel
theorem dX5_readQuayClause_61 : decode cX5_readQuayClause 61 = .ok (.aload_n 0, 1) := by decide +kernel
theorem dX5_readQuayClause_62 : decode cX5_readQuayClause 62 = .ok (.aload_n 0, 1) := by decide +kernel
theorem dX5_readQuayClause_63 : decode cX5_readQuayClause 63 = .ok (.getfield 12, 3) := by decide +kernel
theorem dX5_readQuayClause_66 : decode cX5_readQuayClause 66 = .ok (.getfield 100, 3) := by decide +kernel
theorem dX5_readQuayClause_69 : decode cX5_readQuayClause 69 = .ok (.bipush 99, 2) := by decide +kernel
theorem dX5_readQuayClause_71 : decode cX5_readQuayClause 71 = .ok (.invokevirtual 102, 3) := by decide +kernel
theorem dX5_readQuayClause_74 : decode cX5_readQuayClause 74 = .ok (.putfield 100, 3) := by decide +kernel
theorem dX5_readQuayClause_77 : decode cX5_readQuayClause 77 = .ok (.goto 81, 3) := by decide +kernel
theorem dX5_readQuayClause_80 : decode cX5_readQuayClause 80 = .ok (.aload_n 0, 1) := by decide +kernel
theorem dX5_readQuayClause_81 : decode cX5_readQuayClause 81 = .ok (.getfield 42, 3) := by decide +kernel
theorem dX5_readQuayClause_84 : decode cX5_readQuayClause 84 = .ok (.ldc 106, 2) := by decide +kernel
theorem dX5_readQuayClause_86 : decode cX5_readQuayClause 86 = .ok (.invokevirtual 86, 3) := by decide +kernel
theorem dX5_readQuayClause_89 : decode cX5_readQuayClause 89 = .ok (.ifCond .eq 26, 3) := by decide +kernel
theorem dX5_readQuayClause_92 : decode cX5_readQuayClause 92 = .ok (.aload_n 0, 1) := by decide +kernel
theorem dX5_readQuayClause_93 : decode cX5_readQuayClause 93 = .ok (.getfield 12, 3) := by decide +kernel
theorem dX5_readQuayClause_96 : decode cX5_readQuayClause 96 = .ok (.aload_n 0, 1) := by decide +kernel
theorem dX5_readQuayClause_97 : decode cX5_readQuayClause 97 = .ok (.aload_n 0, 1) := by decide +kernel
theorem dX5_readQuayClause_98 : decode cX5_readQuayClause 98 = .ok (.getfield 12, 3) := by decide +kernel
theorem dX5_readQuayClause_101 : decode cX5_readQuayClause 101 = .ok (.getfield 108, 3) := by decide +kernel
theorem dX5_readQuayClause_104 : decode cX5_readQuayClause 104 = .ok (.bipush 99, 2) := by decide +kernel
theorem dX5_readQuayClause_106 : decode cX5_readQuayClause 106 = .ok (.invokevirtual 102, 3) := by decide +kernel
theorem dX5_readQuayClause_109 : decode cX5_readQuayClause 109 = .ok (.putfield 108, 3) := by decide +kernel
theorem dX5_readQuayClause_112 : decode cX5_readQuayClause 112 = .ok (.goto 46, 3) := by decide +kernel
theorem dX5_readQuayClause_115 : decode cX5_readQuayClause 115 = .ok (.aload_n 0, 1) := by decide +kernel
theorem dX5_readQuayClause_116 : decode cX5_readQuayClause 116 = .ok (.getfield 42, 3) := by decide +kernel
theorem dX5_readQuayClause_119 : decode cX5_readQuayClause 119 = .ok (.ldc 110, 2) := by decide +kernel
theorem dX5_readQuayClause_121 : decode cX5_readQuayClause 121 = .ok (.invokevirtual 86, 3) := by decide +kernel
theorem dX5_readQuayClause_124 : decode cX5_readQuayClause 124 = .ok (.ifCond .eq 26, 3) := by decide +kernel
theorem dX5_readQuayClause_127 : decode cX5_readQuayClause 127 = .ok (.aload_n 0, 1) := by decide +kernel
theorem dX5_readQuayClause_128 : decode cX5_readQuayClause 128 = .ok (.getfield 12, 3) := by decide +kernel
theorem dX5_readQuayClause_131 : decode cX5_readQuayClause 131 = .ok (.aload_n 0, 1) := by decide +kernel
theorem dX5_readQuayClause_132 : decode cX5_readQuayClause 132 = .ok (.aload_n 0, 1) := by decide +kernel
theorem dX5_readQuayClause_133 : decode cX5_readQuayClause 133 = .ok (.getfield 12, 3) := by decide +kernel
theorem dX5_readQuayClause_136 : decode cX5_readQuayClause 136 = .ok (.getfield 112, 3) := by decide +kernel
theorem dX5_readQuayClause_139 : decode cX5_readQuayClause 139 = .ok (.bipush 50, 2) := by decide +kernel
theorem dX5_readQuayClause_141 : decode cX5_readQuayClause 141 = .ok (.invokevirtual 102, 3) := by decide +kernel
theorem dX5_readQuayClause_144 : decode cX5_readQuayClause 144 = .ok (.putfield 112, 3) := by decide +kernel
theorem dX5_readQuayClause_147 : decode cX5_readQuayClause 147 = .ok (.goto 11, 3) := by decide +kernel
theorem dX5_readQuayClause_150 : decode cX5_readQuayClause 150 = .ok (.aload_n 0, 1) := by decide +kernel
theorem dX5_readQuayClause_151 : decode cX5_readQuayClause 151 = .ok (.getfield 42, 3) := by decide +kernel
theorem dX5_readQuayClause_154 : decode cX5_readQuayClause 154 = .ok (.iconst 1, 1) := by decide +kernel
theorem dX5_readQuayClause_155 : decode cX5_readQuayClause 155 = .ok (.invokevirtual 114, 3) := by decide +kernel
theorem dX5_readQuayClause_158 : decode cX5_readQuayClause 158 = .ok (.return_, 1) := by decide +kernel
theorem dX5_readLamp_0 : decode cX5_readLamp 0 = .ok (.aload_n 0, 1) := by decide +kernel
theorem dX5_readLamp_1 : decode cX5_readLamp 1 = .ok (.getfield 12, 3) := by decide +kernel
theorem dX5_readLamp_4 : decode cX5_readLamp 4 = .ok (.getfield 117, 3) := by decide +kernel
theorem dX5_readLamp_7 : decode cX5_readLamp 7 = .ok (.invokevirtual 120, 3) := by decide +kernel
theorem dX5_readLamp_10 : decode cX5_readLamp 10 = .ok (.ifCond .eq 11, 3) := by decide +kernel
theorem dX5_readLamp_13 : decode cX5_readLamp 13 = .ok (.aload_n 0, 1) := by decide +kernel
theorem dX5_readLamp_14 : decode cX5_readLamp 14 = .ok (.getfield 42, 3) := by decide +kernel
theorem dX5_readLamp_17 : decode cX5_readLamp 17 = .ok (.iconst 3, 1) := by decide +kernel
theorem dX5_readLamp_18 : decode cX5_readLamp 18 = .ok (.invokevirtual 114, 3) := by decide +kernel
theorem dX5_readLamp_21 : decode cX5_readLamp 21 = .ok (.aload_n 0, 1) := by decide +kernel
theorem dX5_readLamp_22 : decode cX5_readLamp 22 = .ok (.getfield 12, 3) := by decide +kernel
theorem dX5_readLamp_25 : decode cX5_readLamp 25 = .ok (.getfield 117, 3) := by decide +kernel
theorem dX5_readLamp_28 : decode cX5_readLamp 28 = .ok (.aload_n 0, 1) := by decide +kernel
theorem dX5_readLamp_29 : decode cX5_readLamp 29 = .ok (.getfield 42, 3) := by decide +kernel
theorem dX5_readLamp_32 : decode cX5_readLamp 32 = .ok (.iconst 0, 1) := by decide +kernel
theorem dX5_readLamp_33 : decode cX5_readLamp 33 = .ok (.bipush 49, 2) := by decide +kernel
theorem dX5_readLamp_35 : decode cX5_readLamp 35 = .ok (.invokevirtual 123, 3) := by decide +kernel
theorem dX5_readLamp_38 : decode cX5_readLamp 38 = .ok (.invokevirtual 126, 3) := by decide +kernel
theorem dX5_readLamp_41 : decode cX5_readLamp 41 = .ok (.aload_n 0, 1) := by decide +kernel
theorem dX5_readLamp_42 : decode cX5_readLamp 42 = .ok (.getfield 12, 3) := by decide +kernel
theorem dX5_readLamp_45 : decode cX5_readLamp 45 = .ok (.getfield 129, 3) := by decide +kernel
theorem dX5_readLamp_48 : decode cX5_readLamp 48 = .ok (.aload_n 0, 1) := by decide +kernel
theorem dX5_readLamp_49 : decode cX5_readLamp 49 = .ok (.getfield 42, 3) := by decide +kernel
theorem dX5_readLamp_52 : decode cX5_readLamp 52 = .ok (.iconst 0, 1) := by decide +kernel
theorem dX5_readLamp_53 : decode cX5_readLamp 53 = .ok (.bipush 63, 2) := by decide +kernel
theorem dX5_readLamp_55 : decode cX5_readLamp 55 = .ok (.invokevirtual 123, 3) := by decide +kernel
theorem dX5_readLamp_58 : decode cX5_readLamp 58 = .ok (.invokevirtual 126, 3) := by decide +kernel
theorem dX5_readLamp_61 : decode cX5_readLamp 61 = .ok (.aload_n 0, 1) := by decide +kernel
theorem dX5_readLamp_62 : decode cX5_readLamp 62 = .ok (.getfield 12, 3) := by decide +kernel
theorem dX5_readLamp_65 : decode cX5_readLamp 65 = .ok (.getfield 132, 3) := by decide +kernel
theorem dX5_readLamp_68 : decode cX5_readLamp 68 = .ok (.aload_n 0, 1) := by decide +kernel
theorem dX5_readLamp_69 : decode cX5_readLamp 69 = .ok (.getfield 42, 3) := by decide +kernel
theorem dX5_readLamp_72 : decode cX5_readLamp 72 = .ok (.iconst 0, 1) := by decide +kernel
theorem dX5_readLamp_73 : decode cX5_readLamp 73 = .ok (.bipush 9, 2) := by decide +kernel
theorem dX5_readLamp_75 : decode cX5_readLamp 75 = .ok (.invokevirtual 123, 3) := by decide +kernel
theorem dX5_readLamp_78 : decode cX5_readLamp 78 = .ok (.invokevirtual 126, 3) := by decide +kernel
theorem dX5_readLamp_81 : decode cX5_readLamp 81 = .ok (.aload_n 0, 1) := by decide +kernel
theorem dX5_readLamp_82 : decode cX5_readLamp 82 = .ok (.getfield 12, 3) := by decide +kernel
theorem dX5_readLamp_85 : decode cX5_readLamp 85 = .ok (.getfield 135, 3) := by decide +kernel
theorem dX5_readLamp_88 : decode cX5_readLamp 88 = .ok (.aload_n 0, 1) := by decide +kernel
theorem dX5_readLamp_89 : decode cX5_readLamp 89 = .ok (.getfield 42, 3) := by decide +kernel
theorem dX5_readLamp_92 : decode cX5_readLamp 92 = .ok (.iconst 0, 1) := by decide +kernel
theorem dX5_readLamp_93 : decode cX5_readLamp 93 = .ok (.iconst 5, 1) := by decide +kernel
theorem dX5_readLamp_94 : decode cX5_readLamp 94 = .ok (.invokevirtual 123, 3) := by decide +kernel
theorem dX5_readLamp_97 : decode cX5_readLamp 97 = .ok (.invokevirtual 126, 3) := by decide +kernel
theorem dX5_readLamp_100 : decode cX5_readLamp 100 = .ok (.aload_n 0, 1) := by decide +kernel
theorem dX5_readLamp_101 : decode cX5_readLamp 101 = .ok (.getfield 42, 3) := by decide +kernel
theorem dX5_readLamp_104 : decode cX5_readLamp 104 = .ok (.invokevirtual 138, 3) := by decide +kernel
theorem dX5_readLamp_107 : decode cX5_readLamp 107 = .ok (.return_, 1) := by decide +kernel
theorem dX5_readSinger_0 : decode cX5_readSinger 0 = .ok (.aload_n 0, 1) := by decide +kernel
theorem dX5_readSinger_1 : decode cX5_readSinger 1 = .ok (.getfield 12, 3) := by decide +kernel
theorem dX5_readSinger_4 : decode cX5_readSinger 4 = .ok (.getfield 141, 3) := by decide +kernel
theorem dX5_readSinger_7 : decode cX5_readSinger 7 = .ok (.invokevirtual 120, 3) := by decide +kernel
theorem dX5_readSinger_10 : decode cX5_readSinger 10 = .ok (.ifCond .eq 11, 3) := by decide +kernel
theorem dX5_readSinger_13 : decode cX5_readSinger 13 = .ok (.aload_n 0, 1) := by decide +kernel
theorem dX5_readSinger_14 : decode cX5_readSinger 14 = .ok (.getfield 42, 3) := by decide +kernel
theorem dX5_readSinger_17 : decode cX5_readSinger 17 = .ok (.iconst 3, 1) := by decide +kernel
theorem dX5_readSinger_18 : decode cX5_readSinger 18 = .ok (.invokevirtual 114, 3) := by decide +kernel
theorem dX5_readSinger_21 : decode cX5_readSinger 21 = .ok (.aload_n 0, 1) := by decide +kernel
theorem dX5_readSinger_22 : decode cX5_readSinger 22 = .ok (.getfield 12, 3) := by decide +kernel
theorem dX5_readSinger_25 : decode cX5_readSinger 25 = .ok (.getfield 141, 3) := by decide +kernel
theorem dX5_readSinger_28 : decode cX5_readSinger 28 = .ok (.aload_n 0, 1) := by decide +kernel
theorem dX5_readSinger_29 : decode cX5_readSinger 29 = .ok (.getfield 42, 3) := by decide +kernel
theorem dX5_readSinger_32 : decode cX5_readSinger 32 = .ok (.iconst 0, 1) := by decide +kernel
theorem dX5_readSinger_33 : decode cX5_readSinger 33 = .ok (.bipush 49, 2) := by decide +kernel
theorem dX5_readSinger_35 : decode cX5_readSinger 35 = .ok (.invokevirtual 123, 3) := by decide +kernel
theorem dX5_readSinger_38 : decode cX5_readSinger 38 = .ok (.invokevirtual 126, 3) := by decide +kernel
theorem dX5_readSinger_41 : decode cX5_readSinger 41 = .ok (.aload_n 0, 1) := by decide +kernel
theorem dX5_readSinger_42 : decode cX5_readSinger 42 = .ok (.getfield 12, 3) := by decide +kernel
theorem dX5_readSinger_45 : decode cX5_readSinger 45 = .ok (.getfield 144, 3) := by decide +kernel
theorem dX5_readSinger_48 : decode cX5_readSinger 48 = .ok (.aload_n 0, 1) := by decide +kernel
theorem dX5_readSinger_49 : decode cX5_readSinger 49 = .ok (.getfield 42, 3) := by decide +kernel
theorem dX5_readSinger_52 : decode cX5_readSinger 52 = .ok (.iconst 1, 1) := by decide +kernel
theorem dX5_readSinger_53 : decode cX5_readSinger 53 = .ok (.bipush 50, 2) := by decide +kernel
theorem dX5_readSinger_55 : decode cX5_readSinger 55 = .ok (.invokevirtual 123, 3) := by decide +kernel
theorem dX5_readSinger_58 : decode cX5_readSinger 58 = .ok (.invokevirtual 126, 3) := by decide +kernel
theorem dX5_readSinger_61 : decode cX5_readSinger 61 = .ok (.aload_n 0, 1) := by decide +kernel
theorem dX5_readSinger_62 : decode cX5_readSinger 62 = .ok (.getfield 42, 3) := by decide +kernel
theorem dX5_readSinger_65 : decode cX5_readSinger 65 = .ok (.iconst 0, 1) := by decide +kernel
theorem dX5_readSinger_66 : decode cX5_readSinger 66 = .ok (.bipush 63, 2) := by decide +kernel
theorem dX5_readSinger_68 : decode cX5_readSinger 68 = .ok (.invokevirtual 123, 3) := by decide +kernel
theorem dX5_readSinger_71 : decode cX5_readSinger 71 = .ok (.istore_n 1, 1) := by decide +kernel
theorem dX5_readSinger_72 : decode cX5_readSinger 72 = .ok (.aload_n 0, 1) := by decide +kernel
theorem dX5_readSinger_73 : decode cX5_readSinger 73 = .ok (.getfield 12, 3) := by decide +kernel
theorem dX5_readSinger_76 : decode cX5_readSinger 76 = .ok (.getfield 147, 3) := by decide +kernel
theorem dX5_readSinger_79 : decode cX5_readSinger 79 = .ok (.iload_n 1, 1) := by decide +kernel
theorem dX5_readSinger_80 : decode cX5_readSinger 80 = .ok (.invokevirtual 126, 3) := by decide +kernel
theorem dX5_readSinger_83 : decode cX5_readSinger 83 = .ok (.aload_n 0, 1) := by decide +kernel
theorem dX5_readSinger_84 : decode cX5_readSinger 84 = .ok (.getfield 12, 3) := by decide +kernel
theorem dX5_readSinger_87 : decode cX5_readSinger 87 = .ok (.getfield 150, 3) := by decide +kernel
theorem dX5_readSinger_90 : decode cX5_readSinger 90 = .ok (.aload_n 0, 1) := by decide +kernel
theorem dX5_readSinger_91 : decode cX5_readSinger 91 = .ok (.getfield 42, 3) := by decide +kernel
theorem dX5_readSinger_94 : decode cX5_readSinger 94 = .ok (.iload_n 1, 1) := by decide +kernel
theorem dX5_readSinger_95 : decode cX5_readSinger 95 = .ok (.bipush 63, 2) := by decide +kernel
theorem dX5_readSinger_97 : decode cX5_readSinger 97 = .ok (.invokevirtual 123, 3) := by decide +kernel
theorem dX5_readSinger_100 : decode cX5_readSinger 100 = .ok (.invokevirtual 126, 3) := by decide +kernel
theorem dX5_readSinger_103 : decode cX5_readSinger 103 = .ok (.aload_n 0, 1) := by decide +kernel
theorem dX5_readSinger_104 : decode cX5_readSinger 104 = .ok (.getfield 42, 3) := by decide +kernel
theorem dX5_readSinger_107 : decode cX5_readSinger 107 = .ok (.invokevirtual 138, 3) := by decide +kernel
theorem dX5_readSinger_110 : decode cX5_readSinger 110 = .ok (.return_, 1) := by decide +kernel
theorem dX5_readOnce_0 : decode cX5_readOnce 0 = .ok (.iload_n 1, 1) := by decide +kernel
theorem dX5_readOnce_1 : decode cX5_readOnce 1 = .ok (.ifCond .eq 11, 3) := by decide +kernel
theorem dX5_readOnce_4 : decode cX5_readOnce 4 = .ok (.aload_n 0, 1) := by decide +kernel
theorem dX5_readOnce_5 : decode cX5_readOnce 5 = .ok (.getfield 42, 3) := by decide +kernel
theorem dX5_readOnce_8 : decode cX5_readOnce 8 = .ok (.iconst 3, 1) := by decide +kernel
theorem dX5_readOnce_9 : decode cX5_readOnce 9 = .ok (.invokevirtual 114, 3) := by decide +kernel
theorem dX5_readOnce_12 : decode cX5_readOnce 12 = .ok (.aload_n 0, 1) := by decide +kernel
theorem dX5_readOnce_13 : decode cX5_readOnce 13 = .ok (.getfield 42, 3) := by decide +kernel
theorem dX5_readOnce_16 : decode cX5_readOnce 16 = .ok (.iconst 1, 1) := by decide +kernel
theorem dX5_readOnce_17 : decode cX5_readOnce 17 = .ok (.iload_n 2, 1) := by decide +kernel
theorem dX5_readOnce_18 : decode cX5_readOnce 18 = .ok (.invokevirtual 123, 3) := by decide +kernel
theorem dX5_readOnce_21 : decode cX5_readOnce 21 = .ok (.istore_n 3, 1) := by decide +kernel
theorem dX5_readOnce_22 : decode cX5_readOnce 22 = .ok (.aload_n 0, 1) := by decide +kernel
theorem dX5_readOnce_23 : decode cX5_readOnce 23 = .ok (.getfield 42, 3) := by decide +kernel
theorem dX5_readOnce_26 : decode cX5_readOnce 26 = .ok (.invokevirtual 138, 3) := by decide +kernel
theorem dX5_readOnce_29 : decode cX5_readOnce 29 = .ok (.iload_n 3, 1) := by decide +kernel
theorem dX5_readOnce_30 : decode cX5_readOnce 30 = .ok (.ireturn, 1) := by decide +kernel
theorem dX5_readNight_0 : decode cX5_readNight 0 = .ok (.aload_n 0, 1) := by decide +kernel
theorem dX5_readNight_1 : decode cX5_readNight 1 = .ok (.getfield 21, 3) := by decide +kernel
theorem dX5_readNight_4 : decode cX5_readNight 4 = .ok (.invokevirtual 153, 3) := by decide +kernel
theorem dX5_readNight_7 : decode cX5_readNight 7 = .ok (.aload_n 0, 1) := by decide +kernel
theorem dX5_readNight_8 : decode cX5_readNight 8 = .ok (.getfield 42, 3) := by decide +kernel
theorem dX5_readNight_11 : decode cX5_readNight 11 = .ok (.invokevirtual 53, 3) := by decide +kernel
theorem dX5_readNight_14 : decode cX5_readNight 14 = .ok (.iconst 0, 1) := by decide +kernel
theorem dX5_readNight_15 : decode cX5_readNight 15 = .ok (.istore_n 3, 1) := by decide +kernel
theorem dX5_readNight_16 : decode cX5_readNight 16 = .ok (.iload_n 3, 1) := by decide +kernel
theorem dX5_readNight_17 : decode cX5_readNight 17 = .ok (.sipush 400, 3) := by decide +kernel
theorem dX5_readNight_20 : decode cX5_readNight 20 = .ok (.if_icmp .ge 24, 3) := by decide +kernel
theorem dX5_readNight_23 : decode cX5_readNight 23 = .ok (.aload_n 0, 1) := by decide +kernel
theorem dX5_readNight_24 : decode cX5_readNight 24 = .ok (.getfield 42, 3) := by decide +kernel
theorem dX5_readNight_27 : decode cX5_readNight 27 = .ok (.invokevirtual 56, 3) := by decide +kernel
theorem dX5_readNight_30 : decode cX5_readNight 30 = .ok (.ifCond .eq 14, 3) := by decide +kernel
theorem dX5_readNight_33 : decode cX5_readNight 33 = .ok (.aload_n 0, 1) := by decide +kernel
theorem dX5_readNight_34 : decode cX5_readNight 34 = .ok (.aload_n 2, 1) := by decide +kernel
theorem dX5_readNight_35 : decode cX5_readNight 35 = .ok (.invokevirtual 154, 3) := by decide +kernel
theorem dX5_readNight_38 : decode cX5_readNight 38 = .ok (.iinc 3 1, 3) := by decide +kernel
theorem dX5_readNight_41 : decode cX5_readNight 41 = .ok (.goto (-25), 3) := by decide +kernel
theorem dX5_readNight_44 : decode cX5_readNight 44 = .ok (.aload_n 0, 1) := by decide +kernel
theorem dX5_readNight_45 : decode cX5_readNight 45 = .ok (.getfield 34, 3) := by decide +kernel
theorem dX5_readNight_48 : decode cX5_readNight 48 = .ok (.invokevirtual 63, 3) := by decide +kernel
theorem dX5_readNight_51 : decode cX5_readNight 51 = .ok (.aload_n 0, 1) := by decide +kernel
theorem dX5_readNight_52 : decode cX5_readNight 52 = .ok (.getfield 42, 3) := by decide +kernel
theorem dX5_readNight_55 : decode cX5_readNight 55 = .ok (.invokevirtual 64, 3) := by decide +kernel
theorem dX5_readNight_58 : decode cX5_readNight 58 = .ok (.ifCond .eq 14, 3) := by decide +kernel
theorem dX5_readNight_61 : decode cX5_readNight 61 = .ok (.bipush (-10), 2) := by decide +kernel
theorem dX5_readNight_63 : decode cX5_readNight 63 = .ok (.aload_n 0, 1) := by decide +kernel
theorem dX5_readNight_64 : decode cX5_readNight 64 = .ok (.getfield 42, 3) := by decide +kernel
theorem dX5_readNight_67 : decode cX5_readNight 67 = .ok (.getfield 67, 3) := by decide +kernel
theorem dX5_readNight_70 : decode cX5_readNight 70 = .ok (.isub, 1) := by decide +kernel
theorem dX5_readNight_71 : decode cX5_readNight 71 = .ok (.ireturn, 1) := by decide +kernel
theorem dX5_readNight_72 : decode cX5_readNight 72 = .ok (.aload_n 1, 1) := by decide +kernel
theorem dX5_readNight_73 : decode cX5_readNight 73 = .ok (.aload_n 0, 1) := by decide +kernel
theorem dX5_readNight_74 : decode cX5_readNight 74 = .ok (.getfield 21, 3) := by decide +kernel
theorem dX5_readNight_77 : decode cX5_readNight 77 = .ok (.invokevirtual 157, 3) := by decide +kernel
theorem dX5_readNight_80 : decode cX5_readNight 80 = .ok (.aload_n 1, 1) := by decide +kernel
theorem dX5_readNight_81 : decode cX5_readNight 81 = .ok (.invokevirtual 160, 3) := by decide +kernel
theorem dX5_readNight_84 : decode cX5_readNight 84 = .ok (.ireturn, 1) := by decide +kernel
theorem dX5_readSong_0 : decode cX5_readSong 0 = .ok (.aload_n 0, 1) := by decide +kernel
theorem dX5_readSong_1 : decode cX5_readSong 1 = .ok (.ldc 163, 2) := by decide +kernel
theorem dX5_readSong_3 : decode cX5_readSong 3 = .ok (.aload_n 0, 1) := by decide +kernel
theorem dX5_readSong_4 : decode cX5_readSong 4 = .ok (.getfield 21, 3) := by decide +kernel
theorem dX5_readSong_7 : decode cX5_readSong 7 = .ok (.getfield 165, 3) := by decide +kernel
theorem dX5_readSong_10 : decode cX5_readSong 10 = .ok (.invokevirtual 168, 3) := by decide +kernel
theorem dX5_readSong_13 : decode cX5_readSong 13 = .ok (.aload_n 0, 1) := by decide +kernel
theorem dX5_readSong_14 : decode cX5_readSong 14 = .ok (.getfield 21, 3) := by decide +kernel
theorem dX5_readSong_17 : decode cX5_readSong 17 = .ok (.getfield 165, 3) := by decide +kernel
theorem dX5_readSong_20 : decode cX5_readSong 20 = .ok (.aload_n 0, 1) := by decide +kernel
theorem dX5_readSong_21 : decode cX5_readSong 21 = .ok (.getfield 21, 3) := by decide +kernel
theorem dX5_readSong_24 : decode cX5_readSong 24 = .ok (.invokevirtual 160, 3) := by decide +kernel
theorem dX5_readSong_27 : decode cX5_readSong 27 = .ok (.iconst 1, 1) := by decide +kernel
theorem dX5_readSong_28 : decode cX5_readSong 28 = .ok (.isub, 1) := by decide +kernel
theorem dX5_readSong_29 : decode cX5_readSong 29 = .ok (.invokevirtual 172, 3) := by decide +kernel
theorem dX5_readSong_32 : decode cX5_readSong 32 = .ok (.istore_n 2, 1) := by decide +kernel
theorem dX5_readSong_33 : decode cX5_readSong 33 = .ok (.aload_n 0, 1) := by decide +kernel
theorem dX5_readSong_34 : decode cX5_readSong 34 = .ok (.getfield 42, 3) := by decide +kernel
theorem dX5_readSong_37 : decode cX5_readSong 37 = .ok (.iconst 0, 1) := by decide +kernel
theorem dX5_readSong_38 : decode cX5_readSong 38 = .ok (.sipush 599, 3) := by decide +kernel
theorem dX5_readSong_41 : decode cX5_readSong 41 = .ok (.invokevirtual 123, 3) := by decide +kernel
theorem dX5_readSong_44 : decode cX5_readSong 44 = .ok (.istore_n 3, 1) := by decide +kernel
theorem dX5_readSong_45 : decode cX5_readSong 45 = .ok (.iload_n 3, 1) := by decide +kernel
theorem dX5_readSong_46 : decode cX5_readSong 46 = .ok (.iload_n 2, 1) := by decide +kernel
theorem dX5_readSong_47 : decode cX5_readSong 47 = .ok (.if_icmp .ge 11, 3) := by decide +kernel
theorem dX5_readSong_50 : decode cX5_readSong 50 = .ok (.aload_n 0, 1) := by decide +kernel
theorem dX5_readSong_51 : decode cX5_readSong 51 = .ok (.getfield 42, 3) := by decide +kernel
theorem dX5_readSong_54 : decode cX5_readSong 54 = .ok (.iconst 4, 1) := by decide +kernel
theorem dX5_readSong_55 : decode cX5_readSong 55 = .ok (.invokevirtual 176, 3) := by decide +kernel
theorem dX5_readSong_58 : decode cX5_readSong 58 = .ok (.aload_n 0, 1) := by decide +kernel
theorem dX5_readSong_59 : decode cX5_readSong 59 = .ok (.getfield 42, 3) := by decide +kernel
theorem dX5_readSong_62 : decode cX5_readSong 62 = .ok (.iconst 0, 1) := by decide +kernel
theorem dX5_readSong_63 : decode cX5_readSong 63 = .ok (.aload_n 1, 1) := by decide +kernel
theorem dX5_readSong_64 : decode cX5_readSong 64 = .ok (.invokevirtual 179, 3) := by decide +kernel
theorem dX5_readSong_67 : decode cX5_readSong 67 = .ok (.iconst 1, 1) := by decide +kernel
theorem dX5_readSong_68 : decode cX5_readSong 68 = .ok (.isub, 1) := by decide +kernel
theorem dX5_readSong_69 : decode cX5_readSong 69 = .ok (.invokevirtual 123, 3) := by decide +kernel
theorem dX5_readSong_72 : decode cX5_readSong 72 = .ok (.istore 4, 2) := by decide +kernel
theorem dX5_readSong_74 : decode cX5_readSong 74 = .ok (.aload_n 0, 1) := by decide +kernel
theorem dX5_readSong_75 : decode cX5_readSong 75 = .ok (.getfield 42, 3) := by decide +kernel
theorem dX5_readSong_78 : decode cX5_readSong 78 = .ok (.aload_n 1, 1) := by decide +kernel
theorem dX5_readSong_79 : decode cX5_readSong 79 = .ok (.getfield 147, 3) := by decide +kernel
theorem dX5_readSong_82 : decode cX5_readSong 82 = .ok (.iload 4, 2) := by decide +kernel
theorem dX5_readSong_84 : decode cX5_readSong 84 = .ok (.invokevirtual 172, 3) := by decide +kernel
theorem dX5_readSong_87 : decode cX5_readSong 87 = .ok (.aload_n 1, 1) := by decide +kernel
theorem dX5_readSong_88 : decode cX5_readSong 88 = .ok (.getfield 150, 3) := by decide +kernel
theorem dX5_readSong_91 : decode cX5_readSong 91 = .ok (.iload 4, 2) := by decide +kernel
theorem dX5_readSong_93 : decode cX5_readSong 93 = .ok (.invokevirtual 172, 3) := by decide +kernel
theorem dX5_readSong_96 : decode cX5_readSong 96 = .ok (.invokevirtual 123, 3) := by decide +kernel
theorem dX5_readSong_99 : decode cX5_readSong 99 = .ok (.istore 5, 2) := by decide +kernel
theorem dX5_readSong_101 : decode cX5_readSong 101 = .ok (.aload_n 0, 1) := by decide +kernel
theorem dX5_readSong_102 : decode cX5_readSong 102 = .ok (.getfield 42, 3) := by decide +kernel
theorem dX5_readSong_105 : decode cX5_readSong 105 = .ok (.invokevirtual 138, 3) := by decide +kernel
theorem dX5_readSong_108 : decode cX5_readSong 108 = .ok (.aload_n 0, 1) := by decide +kernel
theorem dX5_readSong_109 : decode cX5_readSong 109 = .ok (.getfield 21, 3) := by decide +kernel
theorem dX5_readSong_112 : decode cX5_readSong 112 = .ok (.iload_n 3, 1) := by decide +kernel
theorem dX5_readSong_113 : decode cX5_readSong 113 = .ok (.iload 4, 2) := by decide +kernel
theorem dX5_readSong_115 : decode cX5_readSong 115 = .ok (.iload 5, 2) := by decide +kernel
theorem dX5_readSong_117 : decode cX5_readSong 117 = .ok (.invokevirtual 182, 3) := by decide +kernel
theorem dX5_readSong_120 : decode cX5_readSong 120 = .ok (.return_, 1) := by decide +kernel
theorem dX5_readMonth_0 : decode cX5_readMonth 0 = .ok (.aload_n 0, 1) := by decide +kernel
theorem dX5_readMonth_1 : decode cX5_readMonth 1 = .ok (.getfield 30, 3) := by decide +kernel
theorem dX5_readMonth_4 : decode cX5_readMonth 4 = .ok (.invokevirtual 63, 3) := by decide +kernel
theorem dX5_readMonth_7 : decode cX5_readMonth 7 = .ok (.aload_n 0, 1) := by decide +kernel
theorem dX5_readMonth_8 : decode cX5_readMonth 8 = .ok (.getfield 42, 3) := by decide +kernel
theorem dX5_readMonth_11 : decode cX5_readMonth 11 = .ok (.invokevirtual 53, 3) := by decide +kernel
theorem dX5_readMonth_14 : decode cX5_readMonth 14 = .ok (.iconst 0, 1) := by decide +kernel
theorem dX5_readMonth_15 : decode cX5_readMonth 15 = .ok (.istore_n 2, 1) := by decide +kernel
theorem dX5_readMonth_16 : decode cX5_readMonth 16 = .ok (.iload_n 2, 1) := by decide +kernel
theorem dX5_readMonth_17 : decode cX5_readMonth 17 = .ok (.sipush 400, 3) := by decide +kernel
theorem dX5_readMonth_20 : decode cX5_readMonth 20 = .ok (.if_icmp .ge 53, 3) := by decide +kernel
theorem dX5_readMonth_23 : decode cX5_readMonth 23 = .ok (.aload_n 0, 1) := by decide +kernel
theorem dX5_readMonth_24 : decode cX5_readMonth 24 = .ok (.getfield 42, 3) := by decide +kernel
theorem dX5_readMonth_27 : decode cX5_readMonth 27 = .ok (.invokevirtual 56, 3) := by decide +kernel
theorem dX5_readMonth_30 : decode cX5_readMonth 30 = .ok (.ifCond .eq 43, 3) := by decide +kernel
theorem dX5_readMonth_33 : decode cX5_readMonth 33 = .ok (.aload_n 0, 1) := by decide +kernel
theorem dX5_readMonth_34 : decode cX5_readMonth 34 = .ok (.ldc 185, 2) := by decide +kernel
theorem dX5_readMonth_36 : decode cX5_readMonth 36 = .ok (.aload_n 0, 1) := by decide +kernel
theorem dX5_readMonth_37 : decode cX5_readMonth 37 = .ok (.getfield 30, 3) := by decide +kernel
theorem dX5_readMonth_40 : decode cX5_readMonth 40 = .ok (.invokevirtual 168, 3) := by decide +kernel
theorem dX5_readMonth_43 : decode cX5_readMonth 43 = .ok (.aload_n 0, 1) := by decide +kernel
theorem dX5_readMonth_44 : decode cX5_readMonth 44 = .ok (.getfield 30, 3) := by decide +kernel
theorem dX5_readMonth_47 : decode cX5_readMonth 47 = .ok (.aload_n 0, 1) := by decide +kernel
theorem dX5_readMonth_48 : decode cX5_readMonth 48 = .ok (.getfield 42, 3) := by decide +kernel
theorem dX5_readMonth_51 : decode cX5_readMonth 51 = .ok (.iconst 0, 1) := by decide +kernel
theorem dX5_readMonth_52 : decode cX5_readMonth 52 = .ok (.bipush 9, 2) := by decide +kernel
theorem dX5_readMonth_54 : decode cX5_readMonth 54 = .ok (.invokevirtual 123, 3) := by decide +kernel
theorem dX5_readMonth_57 : decode cX5_readMonth 57 = .ok (.invokevirtual 126, 3) := by decide +kernel
theorem dX5_readMonth_60 : decode cX5_readMonth 60 = .ok (.aload_n 0, 1) := by decide +kernel
theorem dX5_readMonth_61 : decode cX5_readMonth 61 = .ok (.getfield 42, 3) := by decide +kernel
theorem dX5_readMonth_64 : decode cX5_readMonth 64 = .ok (.invokevirtual 138, 3) := by decide +kernel
theorem dX5_readMonth_67 : decode cX5_readMonth 67 = .ok (.iinc 2 1, 3) := by decide +kernel
theorem dX5_readMonth_70 : decode cX5_readMonth 70 = .ok (.goto (-54), 3) := by decide +kernel
theorem dX5_readMonth_73 : decode cX5_readMonth 73 = .ok (.aload_n 0, 1) := by decide +kernel
theorem dX5_readMonth_74 : decode cX5_readMonth 74 = .ok (.getfield 34, 3) := by decide +kernel
theorem dX5_readMonth_77 : decode cX5_readMonth 77 = .ok (.invokevirtual 63, 3) := by decide +kernel
theorem dX5_readMonth_80 : decode cX5_readMonth 80 = .ok (.aload_n 0, 1) := by decide +kernel
theorem dX5_readMonth_81 : decode cX5_readMonth 81 = .ok (.getfield 42, 3) := by decide +kernel
theorem dX5_readMonth_84 : decode cX5_readMonth 84 = .ok (.invokevirtual 64, 3) := by decide +kernel
theorem dX5_readMonth_87 : decode cX5_readMonth 87 = .ok (.ifCond .eq 14, 3) := by decide +kernel
theorem dX5_readMonth_90 : decode cX5_readMonth 90 = .ok (.bipush (-10), 2) := by decide +kernel
theorem dX5_readMonth_92 : decode cX5_readMonth 92 = .ok (.aload_n 0, 1) := by decide +kernel
theorem dX5_readMonth_93 : decode cX5_readMonth 93 = .ok (.getfield 42, 3) := by decide +kernel
theorem dX5_readMonth_96 : decode cX5_readMonth 96 = .ok (.getfield 67, 3) := by decide +kernel
theorem dX5_readMonth_99 : decode cX5_readMonth 99 = .ok (.isub, 1) := by decide +kernel
theorem dX5_readMonth_100 : decode cX5_readMonth 100 = .ok (.ireturn, 1) := by decide +kernel
theorem dX5_readMonth_101 : decode cX5_readMonth 101 = .ok (.aload_n 1, 1) := by decide +kernel
theorem dX5_readMonth_102 : decode cX5_readMonth 102 = .ok (.aload_n 0, 1) := by decide +kernel
theorem dX5_readMonth_103 : decode cX5_readMonth 103 = .ok (.getfield 30, 3) := by decide +kernel
theorem dX5_readMonth_106 : decode cX5_readMonth 106 = .ok (.invokevirtual 187, 3) := by decide +kernel
theorem dX5_readMonth_109 : decode cX5_readMonth 109 = .ok (.aload_n 1, 1) := by decide +kernel
theorem dX5_readMonth_110 : decode cX5_readMonth 110 = .ok (.invokevirtual 189, 3) := by decide +kernel
theorem dX5_readMonth_113 : decode cX5_readMonth 113 = .ok (.ireturn, 1) := by decide +kernel
theorem dX5_readOnlyWord_0 : decode cX5_readOnlyWord 0 = .ok (.aload_n 0, 1) := by decide +kernel
theorem dX5_readOnlyWord_1 : decode cX5_readOnlyWord 1 = .ok (.getfield 42, 3) := by decide +kernel
theorem dX5_readOnlyWord_4 : decode cX5_readOnlyWord 4 = .ok (.invokevirtual 81, 3) := by decide +kernel
theorem dX5_readOnlyWord_7 : decode cX5_readOnlyWord 7 = .ok (.aload_n 0, 1) := by decide +kernel
theorem dX5_readOnlyWord_8 : decode cX5_readOnlyWord 8 = .ok (.getfield 42, 3) := by decide +kernel
theorem dX5_readOnlyWord_11 : decode cX5_readOnlyWord 11 = .ok (.aload_n 1, 1) := by decide +kernel
theorem dX5_readOnlyWord_12 : decode cX5_readOnlyWord 12 = .ok (.invokevirtual 86, 3) := by decide +kernel
theorem dX5_readOnlyWord_15 : decode cX5_readOnlyWord 15 = .ok (.ifCond .ne 14, 3) := by decide +kernel
theorem dX5_readOnlyWord_18 : decode cX5_readOnlyWord 18 = .ok (.aload_n 0, 1) := by decide +kernel
theorem dX5_readOnlyWord_19 : decode cX5_readOnlyWord 19 = .ok (.getfield 42, 3) := by decide +kernel
theorem dX5_readOnlyWord_22 : decode cX5_readOnlyWord 22 = .ok (.iconst 1, 1) := by decide +kernel
theorem dX5_readOnlyWord_23 : decode cX5_readOnlyWord 23 = .ok (.invokevirtual 114, 3) := by decide +kernel
theorem dX5_readOnlyWord_26 : decode cX5_readOnlyWord 26 = .ok (.goto 18, 3) := by decide +kernel
theorem dX5_readOnlyWord_29 : decode cX5_readOnlyWord 29 = .ok (.aload_n 2, 1) := by decide +kernel
theorem dX5_readOnlyWord_30 : decode cX5_readOnlyWord 30 = .ok (.invokevirtual 120, 3) := by decide +kernel
theorem dX5_readOnlyWord_33 : decode cX5_readOnlyWord 33 = .ok (.ifCond .eq 11, 3) := by decide +kernel
theorem dX5_readOnlyWord_36 : decode cX5_readOnlyWord 36 = .ok (.aload_n 0, 1) := by decide +kernel
theorem dX5_readOnlyWord_37 : decode cX5_readOnlyWord 37 = .ok (.getfield 42, 3) := by decide +kernel
theorem dX5_readOnlyWord_40 : decode cX5_readOnlyWord 40 = .ok (.iconst 3, 1) := by decide +kernel
theorem dX5_readOnlyWord_41 : decode cX5_readOnlyWord 41 = .ok (.invokevirtual 114, 3) := by decide +kernel
theorem dX5_readOnlyWord_44 : decode cX5_readOnlyWord 44 = .ok (.return_, 1) := by decide +kernel
theorem dX6_init_0 : decode cX6_init 0 = .ok (.aload_n 0, 1) := by decide +kernel
theorem dX6_init_1 : decode cX6_init 1 = .ok (.invokespecial 3, 3) := by decide +kernel
theorem dX6_init_4 : decode cX6_init 4 = .ok (.aload_n 0, 1) := by decide +kernel
theorem dX6_init_5 : decode cX6_init 5 = .ok (.new 9, 3) := by decide +kernel
theorem dX6_init_8 : decode cX6_init 8 = .ok (.dup, 1) := by decide +kernel
theorem dX6_init_9 : decode cX6_init 9 = .ok (.bipush 10, 2) := by decide +kernel
theorem dX6_init_11 : decode cX6_init 11 = .ok (.invokespecial 11, 3) := by decide +kernel
theorem dX6_init_14 : decode cX6_init 14 = .ok (.putfield 14, 3) := by decide +kernel
theorem dX6_init_17 : decode cX6_init 17 = .ok (.aload_n 0, 1) := by decide +kernel
theorem dX6_init_18 : decode cX6_init 18 = .ok (.new 9, 3) := by decide +kernel
theorem dX6_init_21 : decode cX6_init 21 = .ok (.dup, 1) := by decide +kernel
theorem dX6_init_22 : decode cX6_init 22 = .ok (.bipush 10, 2) := by decide +kernel
theorem dX6_init_24 : decode cX6_init 24 = .ok (.invokespecial 11, 3) := by decide +kernel
theorem dX6_init_27 : decode cX6_init 27 = .ok (.putfield 20, 3) := by decide +kernel
theorem dX6_init_30 : decode cX6_init 30 = .ok (.aload_n 0, 1) := by decide +kernel
theorem dX6_init_31 : decode cX6_init 31 = .ok (.new 9, 3) := by decide +kernel
theorem dX6_init_34 : decode cX6_init 34 = .ok (.dup, 1) := by decide +kernel
theorem dX6_init_35 : decode cX6_init 35 = .ok (.bipush 10, 2) := by decide +kernel
theorem dX6_init_37 : decode cX6_init 37 = .ok (.invokespecial 11, 3) := by decide +kernel
theorem dX6_init_40 : decode cX6_init 40 = .ok (.putfield 23, 3) := by decide +kernel
theorem dX6_init_43 : decode cX6_init 43 = .ok (.aload_n 0, 1) := by decide +kernel
theorem dX6_init_44 : decode cX6_init 44 = .ok (.new 9, 3) := by decide +kernel
theorem dX6_init_47 : decode cX6_init 47 = .ok (.dup, 1) := by decide +kernel
theorem dX6_init_48 : decode cX6_init 48 = .ok (.bipush 10, 2) := by decide +kernel
theorem dX6_init_50 : decode cX6_init 50 = .ok (.invokespecial 11, 3) := by decide +kernel
theorem dX6_init_53 : decode cX6_init 53 = .ok (.putfield 26, 3) := by decide +kernel
theorem dX6_init_56 : decode cX6_init 56 = .ok (.aload_n 0, 1) := by decide +kernel
theorem dX6_init_57 : decode cX6_init 57 = .ok (.new 9, 3) := by decide +kernel
theorem dX6_init_60 : decode cX6_init 60 = .ok (.dup, 1) := by decide +kernel
theorem dX6_init_61 : decode cX6_init 61 = .ok (.bipush 8, 2) := by decide +kernel
theorem dX6_init_63 : decode cX6_init 63 = .ok (.invokespecial 11, 3) := by decide +kernel
theorem dX6_init_66 : decode cX6_init 66 = .ok (.putfield 29, 3) := by decide +kernel
theorem dX6_init_69 : decode cX6_init 69 = .ok (.aload_n 0, 1) := by decide +kernel
theorem dX6_init_70 : decode cX6_init 70 = .ok (.new 9, 3) := by decide +kernel
theorem dX6_init_73 : decode cX6_init 73 = .ok (.dup, 1) := by decide +kernel
theorem dX6_init_74 : decode cX6_init 74 = .ok (.bipush 8, 2) := by decide +kernel
theorem dX6_init_76 : decode cX6_init 76 = .ok (.invokespecial 11, 3) := by decide +kernel
theorem dX6_init_79 : decode cX6_init 79 = .ok (.putfield 32, 3) := by decide +kernel
theorem dX6_init_82 : decode cX6_init 82 = .ok (.aload_n 0, 1) := by decide +kernel
theorem dX6_init_83 : decode cX6_init 83 = .ok (.new 9, 3) := by decide +kernel
theorem dX6_init_86 : decode cX6_init 86 = .ok (.dup, 1) := by decide +kernel
theorem dX6_init_87 : decode cX6_init 87 = .ok (.bipush 8, 2) := by decide +kernel
theorem dX6_init_89 : decode cX6_init 89 = .ok (.invokespecial 11, 3) := by decide +kernel
theorem dX6_init_92 : decode cX6_init 92 = .ok (.putfield 35, 3) := by decide +kernel
theorem dX6_init_95 : decode cX6_init 95 = .ok (.aload_n 0, 1) := by decide +kernel
theorem dX6_init_96 : decode cX6_init 96 = .ok (.new 9, 3) := by decide +kernel
theorem dX6_init_99 : decode cX6_init 99 = .ok (.dup, 1) := by decide +kernel
theorem dX6_init_100 : decode cX6_init 100 = .ok (.bipush 8, 2) := by decide +kernel
theorem dX6_init_102 : decode cX6_init 102 = .ok (.invokespecial 11, 3) := by decide +kernel
theorem dX6_init_105 : decode cX6_init 105 = .ok (.putfield 38, 3) := by decide +kernel
theorem dX6_init_108 : decode cX6_init 108 = .ok (.return_, 1) := by decide +kernel
theorem dX6_lamps_0 : decode cX6_lamps 0 = .ok (.aload_n 0, 1) := by decide +kernel
theorem dX6_lamps_1 : decode cX6_lamps 1 = .ok (.getfield 14, 3) := by decide +kernel
theorem dX6_lamps_4 : decode cX6_lamps 4 = .ok (.invokevirtual 41, 3) := by decide +kernel
theorem dX6_lamps_7 : decode cX6_lamps 7 = .ok (.ireturn, 1) := by decide +kernel
theorem dX6_allLamps_0 : decode cX6_allLamps 0 = .ok (.iconst 1, 1) := by decide +kernel
theorem dX6_allLamps_1 : decode cX6_allLamps 1 = .ok (.aload_n 0, 1) := by decide +kernel
theorem dX6_allLamps_2 : decode cX6_allLamps 2 = .ok (.getfield 14, 3) := by decide +kernel
theorem dX6_allLamps_5 : decode cX6_allLamps 5 = .ok (.invokevirtual 41, 3) := by decide +kernel
theorem dX6_allLamps_8 : decode cX6_allLamps 8 = .ok (.ishl, 1) := by decide +kernel
theorem dX6_allLamps_9 : decode cX6_allLamps 9 = .ok (.iconst 1, 1) := by decide +kernel
theorem dX6_allLamps_10 : decode cX6_allLamps 10 = .ok (.isub, 1) := by decide +kernel
theorem dX6_allLamps_11 : decode cX6_allLamps 11 = .ok (.ireturn, 1) := by decide +kernel
theorem dX6_singers_0 : decode cX6_singers 0 = .ok (.aload_n 0, 1) := by decide +kernel
theorem dX6_singers_1 : decode cX6_singers 1 = .ok (.getfield 29, 3) := by decide +kernel
theorem dX6_singers_4 : decode cX6_singers 4 = .ok (.invokevirtual 41, 3) := by decide +kernel
theorem dX6_singers_7 : decode cX6_singers 7 = .ok (.ireturn, 1) := by decide +kernel
theorem dX6_empty_0 : decode cX6_empty 0 = .ok (.aload_n 0, 1) := by decide +kernel
theorem dX6_empty_1 : decode cX6_empty 1 = .ok (.getfield 14, 3) := by decide +kernel
theorem dX6_empty_4 : decode cX6_empty 4 = .ok (.invokevirtual 45, 3) := by decide +kernel
theorem dX6_empty_7 : decode cX6_empty 7 = .ok (.aload_n 0, 1) := by decide +kernel
theorem dX6_empty_8 : decode cX6_empty 8 = .ok (.getfield 20, 3) := by decide +kernel
theorem dX6_empty_11 : decode cX6_empty 11 = .ok (.invokevirtual 45, 3) := by decide +kernel
theorem dX6_empty_14 : decode cX6_empty 14 = .ok (.aload_n 0, 1) := by decide +kernel
theorem dX6_empty_15 : decode cX6_empty 15 = .ok (.getfield 23, 3) := by decide +kernel
theorem dX6_empty_18 : decode cX6_empty 18 = .ok (.invokevirtual 45, 3) := by decide +kernel
theorem dX6_empty_21 : decode cX6_empty 21 = .ok (.aload_n 0, 1) := by decide +kernel
theorem dX6_empty_22 : decode cX6_empty 22 = .ok (.getfield 26, 3) := by decide +kernel
theorem dX6_empty_25 : decode cX6_empty 25 = .ok (.invokevirtual 45, 3) := by decide +kernel
theorem dX6_empty_28 : decode cX6_empty 28 = .ok (.aload_n 0, 1) := by decide +kernel
theorem dX6_empty_29 : decode cX6_empty 29 = .ok (.getfield 29, 3) := by decide +kernel
theorem dX6_empty_32 : decode cX6_empty 32 = .ok (.invokevirtual 45, 3) := by decide +kernel
theorem dX6_empty_35 : decode cX6_empty 35 = .ok (.aload_n 0, 1) := by decide +kernel
theorem dX6_empty_36 : decode cX6_empty 36 = .ok (.getfield 32, 3) := by decide +kernel
theorem dX6_empty_39 : decode cX6_empty 39 = .ok (.invokevirtual 45, 3) := by decide +kernel
theorem dX6_empty_42 : decode cX6_empty 42 = .ok (.aload_n 0, 1) := by decide +kernel
theorem dX6_empty_43 : decode cX6_empty 43 = .ok (.getfield 35, 3) := by decide +kernel
theorem dX6_empty_46 : decode cX6_empty 46 = .ok (.invokevirtual 45, 3) := by decide +kernel
theorem dX6_empty_49 : decode cX6_empty 49 = .ok (.aload_n 0, 1) := by decide +kernel
theorem dX6_empty_50 : decode cX6_empty 50 = .ok (.getfield 38, 3) := by decide +kernel
theorem dX6_empty_53 : decode cX6_empty 53 = .ok (.invokevirtual 45, 3) := by decide +kernel
theorem dX6_empty_56 : decode cX6_empty 56 = .ok (.aload_n 0, 1) := by decide +kernel
theorem dX6_empty_57 : decode cX6_empty 57 = .ok (.iconst 0, 1) := by decide +kernel
theorem dX6_empty_58 : decode cX6_empty 58 = .ok (.putfield 48, 3) := by decide +kernel
theorem dX6_empty_61 : decode cX6_empty 61 = .ok (.aload_n 0, 1) := by decide +kernel
theorem dX6_empty_62 : decode cX6_empty 62 = .ok (.iconst 0, 1) := by decide +kernel
theorem dX6_empty_63 : decode cX6_empty 63 = .ok (.putfield 52, 3) := by decide +kernel
theorem dX6_empty_66 : decode cX6_empty 66 = .ok (.aload_n 0, 1) := by decide +kernel
theorem dX6_empty_67 : decode cX6_empty 67 = .ok (.iconst 0, 1) := by decide +kernel
theorem dX6_empty_68 : decode cX6_empty 68 = .ok (.putfield 55, 3) := by decide +kernel
theorem dX6_empty_71 : decode cX6_empty 71 = .ok (.return_, 1) := by decide +kernel
theorem dX6_fillUntold_0 : decode cX6_fillUntold 0 = .ok (.aload_n 0, 1) := by decide +kernel
theorem dX6_fillUntold_1 : decode cX6_fillUntold 1 = .ok (.aload_n 0, 1) := by decide +kernel
theorem dX6_fillUntold_2 : decode cX6_fillUntold 2 = .ok (.getfield 48, 3) := by decide +kernel
theorem dX6_fillUntold_5 : decode cX6_fillUntold 5 = .ok (.ifCond .ne 8, 3) := by decide +kernel
theorem dX6_fillUntold_8 : decode cX6_fillUntold 8 = .ok (.bipush 20, 2) := by decide +kernel
theorem dX6_fillUntold_10 : decode cX6_fillUntold 10 = .ok (.goto 7, 3) := by decide +kernel
theorem dX6_fillUntold_13 : decode cX6_fillUntold 13 = .ok (.aload_n 0, 1) := by decide +kernel
theorem dX6_fillUntold_14 : decode cX6_fillUntold 14 = .ok (.getfield 48, 3) := by decide +kernel
theorem dX6_fillUntold_17 : decode cX6_fillUntold 17 = .ok (.putfield 48, 3) := by decide +kernel
theorem dX6_fillUntold_20 : decode cX6_fillUntold 20 = .ok (.aload_n 0, 1) := by decide +kernel
theorem dX6_fillUntold_21 : decode cX6_fillUntold 21 = .ok (.aload_n 0, 1) := by decide +kernel
theorem dX6_fillUntold_22 : decode cX6_fillUntold 22 = .ok (.getfield 52, 3) := by decide +kernel
theorem dX6_fillUntold_25 : decode cX6_fillUntold 25 = .ok (.ifCond .ne 8, 3) := by decide +kernel
theorem dX6_fillUntold_28 : decode cX6_fillUntold 28 = .ok (.bipush 30, 2) := by decide +kernel
theorem dX6_fillUntold_30 : decode cX6_fillUntold 30 = .ok (.goto 7, 3) := by decide +kernel
theorem dX6_fillUntold_33 : decode cX6_fillUntold 33 = .ok (.aload_n 0, 1) := by decide +kernel
theorem dX6_fillUntold_34 : decode cX6_fillUntold 34 = .ok (.getfield 52, 3) := by decide +kernel
theorem dX6_fillUntold_37 : decode cX6_fillUntold 37 = .ok (.putfield 52, 3) := by decide +kernel
theorem dX6_fillUntold_40 : decode cX6_fillUntold 40 = .ok (.aload_n 0, 1) := by decide +kernel
theorem dX6_fillUntold_41 : decode cX6_fillUntold 41 = .ok (.aload_n 0, 1) := by decide +kernel
theorem dX6_fillUntold_42 : decode cX6_fillUntold 42 = .ok (.getfield 55, 3) := by decide +kernel
theorem dX6_fillUntold_45 : decode cX6_fillUntold 45 = .ok (.ifCond .ne 7, 3) := by decide +kernel
theorem dX6_fillUntold_48 : decode cX6_fillUntold 48 = .ok (.iconst 5, 1) := by decide +kernel
theorem dX6_fillUntold_49 : decode cX6_fillUntold 49 = .ok (.goto 7, 3) := by decide +kernel
theorem dX6_fillUntold_52 : decode cX6_fillUntold 52 = .ok (.aload_n 0, 1) := by decide +kernel
theorem dX6_fillUntold_53 : decode cX6_fillUntold 53 = .ok (.getfield 55, 3) := by decide +kernel
theorem dX6_fillUntold_56 : decode cX6_fillUntold 56 = .ok (.putfield 55, 3) := by decide +kernel
theorem dX6_fillUntold_59 : decode cX6_fillUntold 59 = .ok (.return_, 1) := by decide +kernel
theorem dX6_copy_0 : decode cX6_copy 0 = .ok (.aload_n 0, 1) := by decide +kernel
theorem dX6_copy_1 : decode cX6_copy 1 = .ok (.getfield 14, 3) := by decide +kernel
theorem dX6_copy_4 : decode cX6_copy 4 = .ok (.aload_n 1, 1) := by decide +kernel
theorem dX6_copy_5 : decode cX6_copy 5 = .ok (.getfield 14, 3) := by decide +kernel
theorem dX6_copy_8 : decode cX6_copy 8 = .ok (.invokevirtual 58, 3) := by decide +kernel
theorem dX6_copy_11 : decode cX6_copy 11 = .ok (.aload_n 0, 1) := by decide +kernel
theorem dX6_copy_12 : decode cX6_copy 12 = .ok (.getfield 20, 3) := by decide +kernel
theorem dX6_copy_15 : decode cX6_copy 15 = .ok (.aload_n 1, 1) := by decide +kernel
theorem dX6_copy_16 : decode cX6_copy 16 = .ok (.getfield 20, 3) := by decide +kernel
theorem dX6_copy_19 : decode cX6_copy 19 = .ok (.invokevirtual 58, 3) := by decide +kernel
theorem dX6_copy_22 : decode cX6_copy 22 = .ok (.aload_n 0, 1) := by decide +kernel
theorem dX6_copy_23 : decode cX6_copy 23 = .ok (.getfield 23, 3) := by decide +kernel
theorem dX6_copy_26 : decode cX6_copy 26 = .ok (.aload_n 1, 1) := by decide +kernel
theorem dX6_copy_27 : decode cX6_copy 27 = .ok (.getfield 23, 3) := by decide +kernel
theorem dX6_copy_30 : decode cX6_copy 30 = .ok (.invokevirtual 58, 3) := by decide +kernel
theorem dX6_copy_33 : decode cX6_copy 33 = .ok (.aload_n 0, 1) := by decide +kernel
theorem dX6_copy_34 : decode cX6_copy 34 = .ok (.getfield 26, 3) := by decide +kernel
theorem dX6_copy_37 : decode cX6_copy 37 = .ok (.aload_n 1, 1) := by decide +kernel
theorem dX6_copy_38 : decode cX6_copy 38 = .ok (.getfield 26, 3) := by decide +kernel
theorem dX6_copy_41 : decode cX6_copy 41 = .ok (.invokevirtual 58, 3) := by decide +kernel
theorem dX6_copy_44 : decode cX6_copy 44 = .ok (.aload_n 0, 1) := by decide +kernel
theorem dX6_copy_45 : decode cX6_copy 45 = .ok (.getfield 29, 3) := by decide +kernel
theorem dX6_copy_48 : decode cX6_copy 48 = .ok (.aload_n 1, 1) := by decide +kernel
theorem dX6_copy_49 : decode cX6_copy 49 = .ok (.getfield 29, 3) := by decide +kernel
theorem dX6_copy_52 : decode cX6_copy 52 = .ok (.invokevirtual 58, 3) := by decide +kernel
theorem dX6_copy_55 : decode cX6_copy 55 = .ok (.aload_n 0, 1) := by decide +kernel
theorem dX6_copy_56 : decode cX6_copy 56 = .ok (.getfield 32, 3) := by decide +kernel
theorem dX6_copy_59 : decode cX6_copy 59 = .ok (.aload_n 1, 1) := by decide +kernel
theorem dX6_copy_60 : decode cX6_copy 60 = .ok (.getfield 32, 3) := by decide +kernel
theorem dX6_copy_63 : decode cX6_copy 63 = .ok (.invokevirtual 58, 3) := by decide +kernel
theorem dX6_copy_66 : decode cX6_copy 66 = .ok (.aload_n 0, 1) := by decide +kernel
theorem dX6_copy_67 : decode cX6_copy 67 = .ok (.getfield 35, 3) := by decide +kernel
theorem dX6_copy_70 : decode cX6_copy 70 = .ok (.aload_n 1, 1) := by decide +kernel
theorem dX6_copy_71 : decode cX6_copy 71 = .ok (.getfield 35, 3) := by decide +kernel
theorem dX6_copy_74 : decode cX6_copy 74 = .ok (.invokevirtual 58, 3) := by decide +kernel
theorem dX6_copy_77 : decode cX6_copy 77 = .ok (.aload_n 0, 1) := by decide +kernel
theorem dX6_copy_78 : decode cX6_copy 78 = .ok (.getfield 38, 3) := by decide +kernel
theorem dX6_copy_81 : decode cX6_copy 81 = .ok (.aload_n 1, 1) := by decide +kernel
theorem dX6_copy_82 : decode cX6_copy 82 = .ok (.getfield 38, 3) := by decide +kernel
theorem dX6_copy_85 : decode cX6_copy 85 = .ok (.invokevirtual 58, 3) := by decide +kernel
theorem dX6_copy_88 : decode cX6_copy 88 = .ok (.aload_n 0, 1) := by decide +kernel
theorem dX6_copy_89 : decode cX6_copy 89 = .ok (.aload_n 1, 1) := by decide +kernel
theorem dX6_copy_90 : decode cX6_copy 90 = .ok (.getfield 48, 3) := by decide +kernel
theorem dX6_copy_93 : decode cX6_copy 93 = .ok (.putfield 48, 3) := by decide +kernel
theorem dX6_copy_96 : decode cX6_copy 96 = .ok (.aload_n 0, 1) := by decide +kernel
theorem dX6_copy_97 : decode cX6_copy 97 = .ok (.aload_n 1, 1) := by decide +kernel
theorem dX6_copy_98 : decode cX6_copy 98 = .ok (.getfield 52, 3) := by decide +kernel
theorem dX6_copy_101 : decode cX6_copy 101 = .ok (.putfield 52, 3) := by decide +kernel
theorem dX6_copy_104 : decode cX6_copy 104 = .ok (.aload_n 0, 1) := by decide +kernel
theorem dX6_copy_105 : decode cX6_copy 105 = .ok (.aload_n 1, 1) := by decide +kernel
theorem dX6_copy_106 : decode cX6_copy 106 = .ok (.getfield 55, 3) := by decide +kernel
theorem dX6_copy_109 : decode cX6_copy 109 = .ok (.putfield 55, 3) := by decide +kernel
theorem dX6_copy_112 : decode cX6_copy 112 = .ok (.return_, 1) := by decide +kernel
theorem dX7_init_0 : decode cX7_init 0 = .ok (.aload_n 0, 1) := by decide +kernel
theorem dX7_init_1 : decode cX7_init 1 = .ok (.invokespecial 3, 3) := by decide +kernel
theorem dX7_init_4 : decode cX7_init 4 = .ok (.aload_n 0, 1) := by decide +kernel
theorem dX7_init_5 : decode cX7_init 5 = .ok (.new 9, 3) := by decide +kernel
theorem dX7_init_8 : decode cX7_init 8 = .ok (.dup, 1) := by decide +kernel
theorem dX7_init_9 : decode cX7_init 9 = .ok (.bipush 30, 2) := by decide +kernel
theorem dX7_init_11 : decode cX7_init 11 = .ok (.invokespecial 11, 3) := by decide +kernel
theorem dX7_init_14 : decode cX7_init 14 = .ok (.putfield 14, 3) := by decide +kernel
theorem dX7_init_17 : decode cX7_init 17 = .ok (.aload_n 0, 1) := by decide +kernel
theorem dX7_init_18 : decode cX7_init 18 = .ok (.new 9, 3) := by decide +kernel
theorem dX7_init_21 : decode cX7_init 21 = .ok (.dup, 1) := by decide +kernel
theorem dX7_init_22 : decode cX7_init 22 = .ok (.bipush 30, 2) := by decide +kernel
theorem dX7_init_24 : decode cX7_init 24 = .ok (.invokespecial 11, 3) := by decide +kernel
theorem dX7_init_27 : decode cX7_init 27 = .ok (.putfield 20, 3) := by decide +kernel
theorem dX7_init_30 : decode cX7_init 30 = .ok (.aload_n 0, 1) := by decide +kernel
theorem dX7_init_31 : decode cX7_init 31 = .ok (.new 9, 3) := by decide +kernel
theorem dX7_init_34 : decode cX7_init 34 = .ok (.dup, 1) := by decide +kernel
theorem dX7_init_35 : decode cX7_init 35 = .ok (.bipush 30, 2) := by decide +kernel
theorem dX7_init_37 : decode cX7_init 37 = .ok (.invokespecial 11, 3) := by decide +kernel
theorem dX7_init_40 : decode cX7_init 40 = .ok (.putfield 23, 3) := by decide +kernel
theorem dX7_init_43 : decode cX7_init 43 = .ok (.return_, 1) := by decide +kernel
theorem dX7_count_0 : decode cX7_count 0 = .ok (.aload_n 0, 1) := by decide +kernel
theorem dX7_count_1 : decode cX7_count 1 = .ok (.getfield 14, 3) := by decide +kernel
theorem dX7_count_4 : decode cX7_count 4 = .ok (.invokevirtual 26, 3) := by decide +kernel
theorem dX7_count_7 : decode cX7_count 7 = .ok (.ireturn, 1) := by decide +kernel
theorem dX7_put_0 : decode cX7_put 0 = .ok (.aload_n 0, 1) := by decide +kernel
theorem dX7_put_1 : decode cX7_put 1 = .ok (.getfield 14, 3) := by decide +kernel
theorem dX7_put_4 : decode cX7_put 4 = .ok (.iload_n 1, 1) := by decide +kernel
theorem dX7_put_5 : decode cX7_put 5 = .ok (.invokevirtual 30, 3) := by decide +kernel
theorem dX7_put_8 : decode cX7_put 8 = .ok (.aload_n 0, 1) := by decide +kernel
theorem dX7_put_9 : decode cX7_put 9 = .ok (.getfield 20, 3) := by decide +kernel
theorem dX7_put_12 : decode cX7_put 12 = .ok (.iload_n 2, 1) := by decide +kernel
theorem dX7_put_13 : decode cX7_put 13 = .ok (.invokevirtual 30, 3) := by decide +kernel
theorem dX7_put_16 : decode cX7_put 16 = .ok (.aload_n 0, 1) := by decide +kernel
theorem dX7_put_17 : decode cX7_put 17 = .ok (.getfield 23, 3) := by decide +kernel
theorem dX7_put_20 : decode cX7_put 20 = .ok (.iload_n 3, 1) := by decide +kernel
theorem dX7_put_21 : decode cX7_put 21 = .ok (.invokevirtual 30, 3) := by decide +kernel
theorem dX7_put_24 : decode cX7_put 24 = .ok (.return_, 1) := by decide +kernel
theorem dX7_empty_0 : decode cX7_empty 0 = .ok (.aload_n 0, 1) := by decide +kernel
theorem dX7_empty_1 : decode cX7_empty 1 = .ok (.getfield 14, 3) := by decide +kernel
theorem dX7_empty_4 : decode cX7_empty 4 = .ok (.invokevirtual 33, 3) := by decide +kernel
theorem dX7_empty_7 : decode cX7_empty 7 = .ok (.aload_n 0, 1) := by decide +kernel
theorem dX7_empty_8 : decode cX7_empty 8 = .ok (.getfield 20, 3) := by decide +kernel
theorem dX7_empty_11 : decode cX7_empty 11 = .ok (.invokevirtual 33, 3) := by decide +kernel
theorem dX7_empty_14 : decode cX7_empty 14 = .ok (.aload_n 0, 1) := by decide +kernel
theorem dX7_empty_15 : decode cX7_empty 15 = .ok (.getfield 23, 3) := by decide +kernel
theorem dX7_empty_18 : decode cX7_empty 18 = .ok (.invokevirtual 33, 3) := by decide +kernel
theorem dX7_empty_21 : decode cX7_empty 21 = .ok (.return_, 1) := by decide +kernel
theorem dX7_copy_0 : decode cX7_copy 0 = .ok (.aload_n 0, 1) := by decide +kernel
theorem dX7_copy_1 : decode cX7_copy 1 = .ok (.getfield 14, 3) := by decide +kernel
theorem dX7_copy_4 : decode cX7_copy 4 = .ok (.aload_n 1, 1) := by decide +kernel
theorem dX7_copy_5 : decode cX7_copy 5 = .ok (.getfield 14, 3) := by decide +kernel
theorem dX7_copy_8 : decode cX7_copy 8 = .ok (.invokevirtual 36, 3) := by decide +kernel
theorem dX7_copy_11 : decode cX7_copy 11 = .ok (.aload_n 0, 1) := by decide +kernel
theorem dX7_copy_12 : decode cX7_copy 12 = .ok (.getfield 20, 3) := by decide +kernel
theorem dX7_copy_15 : decode cX7_copy 15 = .ok (.aload_n 1, 1) := by decide +kernel
theorem dX7_copy_16 : decode cX7_copy 16 = .ok (.getfield 20, 3) := by decide +kernel
theorem dX7_copy_19 : decode cX7_copy 19 = .ok (.invokevirtual 36, 3) := by decide +kernel
theorem dX7_copy_22 : decode cX7_copy 22 = .ok (.aload_n 0, 1) := by decide +kernel
theorem dX7_copy_23 : decode cX7_copy 23 = .ok (.getfield 23, 3) := by decide +kernel
theorem dX7_copy_26 : decode cX7_copy 26 = .ok (.aload_n 1, 1) := by decide +kernel
theorem dX7_copy_27 : decode cX7_copy 27 = .ok (.getfield 23, 3) := by decide +kernel
theorem dX7_copy_30 : decode cX7_copy 30 = .ok (.invokevirtual 36, 3) := by decide +kernel
theorem dX7_copy_33 : decode cX7_copy 33 = .ok (.return_, 1) := by decide +kernel
theorem dX8_init_0 : decode cX8_init 0 = .ok (.aload_n 0, 1) := by decide +kernel
theorem dX8_init_1 : decode cX8_init 1 = .ok (.invokespecial 3, 3) := by decide +kernel
theorem dX8_init_4 : decode cX8_init 4 = .ok (.aload_n 0, 1) := by decide +kernel
theorem dX8_init_5 : decode cX8_init 5 = .ok (.ldc 9, 2) := by decide +kernel
theorem dX8_init_7 : decode cX8_init 7 = .ok (.newarray .int, 2) := by decide +kernel
theorem dX8_init_9 : decode cX8_init 9 = .ok (.putfield 10, 3) := by decide +kernel
theorem dX8_init_12 : decode cX8_init 12 = .ok (.aload_n 0, 1) := by decide +kernel
theorem dX8_init_13 : decode cX8_init 13 = .ok (.bipush 50, 2) := by decide +kernel
theorem dX8_init_15 : decode cX8_init 15 = .ok (.newarray .int, 2) := by decide +kernel
theorem dX8_init_17 : decode cX8_init 17 = .ok (.putfield 16, 3) := by decide +kernel
theorem dX8_init_20 : decode cX8_init 20 = .ok (.aload_n 0, 1) := by decide +kernel
theorem dX8_init_21 : decode cX8_init 21 = .ok (.new 19, 3) := by decide +kernel
theorem dX8_init_24 : decode cX8_init 24 = .ok (.dup, 1) := by decide +kernel
theorem dX8_init_25 : decode cX8_init 25 = .ok (.bipush 64, 2) := by decide +kernel
theorem dX8_init_27 : decode cX8_init 27 = .ok (.invokespecial 21, 3) := by decide +kernel
theorem dX8_init_30 : decode cX8_init 30 = .ok (.putfield 24, 3) := by decide +kernel
theorem dX8_init_33 : decode cX8_init 33 = .ok (.aload_n 0, 1) := by decide +kernel
theorem dX8_init_34 : decode cX8_init 34 = .ok (.new 19, 3) := by decide +kernel
theorem dX8_init_37 : decode cX8_init 37 = .ok (.dup, 1) := by decide +kernel
theorem dX8_init_38 : decode cX8_init 38 = .ok (.bipush 59, 2) := by decide +kernel
theorem dX8_init_40 : decode cX8_init 40 = .ok (.invokespecial 21, 3) := by decide +kernel
theorem dX8_init_43 : decode cX8_init 43 = .ok (.putfield 28, 3) := by decide +kernel
theorem dX8_init_46 : decode cX8_init 46 = .ok (.aload_n 0, 1) := by decide +kernel
theorem dX8_init_47 : decode cX8_init 47 = .ok (.aload_n 1, 1) := by decide +kernel
theorem dX8_init_48 : decode cX8_init 48 = .ok (.putfield 31, 3) := by decide +kernel
theorem dX8_init_51 : decode cX8_init 51 = .ok (.return_, 1) := by decide +kernel
theorem dX8_minutes_0 : decode cX8_minutes 0 = .ok (.aload_n 0, 1) := by decide +kernel
theorem dX8_minutes_1 : decode cX8_minutes 1 = .ok (.getfield 35, 3) := by decide +kernel
theorem dX8_minutes_4 : decode cX8_minutes 4 = .ok (.ifCond .eq 13, 3) := by decide +kernel
theorem dX8_minutes_7 : decode cX8_minutes 7 = .ok (.aload_n 0, 1) := by decide +kernel
theorem dX8_minutes_8 : decode cX8_minutes 8 = .ok (.getfield 28, 3) := by decide +kernel
theorem dX8_minutes_11 : decode cX8_minutes 11 = .ok (.invokevirtual 39, 3) := by decide +kernel
theorem dX8_minutes_14 : decode cX8_minutes 14 = .ok (.goto 4, 3) := by decide +kernel
theorem dX8_minutes_17 : decode cX8_minutes 17 = .ok (.iconst (-1), 1) := by decide +kernel
theorem dX8_minutes_18 : decode cX8_minutes 18 = .ok (.ireturn, 1) := by decide +kernel
theorem dX8_step_0 : decode cX8_step 0 = .ok (.aload_n 0, 1) := by decide +kernel
theorem dX8_step_1 : decode cX8_step 1 = .ok (.getfield 35, 3) := by decide +kernel
theorem dX8_step_4 : decode cX8_step 4 = .ok (.ifCond .eq 29, 3) := by decide +kernel
theorem dX8_step_7 : decode cX8_step 7 = .ok (.iload_n 1, 1) := by decide +kernel
theorem dX8_step_8 : decode cX8_step 8 = .ok (.ifCond .lt 25, 3) := by decide +kernel
theorem dX8_step_11 : decode cX8_step 11 = .ok (.iload_n 1, 1) := by decide +kernel
theorem dX8_step_12 : decode cX8_step 12 = .ok (.aload_n 0, 1) := by decide +kernel
theorem dX8_step_13 : decode cX8_step 13 = .ok (.getfield 28, 3) := by decide +kernel
theorem dX8_step_16 : decode cX8_step 16 = .ok (.invokevirtual 39, 3) := by decide +kernel
theorem dX8_step_19 : decode cX8_step 19 = .ok (.if_icmp .ge 14, 3) := by decide +kernel
theorem dX8_step_22 : decode cX8_step 22 = .ok (.aload_n 0, 1) := by decide +kernel
theorem dX8_step_23 : decode cX8_step 23 = .ok (.getfield 28, 3) := by decide +kernel
theorem dX8_step_26 : decode cX8_step 26 = .ok (.iload_n 1, 1) := by decide +kernel
theorem dX8_step_27 : decode cX8_step 27 = .ok (.invokevirtual 43, 3) := by decide +kernel
theorem dX8_step_30 : decode cX8_step 30 = .ok (.goto 4, 3) := by decide +kernel
theorem dX8_step_33 : decode cX8_step 33 = .ok (.iconst (-1), 1) := by decide +kernel
theorem dX8_step_34 : decode cX8_step 34 = .ok (.ireturn, 1) := by decide +kernel
theorem dX8_find_0 : decode cX8_find 0 = .ok (.aload_n 0, 1) := by decide +kernel
theorem dX8_find_1 : decode cX8_find 1 = .ok (.getfield 47, 3) := by decide +kernel
theorem dX8_find_4 : decode cX8_find 4 = .ok (.ifCond .eq 4, 3) := by decide +kernel
theorem dX8_find_7 : decode cX8_find 7 = .ok (.return_, 1) := by decide +kernel
theorem dX8_find_8 : decode cX8_find 8 = .ok (.aload_n 0, 1) := by decide +kernel
theorem dX8_find_9 : decode cX8_find 9 = .ok (.getfield 31, 3) := by decide +kernel
theorem dX8_find_12 : decode cX8_find 12 = .ok (.aload_n 1, 1) := by decide +kernel
theorem dX8_find_13 : decode cX8_find 13 = .ok (.aload_n 1, 1) := by decide +kernel
theorem dX8_find_14 : decode cX8_find 14 = .ok (.getfield 50, 3) := by decide +kernel
theorem dX8_find_17 : decode cX8_find 17 = .ok (.getfield 56, 3) := by decide +kernel
theorem dX8_find_20 : decode cX8_find 20 = .ok (.invokevirtual 62, 3) := by decide +kernel
theorem dX8_find_23 : decode cX8_find 23 = .ok (.aload_n 0, 1) := by decide +kernel
theorem dX8_find_24 : decode cX8_find 24 = .ok (.aload_n 1, 1) := by decide +kernel
theorem dX8_find_25 : decode cX8_find 25 = .ok (.getfield 50, 3) := by decide +kernel
theorem dX8_find_28 : decode cX8_find 28 = .ok (.invokestatic 68, 3) := by decide +kernel
theorem dX8_find_31 : decode cX8_find 31 = .ok (.putfield 72, 3) := by decide +kernel
theorem dX8_find_34 : decode cX8_find 34 = .ok (.aload_n 0, 1) := by decide +kernel
theorem dX8_find_35 : decode cX8_find 35 = .ok (.getfield 72, 3) := by decide +kernel
theorem dX8_find_38 : decode cX8_find 38 = .ok (.istore_n 2, 1) := by decide +kernel
theorem dX8_find_39 : decode cX8_find 39 = .ok (.iload_n 2, 1) := by decide +kernel
theorem dX8_find_40 : decode cX8_find 40 = .ok (.ifCond .lt 54, 3) := by decide +kernel
theorem dX8_find_43 : decode cX8_find 43 = .ok (.iload_n 2, 1) := by decide +kernel
theorem dX8_find_44 : decode cX8_find 44 = .ok (.bipush 50, 2) := by decide +kernel
theorem dX8_find_46 : decode cX8_find 46 = .ok (.if_icmp .ge 48, 3) := by decide +kernel
theorem dX8_find_49 : decode cX8_find 49 = .ok (.aload_n 0, 1) := by decide +kernel
theorem dX8_find_50 : decode cX8_find 50 = .ok (.getfield 16, 3) := by decide +kernel
theorem dX8_find_53 : decode cX8_find 53 = .ok (.iload_n 2, 1) := by decide +kernel
theorem dX8_find_54 : decode cX8_find 54 = .ok (.aload_n 1, 1) := by decide +kernel
theorem dX8_find_55 : decode cX8_find 55 = .ok (.getfield 50, 3) := by decide +kernel
theorem dX8_find_58 : decode cX8_find 58 = .ok (.iload_n 2, 1) := by decide +kernel
theorem dX8_find_59 : decode cX8_find 59 = .ok (.invokestatic 75, 3) := by decide +kernel
theorem dX8_find_62 : decode cX8_find 62 = .ok (.iastore, 1) := by decide +kernel
theorem dX8_find_63 : decode cX8_find 63 = .ok (.aload_n 0, 1) := by decide +kernel
theorem dX8_find_64 : decode cX8_find 64 = .ok (.iload_n 2, 1) := by decide +kernel
theorem dX8_find_65 : decode cX8_find 65 = .ok (.invokevirtual 79, 3) := by decide +kernel
theorem dX8_find_68 : decode cX8_find 68 = .ok (.aload_n 0, 1) := by decide +kernel
theorem dX8_find_69 : decode cX8_find 69 = .ok (.iload_n 2, 1) := by decide +kernel
theorem dX8_find_70 : decode cX8_find 70 = .ok (.aload_n 1, 1) := by decide +kernel
theorem dX8_find_71 : decode cX8_find 71 = .ok (.getfield 50, 3) := by decide +kernel
theorem dX8_find_74 : decode cX8_find 74 = .ok (.iload_n 2, 1) := by decide +kernel
theorem dX8_find_75 : decode cX8_find 75 = .ok (.invokestatic 82, 3) := by decide +kernel
theorem dX8_find_78 : decode cX8_find 78 = .ok (.aload_n 1, 1) := by decide +kernel
theorem dX8_find_79 : decode cX8_find 79 = .ok (.getfield 50, 3) := by decide +kernel
theorem dX8_find_82 : decode cX8_find 82 = .ok (.invokevirtual 85, 3) := by decide +kernel
theorem dX8_find_85 : decode cX8_find 85 = .ok (.invokevirtual 88, 3) := by decide +kernel
theorem dX8_find_88 : decode cX8_find 88 = .ok (.iinc 2 (-1), 3) := by decide +kernel
theorem dX8_find_91 : decode cX8_find 91 = .ok (.goto (-52), 3) := by decide +kernel
theorem dX8_find_94 : decode cX8_find 94 = .ok (.aload_n 0, 1) := by decide +kernel
theorem dX8_find_95 : decode cX8_find 95 = .ok (.invokevirtual 92, 3) := by decide +kernel
theorem dX8_find_98 : decode cX8_find 98 = .ok (.aload_n 0, 1) := by decide +kernel
theorem dX8_find_99 : decode cX8_find 99 = .ok (.iconst 1, 1) := by decide +kernel
theorem dX8_find_100 : decode cX8_find 100 = .ok (.putfield 47, 3) := by decide +kernel
theorem dX8_find_103 : decode cX8_find 103 = .ok (.return_, 1) := by decide +kernel
theorem dX8_lastUseful_0 : decode cX8_lastUseful 0 = .ok (.iconst 0, 1) := by decide +kernel
theorem dX8_lastUseful_1 : decode cX8_lastUseful 1 = .ok (.istore_n 1, 1) := by decide +kernel
theorem dX8_lastUseful_2 : decode cX8_lastUseful 2 = .ok (.iconst 0, 1) := by decide +kernel
theorem dX8_lastUseful_3 : decode cX8_lastUseful 3 = .ok (.istore_n 2, 1) := by decide +kernel
theorem dX8_lastUseful_4 : decode cX8_lastUseful 4 = .ok (.iload_n 2, 1) := by decide +kernel
theorem dX8_lastUseful_5 : decode cX8_lastUseful 5 = .ok (.aload_n 0, 1) := by decide +kernel
theorem dX8_lastUseful_6 : decode cX8_lastUseful 6 = .ok (.invokevirtual 95, 3) := by decide +kernel
theorem dX8_lastUseful_9 : decode cX8_lastUseful 9 = .ok (.if_icmp .ge 29, 3) := by decide +kernel
theorem dX8_lastUseful_12 : decode cX8_lastUseful 12 = .ok (.iload_n 1, 1) := by decide +kernel
theorem dX8_lastUseful_13 : decode cX8_lastUseful 13 = .ok (.aload_n 0, 1) := by decide +kernel
theorem dX8_lastUseful_14 : decode cX8_lastUseful 14 = .ok (.getfield 98, 3) := by decide +kernel
theorem dX8_lastUseful_17 : decode cX8_lastUseful 17 = .ok (.iload_n 2, 1) := by decide +kernel
theorem dX8_lastUseful_18 : decode cX8_lastUseful 18 = .ok (.invokevirtual 43, 3) := by decide +kernel
theorem dX8_lastUseful_21 : decode cX8_lastUseful 21 = .ok (.aload_n 0, 1) := by decide +kernel
theorem dX8_lastUseful_22 : decode cX8_lastUseful 22 = .ok (.getfield 56, 3) := by decide +kernel
theorem dX8_lastUseful_25 : decode cX8_lastUseful 25 = .ok (.isub, 1) := by decide +kernel
theorem dX8_lastUseful_26 : decode cX8_lastUseful 26 = .ok (.iconst 1, 1) := by decide +kernel
theorem dX8_lastUseful_27 : decode cX8_lastUseful 27 = .ok (.iadd, 1) := by decide +kernel
theorem dX8_lastUseful_28 : decode cX8_lastUseful 28 = .ok (.invokestatic 101, 3) := by decide +kernel
theorem dX8_lastUseful_31 : decode cX8_lastUseful 31 = .ok (.istore_n 1, 1) := by decide +kernel
theorem dX8_lastUseful_32 : decode cX8_lastUseful 32 = .ok (.iinc 2 1, 3) := by decide +kernel
theorem dX8_lastUseful_35 : decode cX8_lastUseful 35 = .ok (.goto (-31), 3) := by decide +kernel
theorem dX8_lastUseful_38 : decode cX8_lastUseful 38 = .ok (.iload_n 1, 1) := by decide +kernel
theorem dX8_lastUseful_39 : decode cX8_lastUseful 39 = .ok (.ireturn, 1) := by decide +kernel
theorem dX8_behindAt_0 : decode cX8_behindAt 0 = .ok (.iconst 0, 1) := by decide +kernel
theorem dX8_behindAt_1 : decode cX8_behindAt 1 = .ok (.istore_n 2, 1) := by decide +kernel
theorem dX8_behindAt_2 : decode cX8_behindAt 2 = .ok (.iconst 0, 1) := by decide +kernel
theorem dX8_behindAt_3 : decode cX8_behindAt 3 = .ok (.istore_n 3, 1) := by decide +kernel
theorem dX8_behindAt_4 : decode cX8_behindAt 4 = .ok (.iload_n 3, 1) := by decide +kernel
theorem dX8_behindAt_5 : decode cX8_behindAt 5 = .ok (.aload_n 0, 1) := by decide +kernel
theorem dX8_behindAt_6 : decode cX8_behindAt 6 = .ok (.invokevirtual 95, 3) := by decide +kernel
theorem dX8_behindAt_9 : decode cX8_behindAt 9 = .ok (.if_icmp .ge 32, 3) := by decide +kernel
theorem dX8_behindAt_12 : decode cX8_behindAt 12 = .ok (.iload_n 1, 1) := by decide +kernel
theorem dX8_behindAt_13 : decode cX8_behindAt 13 = .ok (.aload_n 0, 1) := by decide +kernel
theorem dX8_behindAt_14 : decode cX8_behindAt 14 = .ok (.getfield 98, 3) := by decide +kernel
theorem dX8_behindAt_17 : decode cX8_behindAt 17 = .ok (.iload_n 3, 1) := by decide +kernel
theorem dX8_behindAt_18 : decode cX8_behindAt 18 = .ok (.invokevirtual 43, 3) := by decide +kernel
theorem dX8_behindAt_21 : decode cX8_behindAt 21 = .ok (.isub, 1) := by decide +kernel
theorem dX8_behindAt_22 : decode cX8_behindAt 22 = .ok (.aload_n 0, 1) := by decide +kernel
theorem dX8_behindAt_23 : decode cX8_behindAt 23 = .ok (.getfield 56, 3) := by decide +kernel
theorem dX8_behindAt_26 : decode cX8_behindAt 26 = .ok (.if_icmp .lt 9, 3) := by decide +kernel
theorem dX8_behindAt_29 : decode cX8_behindAt 29 = .ok (.iload_n 2, 1) := by decide +kernel
theorem dX8_behindAt_30 : decode cX8_behindAt 30 = .ok (.iconst 1, 1) := by decide +kernel
theorem dX8_behindAt_31 : decode cX8_behindAt 31 = .ok (.iload_n 3, 1) := by decide +kernel
theorem dX8_behindAt_32 : decode cX8_behindAt 32 = .ok (.ishl, 1) := by decide +kernel
theorem dX8_behindAt_33 : decode cX8_behindAt 33 = .ok (.ior, 1) := by decide +kernel
theorem dX8_behindAt_34 : decode cX8_behindAt 34 = .ok (.istore_n 2, 1) := by decide +kernel
theorem dX8_behindAt_35 : decode cX8_behindAt 35 = .ok (.iinc 3 1, 3) := by decide +kernel
theorem dX8_behindAt_38 : decode cX8_behindAt 38 = .ok (.goto (-34), 3) := by decide +kernel
theorem dX8_behindAt_41 : decode cX8_behindAt 41 = .ok (.iload_n 2, 1) := by decide +kernel
theorem dX8_behindAt_42 : decode cX8_behindAt 42 = .ok (.ireturn, 1) := by decide +kernel
theorem dX8_nearTo_0 : decode cX8_nearTo 0 = .ok (.iconst 0, 1) := by decide +kernel
theorem dX8_nearTo_1 : decode cX8_nearTo 1 = .ok (.istore_n 2, 1) := by decide +kernel
theorem dX8_nearTo_2 : decode cX8_nearTo 2 = .ok (.iconst 0, 1) := by decide +kernel
theorem dX8_nearTo_3 : decode cX8_nearTo 3 = .ok (.istore_n 3, 1) := by decide +kernel
theorem dX8_nearTo_4 : decode cX8_nearTo 4 = .ok (.iload_n 3, 1) := by decide +kernel
theorem dX8_nearTo_5 : decode cX8_nearTo 5 = .ok (.aload_n 0, 1) := by decide +kernel
theorem dX8_nearTo_6 : decode cX8_nearTo 6 = .ok (.invokevirtual 95, 3) := by decide +kernel
theorem dX8_nearTo_9 : decode cX8_nearTo 9 = .ok (.if_icmp .ge 35, 3) := by decide +kernel
theorem dX8_nearTo_12 : decode cX8_nearTo 12 = .ok (.iload_n 1, 1) := by decide +kernel
theorem dX8_nearTo_13 : decode cX8_nearTo 13 = .ok (.aload_n 0, 1) := by decide +kernel
theorem dX8_nearTo_14 : decode cX8_nearTo 14 = .ok (.getfield 98, 3) := by decide +kernel
theorem dX8_nearTo_17 : decode cX8_nearTo 17 = .ok (.iload_n 3, 1) := by decide +kernel
theorem dX8_nearTo_18 : decode cX8_nearTo 18 = .ok (.invokevirtual 43, 3) := by decide +kernel
theorem dX8_nearTo_21 : decode cX8_nearTo 21 = .ok (.isub, 1) := by decide +kernel
theorem dX8_nearTo_22 : decode cX8_nearTo 22 = .ok (.invokestatic 107, 3) := by decide +kernel
theorem dX8_nearTo_25 : decode cX8_nearTo 25 = .ok (.aload_n 0, 1) := by decide +kernel
theorem dX8_nearTo_26 : decode cX8_nearTo 26 = .ok (.getfield 56, 3) := by decide +kernel
theorem dX8_nearTo_29 : decode cX8_nearTo 29 = .ok (.if_icmp .ge 9, 3) := by decide +kernel
theorem dX8_nearTo_32 : decode cX8_nearTo 32 = .ok (.iload_n 2, 1) := by decide +kernel
theorem dX8_nearTo_33 : decode cX8_nearTo 33 = .ok (.iconst 1, 1) := by decide +kernel
theorem dX8_nearTo_34 : decode cX8_nearTo 34 = .ok (.iload_n 3, 1) := by decide +kernel
theorem dX8_nearTo_35 : decode cX8_nearTo 35 = .ok (.ishl, 1) := by decide +kernel
theorem dX8_nearTo_36 : decode cX8_nearTo 36 = .ok (.ior, 1) := by decide +kernel
theorem dX8_nearTo_37 : decode cX8_nearTo 37 = .ok (.istore_n 2, 1) := by decide +kernel
theorem dX8_nearTo_38 : decode cX8_nearTo 38 = .ok (.iinc 3 1, 3) := by decide +kernel
theorem dX8_nearTo_41 : decode cX8_nearTo 41 = .ok (.goto (-37), 3) := by decide +kernel
theorem dX8_nearTo_44 : decode cX8_nearTo 44 = .ok (.iload_n 2, 1) := by decide +kernel
theorem dX8_nearTo_45 : decode cX8_nearTo 45 = .ok (.ireturn, 1) := by decide +kernel
theorem dX8_gatherLargest_0 : decode cX8_gatherLargest 0 = .ok (.aload_n 0, 1) := by decide +kernel
theorem dX8_gatherLargest_1 : decode cX8_gatherLargest 1 = .ok (.getfield 24, 3) := by decide +kernel
theorem dX8_gatherLargest_4 : decode cX8_gatherLargest 4 = .ok (.invokevirtual 110, 3) := by decide +kernel
theorem dX8_gatherLargest_7 : decode cX8_gatherLargest 7 = .ok (.iconst 0, 1) := by decide +kernel
theorem dX8_gatherLargest_8 : decode cX8_gatherLargest 8 = .ok (.istore_n 2, 1) := by decide +kernel
theorem dX8_gatherLargest_9 : decode cX8_gatherLargest 9 = .ok (.iload_n 2, 1) := by decide +kernel
theorem dX8_gatherLargest_10 : decode cX8_gatherLargest 10 = .ok (.bipush 64, 2) := by decide +kernel
theorem dX8_gatherLargest_12 : decode cX8_gatherLargest 12 = .ok (.if_icmp .ge 31, 3) := by decide +kernel
theorem dX8_gatherLargest_15 : decode cX8_gatherLargest 15 = .ok (.aload_n 0, 1) := by decide +kernel
theorem dX8_gatherLargest_16 : decode cX8_gatherLargest 16 = .ok (.getfield 31, 3) := by decide +kernel
theorem dX8_gatherLargest_19 : decode cX8_gatherLargest 19 = .ok (.iload_n 1, 1) := by decide +kernel
theorem dX8_gatherLargest_20 : decode cX8_gatherLargest 20 = .ok (.iload_n 2, 1) := by decide +kernel
theorem dX8_gatherLargest_21 : decode cX8_gatherLargest 21 = .ok (.invokevirtual 113, 3) := by decide +kernel
theorem dX8_gatherLargest_24 : decode cX8_gatherLargest 24 = .ok (.istore_n 3, 1) := by decide +kernel
theorem dX8_gatherLargest_25 : decode cX8_gatherLargest 25 = .ok (.iload_n 3, 1) := by decide +kernel
theorem dX8_gatherLargest_26 : decode cX8_gatherLargest 26 = .ok (.ifCond .eq 11, 3) := by decide +kernel
theorem dX8_gatherLargest_29 : decode cX8_gatherLargest 29 = .ok (.aload_n 0, 1) := by decide +kernel
theorem dX8_gatherLargest_30 : decode cX8_gatherLargest 30 = .ok (.getfield 24, 3) := by decide +kernel
theorem dX8_gatherLargest_33 : decode cX8_gatherLargest 33 = .ok (.iload_n 3, 1) := by decide +kernel
theorem dX8_gatherLargest_34 : decode cX8_gatherLargest 34 = .ok (.invokevirtual 115, 3) := by decide +kernel
theorem dX8_gatherLargest_37 : decode cX8_gatherLargest 37 = .ok (.iinc 2 1, 3) := by decide +kernel
theorem dX8_gatherLargest_40 : decode cX8_gatherLargest 40 = .ok (.goto (-31), 3) := by decide +kernel
theorem dX8_gatherLargest_43 : decode cX8_gatherLargest 43 = .ok (.return_, 1) := by decide +kernel
theorem dX8_countMinutesAt_0 : decode cX8_countMinutesAt 0 = .ok (.iload_n 2, 1) := by decide +kernel
theorem dX8_countMinutesAt_1 : decode cX8_countMinutesAt 1 = .ok (.istore 4, 2) := by decide +kernel
theorem dX8_countMinutesAt_3 : decode cX8_countMinutesAt 3 = .ok (.iconst 0, 1) := by decide +kernel
theorem dX8_countMinutesAt_4 : decode cX8_countMinutesAt 4 = .ok (.istore 5, 2) := by decide +kernel
theorem dX8_countMinutesAt_6 : decode cX8_countMinutesAt 6 = .ok (.iload 5, 2) := by decide +kernel
theorem dX8_countMinutesAt_8 : decode cX8_countMinutesAt 8 = .ok (.sipush 1024, 3) := by decide +kernel
theorem dX8_countMinutesAt_11 : decode cX8_countMinutesAt 11 = .ok (.if_icmp .ge 80, 3) := by decide +kernel
theorem dX8_countMinutesAt_14 : decode cX8_countMinutesAt 14 = .ok (.iload 4, 2) := by decide +kernel
theorem dX8_countMinutesAt_16 : decode cX8_countMinutesAt 16 = .ok (.ifCond .lt 75, 3) := by decide +kernel
theorem dX8_countMinutesAt_19 : decode cX8_countMinutesAt 19 = .ok (.aload_n 0, 1) := by decide +kernel
theorem dX8_countMinutesAt_20 : decode cX8_countMinutesAt 20 = .ok (.getfield 16, 3) := by decide +kernel
theorem dX8_countMinutesAt_23 : decode cX8_countMinutesAt 23 = .ok (.iload_n 1, 1) := by decide +kernel
theorem dX8_countMinutesAt_24 : decode cX8_countMinutesAt 24 = .ok (.iaload, 1) := by decide +kernel
theorem dX8_countMinutesAt_25 : decode cX8_countMinutesAt 25 = .ok (.iload 4, 2) := by decide +kernel
theorem dX8_countMinutesAt_27 : decode cX8_countMinutesAt 27 = .ok (.ior, 1) := by decide +kernel
theorem dX8_countMinutesAt_28 : decode cX8_countMinutesAt 28 = .ok (.istore 6, 2) := by decide +kernel
theorem dX8_countMinutesAt_30 : decode cX8_countMinutesAt 30 = .ok (.iload 6, 2) := by decide +kernel
theorem dX8_countMinutesAt_32 : decode cX8_countMinutesAt 32 = .ok (.sipush 1024, 3) := by decide +kernel
theorem dX8_countMinutesAt_35 : decode cX8_countMinutesAt 35 = .ok (.if_icmp .ge 33, 3) := by decide +kernel
theorem dX8_countMinutesAt_38 : decode cX8_countMinutesAt 38 = .ok (.aload_n 0, 1) := by decide +kernel
theorem dX8_countMinutesAt_39 : decode cX8_countMinutesAt 39 = .ok (.getfield 10, 3) := by decide +kernel
theorem dX8_countMinutesAt_42 : decode cX8_countMinutesAt 42 = .ok (.iload_n 1, 1) := by decide +kernel
theorem dX8_countMinutesAt_43 : decode cX8_countMinutesAt 43 = .ok (.sipush 1024, 3) := by decide +kernel
theorem dX8_countMinutesAt_46 : decode cX8_countMinutesAt 46 = .ok (.imul, 1) := by decide +kernel
theorem dX8_countMinutesAt_47 : decode cX8_countMinutesAt 47 = .ok (.iload 6, 2) := by decide +kernel
theorem dX8_countMinutesAt_49 : decode cX8_countMinutesAt 49 = .ok (.iadd, 1) := by decide +kernel
theorem dX8_countMinutesAt_50 : decode cX8_countMinutesAt 50 = .ok (.iload 6, 2) := by decide +kernel
theorem dX8_countMinutesAt_52 : decode cX8_countMinutesAt 52 = .ok (.iload_n 3, 1) := by decide +kernel
theorem dX8_countMinutesAt_53 : decode cX8_countMinutesAt 53 = .ok (.if_icmp .ne 7, 3) := by decide +kernel
theorem dX8_countMinutesAt_56 : decode cX8_countMinutesAt 56 = .ok (.iconst 0, 1) := by decide +kernel
theorem dX8_countMinutesAt_57 : decode cX8_countMinutesAt 57 = .ok (.goto 10, 3) := by decide +kernel
theorem dX8_countMinutesAt_60 : decode cX8_countMinutesAt 60 = .ok (.aload_n 0, 1) := by decide +kernel
theorem dX8_countMinutesAt_61 : decode cX8_countMinutesAt 61 = .ok (.iload_n 1, 1) := by decide +kernel
theorem dX8_countMinutesAt_62 : decode cX8_countMinutesAt 62 = .ok (.iload 6, 2) := by decide +kernel
theorem dX8_countMinutesAt_64 : decode cX8_countMinutesAt 64 = .ok (.invokevirtual 118, 3) := by decide +kernel
theorem dX8_countMinutesAt_67 : decode cX8_countMinutesAt 67 = .ok (.iastore, 1) := by decide +kernel
theorem dX8_countMinutesAt_68 : decode cX8_countMinutesAt 68 = .ok (.iload 4, 2) := by decide +kernel
theorem dX8_countMinutesAt_70 : decode cX8_countMinutesAt 70 = .ok (.ifCond .ne 7, 3) := by decide +kernel
theorem dX8_countMinutesAt_73 : decode cX8_countMinutesAt 73 = .ok (.iconst (-1), 1) := by decide +kernel
theorem dX8_countMinutesAt_74 : decode cX8_countMinutesAt 74 = .ok (.goto 9, 3) := by decide +kernel
theorem dX8_countMinutesAt_77 : decode cX8_countMinutesAt 77 = .ok (.iload 4, 2) := by decide +kernel
theorem dX8_countMinutesAt_79 : decode cX8_countMinutesAt 79 = .ok (.iconst 1, 1) := by decide +kernel
theorem dX8_countMinutesAt_80 : decode cX8_countMinutesAt 80 = .ok (.isub, 1) := by decide +kernel
theorem dX8_countMinutesAt_81 : decode cX8_countMinutesAt 81 = .ok (.iload_n 2, 1) := by decide +kernel
theorem dX8_countMinutesAt_82 : decode cX8_countMinutesAt 82 = .ok (.iand, 1) := by decide +kernel
theorem dX8_countMinutesAt_83 : decode cX8_countMinutesAt 83 = .ok (.istore 4, 2) := by decide +kernel
theorem dX8_countMinutesAt_85 : decode cX8_countMinutesAt 85 = .ok (.iinc 5 1, 3) := by decide +kernel
theorem dX8_countMinutesAt_88 : decode cX8_countMinutesAt 88 = .ok (.goto (-82), 3) := by decide +kernel
theorem dX8_countMinutesAt_91 : decode cX8_countMinutesAt 91 = .ok (.return_, 1) := by decide +kernel
theorem dX8_fewestFrom_0 : decode cX8_fewestFrom 0 = .ok (.aload_n 0, 1) := by decide +kernel
theorem dX8_fewestFrom_1 : decode cX8_fewestFrom 1 = .ok (.iload_n 1, 1) := by decide +kernel
theorem dX8_fewestFrom_2 : decode cX8_fewestFrom 2 = .ok (.iconst 1, 1) := by decide +kernel
theorem dX8_fewestFrom_3 : decode cX8_fewestFrom 3 = .ok (.iadd, 1) := by decide +kernel
theorem dX8_fewestFrom_4 : decode cX8_fewestFrom 4 = .ok (.iload_n 2, 1) := by decide +kernel
theorem dX8_fewestFrom_5 : decode cX8_fewestFrom 5 = .ok (.invokevirtual 121, 3) := by decide +kernel
theorem dX8_fewestFrom_8 : decode cX8_fewestFrom 8 = .ok (.iconst 1, 1) := by decide +kernel
theorem dX8_fewestFrom_9 : decode cX8_fewestFrom 9 = .ok (.iadd, 1) := by decide +kernel
theorem dX8_fewestFrom_10 : decode cX8_fewestFrom 10 = .ok (.istore_n 3, 1) := by decide +kernel
theorem dX8_fewestFrom_11 : decode cX8_fewestFrom 11 = .ok (.iconst 0, 1) := by decide +kernel
theorem dX8_fewestFrom_12 : decode cX8_fewestFrom 12 = .ok (.istore 4, 2) := by decide +kernel
theorem dX8_fewestFrom_14 : decode cX8_fewestFrom 14 = .ok (.iload 4, 2) := by decide +kernel
theorem dX8_fewestFrom_16 : decode cX8_fewestFrom 16 = .ok (.aload_n 0, 1) := by decide +kernel
theorem dX8_fewestFrom_17 : decode cX8_fewestFrom 17 = .ok (.getfield 24, 3) := by decide +kernel
theorem dX8_fewestFrom_20 : decode cX8_fewestFrom 20 = .ok (.invokevirtual 39, 3) := by decide +kernel
theorem dX8_fewestFrom_23 : decode cX8_fewestFrom 23 = .ok (.if_icmp .ge 42, 3) := by decide +kernel
theorem dX8_fewestFrom_26 : decode cX8_fewestFrom 26 = .ok (.iload_n 2, 1) := by decide +kernel
theorem dX8_fewestFrom_27 : decode cX8_fewestFrom 27 = .ok (.aload_n 0, 1) := by decide +kernel
theorem dX8_fewestFrom_28 : decode cX8_fewestFrom 28 = .ok (.getfield 24, 3) := by decide +kernel
theorem dX8_fewestFrom_31 : decode cX8_fewestFrom 31 = .ok (.iload 4, 2) := by decide +kernel
theorem dX8_fewestFrom_33 : decode cX8_fewestFrom 33 = .ok (.invokevirtual 43, 3) := by decide +kernel
theorem dX8_fewestFrom_36 : decode cX8_fewestFrom 36 = .ok (.ior, 1) := by decide +kernel
theorem dX8_fewestFrom_37 : decode cX8_fewestFrom 37 = .ok (.istore 5, 2) := by decide +kernel
theorem dX8_fewestFrom_39 : decode cX8_fewestFrom 39 = .ok (.iload 5, 2) := by decide +kernel
theorem dX8_fewestFrom_41 : decode cX8_fewestFrom 41 = .ok (.iload_n 2, 1) := by decide +kernel
theorem dX8_fewestFrom_42 : decode cX8_fewestFrom 42 = .ok (.if_icmp .eq 17, 3) := by decide +kernel
theorem dX8_fewestFrom_45 : decode cX8_fewestFrom 45 = .ok (.iload_n 3, 1) := by decide +kernel
theorem dX8_fewestFrom_46 : decode cX8_fewestFrom 46 = .ok (.aload_n 0, 1) := by decide +kernel
theorem dX8_fewestFrom_47 : decode cX8_fewestFrom 47 = .ok (.iload_n 1, 1) := by decide +kernel
theorem dX8_fewestFrom_48 : decode cX8_fewestFrom 48 = .ok (.iload 5, 2) := by decide +kernel
theorem dX8_fewestFrom_50 : decode cX8_fewestFrom 50 = .ok (.invokevirtual 121, 3) := by decide +kernel
theorem dX8_fewestFrom_53 : decode cX8_fewestFrom 53 = .ok (.iconst 1, 1) := by decide +kernel
theorem dX8_fewestFrom_54 : decode cX8_fewestFrom 54 = .ok (.iadd, 1) := by decide +kernel
theorem dX8_fewestFrom_55 : decode cX8_fewestFrom 55 = .ok (.invokestatic 124, 3) := by decide +kernel
theorem dX8_fewestFrom_58 : decode cX8_fewestFrom 58 = .ok (.istore_n 3, 1) := by decide +kernel
theorem dX8_fewestFrom_59 : decode cX8_fewestFrom 59 = .ok (.iinc 4 1, 3) := by decide +kernel
theorem dX8_fewestFrom_62 : decode cX8_fewestFrom 62 = .ok (.goto (-48), 3) := by decide +kernel
theorem dX8_fewestFrom_65 : decode cX8_fewestFrom 65 = .ok (.iload_n 3, 1) := by decide +kernel
theorem dX8_fewestFrom_66 : decode cX8_fewestFrom 66 = .ok (.ldc 127, 2) := by decide +kernel
theorem dX8_fewestFrom_68 : decode cX8_fewestFrom 68 = .ok (.invokestatic 124, 3) := by decide +kernel
theorem dX8_fewestFrom_71 : decode cX8_fewestFrom 71 = .ok (.ireturn, 1) := by decide +kernel
theorem dX8_minutesFrom_0 : decode cX8_minutesFrom 0 = .ok (.iload_n 1, 1) := by decide +kernel
theorem dX8_minutesFrom_1 : decode cX8_minutesFrom 1 = .ok (.iconst 0, 1) := by decide +kernel
theorem dX8_minutesFrom_2 : decode cX8_minutesFrom 2 = .ok (.aload_n 0, 1) := by decide +kernel
theorem dX8_minutesFrom_3 : decode cX8_minutesFrom 3 = .ok (.getfield 72, 3) := by decide +kernel
theorem dX8_minutesFrom_6 : decode cX8_minutesFrom 6 = .ok (.bipush 49, 2) := by decide +kernel
theorem dX8_minutesFrom_8 : decode cX8_minutesFrom 8 = .ok (.invokestatic 124, 3) := by decide +kernel
theorem dX8_minutesFrom_11 : decode cX8_minutesFrom 11 = .ok (.invokestatic 128, 3) := by decide +kernel
theorem dX8_minutesFrom_14 : decode cX8_minutesFrom 14 = .ok (.ifCond .eq 18, 3) := by decide +kernel
theorem dX8_minutesFrom_17 : decode cX8_minutesFrom 17 = .ok (.iload_n 2, 1) := by decide +kernel
theorem dX8_minutesFrom_18 : decode cX8_minutesFrom 18 = .ok (.iconst 0, 1) := by decide +kernel
theorem dX8_minutesFrom_19 : decode cX8_minutesFrom 19 = .ok (.sipush 1023, 3) := by decide +kernel
theorem dX8_minutesFrom_22 : decode cX8_minutesFrom 22 = .ok (.invokestatic 128, 3) := by decide +kernel
theorem dX8_minutesFrom_25 : decode cX8_minutesFrom 25 = .ok (.ifCond .eq 7, 3) := by decide +kernel
theorem dX8_minutesFrom_28 : decode cX8_minutesFrom 28 = .ok (.iconst 1, 1) := by decide +kernel
theorem dX8_minutesFrom_29 : decode cX8_minutesFrom 29 = .ok (.goto 4, 3) := by decide +kernel
theorem dX8_minutesFrom_32 : decode cX8_minutesFrom 32 = .ok (.iconst 0, 1) := by decide +kernel
theorem dX8_minutesFrom_33 : decode cX8_minutesFrom 33 = .ok (.istore_n 3, 1) := by decide +kernel
theorem dX8_minutesFrom_34 : decode cX8_minutesFrom 34 = .ok (.iload_n 3, 1) := by decide +kernel
theorem dX8_minutesFrom_35 : decode cX8_minutesFrom 35 = .ok (.ifCond .eq 31, 3) := by decide +kernel
theorem dX8_minutesFrom_38 : decode cX8_minutesFrom 38 = .ok (.aload_n 0, 1) := by decide +kernel
theorem dX8_minutesFrom_39 : decode cX8_minutesFrom 39 = .ok (.getfield 16, 3) := by decide +kernel
theorem dX8_minutesFrom_42 : decode cX8_minutesFrom 42 = .ok (.iload_n 1, 1) := by decide +kernel
theorem dX8_minutesFrom_43 : decode cX8_minutesFrom 43 = .ok (.iaload, 1) := by decide +kernel
theorem dX8_minutesFrom_44 : decode cX8_minutesFrom 44 = .ok (.iload_n 2, 1) := by decide +kernel
theorem dX8_minutesFrom_45 : decode cX8_minutesFrom 45 = .ok (.iconst (-1), 1) := by decide +kernel
theorem dX8_minutesFrom_46 : decode cX8_minutesFrom 46 = .ok (.ixor, 1) := by decide +kernel
theorem dX8_minutesFrom_47 : decode cX8_minutesFrom 47 = .ok (.iand, 1) := by decide +kernel
theorem dX8_minutesFrom_48 : decode cX8_minutesFrom 48 = .ok (.ifCond .ne 18, 3) := by decide +kernel
theorem dX8_minutesFrom_51 : decode cX8_minutesFrom 51 = .ok (.aload_n 0, 1) := by decide +kernel
theorem dX8_minutesFrom_52 : decode cX8_minutesFrom 52 = .ok (.getfield 10, 3) := by decide +kernel
theorem dX8_minutesFrom_55 : decode cX8_minutesFrom 55 = .ok (.iload_n 1, 1) := by decide +kernel
theorem dX8_minutesFrom_56 : decode cX8_minutesFrom 56 = .ok (.sipush 1024, 3) := by decide +kernel
theorem dX8_minutesFrom_59 : decode cX8_minutesFrom 59 = .ok (.imul, 1) := by decide +kernel
theorem dX8_minutesFrom_60 : decode cX8_minutesFrom 60 = .ok (.iload_n 2, 1) := by decide +kernel
theorem dX8_minutesFrom_61 : decode cX8_minutesFrom 61 = .ok (.iadd, 1) := by decide +kernel
theorem dX8_minutesFrom_62 : decode cX8_minutesFrom 62 = .ok (.iaload, 1) := by decide +kernel
theorem dX8_minutesFrom_63 : decode cX8_minutesFrom 63 = .ok (.goto 5, 3) := by decide +kernel
theorem dX8_minutesFrom_66 : decode cX8_minutesFrom 66 = .ok (.ldc 127, 2) := by decide +kernel
theorem dX8_minutesFrom_68 : decode cX8_minutesFrom 68 = .ok (.ireturn, 1) := by decide +kernel
theorem dX8_writeSteps_0 : decode cX8_writeSteps 0 = .ok (.aload_n 0, 1) := by decide +kernel
theorem dX8_writeSteps_1 : decode cX8_writeSteps 1 = .ok (.getfield 28, 3) := by decide +kernel
theorem dX8_writeSteps_4 : decode cX8_writeSteps 4 = .ok (.invokevirtual 110, 3) := by decide +kernel
theorem dX8_writeSteps_7 : decode cX8_writeSteps 7 = .ok (.aload_n 0, 1) := by decide +kernel
theorem dX8_writeSteps_8 : decode cX8_writeSteps 8 = .ok (.iconst 0, 1) := by decide +kernel
theorem dX8_writeSteps_9 : decode cX8_writeSteps 9 = .ok (.iconst 0, 1) := by decide +kernel
theorem dX8_writeSteps_10 : decode cX8_writeSteps 10 = .ok (.invokevirtual 121, 3) := by decide +kernel
theorem dX8_writeSteps_13 : decode cX8_writeSteps 13 = .ok (.istore_n 1, 1) := by decide +kernel
theorem dX8_writeSteps_14 : decode cX8_writeSteps 14 = .ok (.aload_n 0, 1) := by decide +kernel
theorem dX8_writeSteps_15 : decode cX8_writeSteps 15 = .ok (.iload_n 1, 1) := by decide +kernel
theorem dX8_writeSteps_16 : decode cX8_writeSteps 16 = .ok (.ldc 127, 2) := by decide +kernel
theorem dX8_writeSteps_18 : decode cX8_writeSteps 18 = .ok (.if_icmp .ge 7, 3) := by decide +kernel
theorem dX8_writeSteps_21 : decode cX8_writeSteps 21 = .ok (.iconst 1, 1) := by decide +kernel
theorem dX8_writeSteps_22 : decode cX8_writeSteps 22 = .ok (.goto 4, 3) := by decide +kernel
theorem dX8_writeSteps_25 : decode cX8_writeSteps 25 = .ok (.iconst 0, 1) := by decide +kernel
theorem dX8_writeSteps_26 : decode cX8_writeSteps 26 = .ok (.putfield 35, 3) := by decide +kernel
theorem dX8_writeSteps_29 : decode cX8_writeSteps 29 = .ok (.iconst 0, 1) := by decide +kernel
theorem dX8_writeSteps_30 : decode cX8_writeSteps 30 = .ok (.istore_n 2, 1) := by decide +kernel
theorem dX8_writeSteps_31 : decode cX8_writeSteps 31 = .ok (.iconst 0, 1) := by decide +kernel
theorem dX8_writeSteps_32 : decode cX8_writeSteps 32 = .ok (.istore_n 3, 1) := by decide +kernel
theorem dX8_writeSteps_33 : decode cX8_writeSteps 33 = .ok (.iload_n 1, 1) := by decide +kernel
theorem dX8_writeSteps_34 : decode cX8_writeSteps 34 = .ok (.iconst 1, 1) := by decide +kernel
theorem dX8_writeSteps_35 : decode cX8_writeSteps 35 = .ok (.isub, 1) := by decide +kernel
theorem dX8_writeSteps_36 : decode cX8_writeSteps 36 = .ok (.istore 4, 2) := by decide +kernel
theorem dX8_writeSteps_38 : decode cX8_writeSteps 38 = .ok (.aload_n 0, 1) := by decide +kernel
theorem dX8_writeSteps_39 : decode cX8_writeSteps 39 = .ok (.getfield 35, 3) := by decide +kernel
theorem dX8_writeSteps_42 : decode cX8_writeSteps 42 = .ok (.ifCond .eq 67, 3) := by decide +kernel
theorem dX8_writeSteps_45 : decode cX8_writeSteps 45 = .ok (.iload 4, 2) := by decide +kernel
theorem dX8_writeSteps_47 : decode cX8_writeSteps 47 = .ok (.ifCond .lt 62, 3) := by decide +kernel
theorem dX8_writeSteps_50 : decode cX8_writeSteps 50 = .ok (.aload_n 0, 1) := by decide +kernel
theorem dX8_writeSteps_51 : decode cX8_writeSteps 51 = .ok (.iload_n 2, 1) := by decide +kernel
theorem dX8_writeSteps_52 : decode cX8_writeSteps 52 = .ok (.iload_n 3, 1) := by decide +kernel
theorem dX8_writeSteps_53 : decode cX8_writeSteps 53 = .ok (.iload 4, 2) := by decide +kernel
theorem dX8_writeSteps_55 : decode cX8_writeSteps 55 = .ok (.invokevirtual 132, 3) := by decide +kernel
theorem dX8_writeSteps_58 : decode cX8_writeSteps 58 = .ok (.istore 5, 2) := by decide +kernel
theorem dX8_writeSteps_60 : decode cX8_writeSteps 60 = .ok (.iload 5, 2) := by decide +kernel
theorem dX8_writeSteps_62 : decode cX8_writeSteps 62 = .ok (.iconst (-1), 1) := by decide +kernel
theorem dX8_writeSteps_63 : decode cX8_writeSteps 63 = .ok (.if_icmp .ne 18, 3) := by decide +kernel
theorem dX8_writeSteps_66 : decode cX8_writeSteps 66 = .ok (.aload_n 0, 1) := by decide +kernel
theorem dX8_writeSteps_67 : decode cX8_writeSteps 67 = .ok (.getfield 28, 3) := by decide +kernel
theorem dX8_writeSteps_70 : decode cX8_writeSteps 70 = .ok (.bipush 64, 2) := by decide +kernel
theorem dX8_writeSteps_72 : decode cX8_writeSteps 72 = .ok (.invokevirtual 136, 3) := by decide +kernel
theorem dX8_writeSteps_75 : decode cX8_writeSteps 75 = .ok (.iinc 2 1, 3) := by decide +kernel
theorem dX8_writeSteps_78 : decode cX8_writeSteps 78 = .ok (.goto 25, 3) := by decide +kernel
theorem dX8_writeSteps_81 : decode cX8_writeSteps 81 = .ok (.aload_n 0, 1) := by decide +kernel
theorem dX8_writeSteps_82 : decode cX8_writeSteps 82 = .ok (.getfield 28, 3) := by decide +kernel
theorem dX8_writeSteps_85 : decode cX8_writeSteps 85 = .ok (.iload 5, 2) := by decide +kernel
theorem dX8_writeSteps_87 : decode cX8_writeSteps 87 = .ok (.invokevirtual 136, 3) := by decide +kernel
theorem dX8_writeSteps_90 : decode cX8_writeSteps 90 = .ok (.iload_n 3, 1) := by decide +kernel
theorem dX8_writeSteps_91 : decode cX8_writeSteps 91 = .ok (.aload_n 0, 1) := by decide +kernel
theorem dX8_writeSteps_92 : decode cX8_writeSteps 92 = .ok (.getfield 31, 3) := by decide +kernel
theorem dX8_writeSteps_95 : decode cX8_writeSteps 95 = .ok (.iload_n 2, 1) := by decide +kernel
theorem dX8_writeSteps_96 : decode cX8_writeSteps 96 = .ok (.iload 5, 2) := by decide +kernel
theorem dX8_writeSteps_98 : decode cX8_writeSteps 98 = .ok (.invokevirtual 113, 3) := by decide +kernel
theorem dX8_writeSteps_101 : decode cX8_writeSteps 101 = .ok (.ior, 1) := by decide +kernel
theorem dX8_writeSteps_102 : decode cX8_writeSteps 102 = .ok (.istore_n 3, 1) := by decide +kernel
theorem dX8_writeSteps_103 : decode cX8_writeSteps 103 = .ok (.iinc 4 (-1), 3) := by decide +kernel
theorem dX8_writeSteps_106 : decode cX8_writeSteps 106 = .ok (.goto (-68), 3) := by decide +kernel
theorem dX8_writeSteps_109 : decode cX8_writeSteps 109 = .ok (.return_, 1) := by decide +kernel
theorem dX8_firstHum_0 : decode cX8_firstHum 0 = .ok (.iconst 0, 1) := by decide +kernel
theorem dX8_firstHum_1 : decode cX8_firstHum 1 = .ok (.istore 4, 2) := by decide +kernel
theorem dX8_firstHum_3 : decode cX8_firstHum 3 = .ok (.iload 4, 2) := by decide +kernel
theorem dX8_firstHum_5 : decode cX8_firstHum 5 = .ok (.bipush 64, 2) := by decide +kernel
theorem dX8_firstHum_7 : decode cX8_firstHum 7 = .ok (.if_icmp .ge 33, 3) := by decide +kernel
theorem dX8_firstHum_10 : decode cX8_firstHum 10 = .ok (.aload_n 0, 1) := by decide +kernel
theorem dX8_firstHum_11 : decode cX8_firstHum 11 = .ok (.iload_n 1, 1) := by decide +kernel
theorem dX8_firstHum_12 : decode cX8_firstHum 12 = .ok (.iload_n 2, 1) := by decide +kernel
theorem dX8_firstHum_13 : decode cX8_firstHum 13 = .ok (.aload_n 0, 1) := by decide +kernel
theorem dX8_firstHum_14 : decode cX8_firstHum 14 = .ok (.getfield 31, 3) := by decide +kernel
theorem dX8_firstHum_17 : decode cX8_firstHum 17 = .ok (.iload_n 1, 1) := by decide +kernel
theorem dX8_firstHum_18 : decode cX8_firstHum 18 = .ok (.iload 4, 2) := by decide +kernel
theorem dX8_firstHum_20 : decode cX8_firstHum 20 = .ok (.invokevirtual 113, 3) := by decide +kernel
theorem dX8_firstHum_23 : decode cX8_firstHum 23 = .ok (.ior, 1) := by decide +kernel
theorem dX8_firstHum_24 : decode cX8_firstHum 24 = .ok (.invokevirtual 121, 3) := by decide +kernel
theorem dX8_firstHum_27 : decode cX8_firstHum 27 = .ok (.iload_n 3, 1) := by decide +kernel
theorem dX8_firstHum_28 : decode cX8_firstHum 28 = .ok (.if_icmp .ne 6, 3) := by decide +kernel
theorem dX8_firstHum_31 : decode cX8_firstHum 31 = .ok (.iload 4, 2) := by decide +kernel
theorem dX8_firstHum_33 : decode cX8_firstHum 33 = .ok (.ireturn, 1) := by decide +kernel
theorem dX8_firstHum_34 : decode cX8_firstHum 34 = .ok (.iinc 4 1, 3) := by decide +kernel
theorem dX8_firstHum_37 : decode cX8_firstHum 37 = .ok (.goto (-34), 3) := by decide +kernel
theorem dX8_firstHum_40 : decode cX8_firstHum 40 = .ok (.iconst (-1), 1) := by decide +kernel
theorem dX8_firstHum_41 : decode cX8_firstHum 41 = .ok (.ireturn, 1) := by decide +kernel
theorem dX8_wokenBy_0 : decode cX8_wokenBy 0 = .ok (.iconst 0, 1) := by decide +kernel
theorem dX8_wokenBy_1 : decode cX8_wokenBy 1 = .ok (.istore_n 2, 1) := by decide +kernel
theorem dX8_wokenBy_2 : decode cX8_wokenBy 2 = .ok (.iconst 0, 1) := by decide +kernel
theorem dX8_wokenBy_3 : decode cX8_wokenBy 3 = .ok (.istore_n 3, 1) := by decide +kernel
theorem dX8_wokenBy_4 : decode cX8_wokenBy 4 = .ok (.iconst 0, 1) := by decide +kernel
theorem dX8_wokenBy_5 : decode cX8_wokenBy 5 = .ok (.istore 4, 2) := by decide +kernel
theorem dX8_wokenBy_7 : decode cX8_wokenBy 7 = .ok (.iload 4, 2) := by decide +kernel
theorem dX8_wokenBy_9 : decode cX8_wokenBy 9 = .ok (.aload_n 0, 1) := by decide +kernel
theorem dX8_wokenBy_10 : decode cX8_wokenBy 10 = .ok (.getfield 28, 3) := by decide +kernel
theorem dX8_wokenBy_13 : decode cX8_wokenBy 13 = .ok (.invokevirtual 39, 3) := by decide +kernel
theorem dX8_wokenBy_16 : decode cX8_wokenBy 16 = .ok (.if_icmp .ge 53, 3) := by decide +kernel
theorem dX8_wokenBy_19 : decode cX8_wokenBy 19 = .ok (.aload_n 0, 1) := by decide +kernel
theorem dX8_wokenBy_20 : decode cX8_wokenBy 20 = .ok (.getfield 28, 3) := by decide +kernel
theorem dX8_wokenBy_23 : decode cX8_wokenBy 23 = .ok (.iload 4, 2) := by decide +kernel
theorem dX8_wokenBy_25 : decode cX8_wokenBy 25 = .ok (.invokevirtual 43, 3) := by decide +kernel
theorem dX8_wokenBy_28 : decode cX8_wokenBy 28 = .ok (.bipush 64, 2) := by decide +kernel
theorem dX8_wokenBy_30 : decode cX8_wokenBy 30 = .ok (.if_icmp .ne 9, 3) := by decide +kernel
theorem dX8_wokenBy_33 : decode cX8_wokenBy 33 = .ok (.iinc 2 1, 3) := by decide +kernel
theorem dX8_wokenBy_36 : decode cX8_wokenBy 36 = .ok (.goto 27, 3) := by decide +kernel
theorem dX8_wokenBy_39 : decode cX8_wokenBy 39 = .ok (.iload_n 3, 1) := by decide +kernel
theorem dX8_wokenBy_40 : decode cX8_wokenBy 40 = .ok (.aload_n 1, 1) := by decide +kernel
theorem dX8_wokenBy_41 : decode cX8_wokenBy 41 = .ok (.iload_n 2, 1) := by decide +kernel
theorem dX8_wokenBy_42 : decode cX8_wokenBy 42 = .ok (.aload_n 0, 1) := by decide +kernel
theorem dX8_wokenBy_43 : decode cX8_wokenBy 43 = .ok (.getfield 28, 3) := by decide +kernel
theorem dX8_wokenBy_46 : decode cX8_wokenBy 46 = .ok (.iload 4, 2) := by decide +kernel
theorem dX8_wokenBy_48 : decode cX8_wokenBy 48 = .ok (.invokevirtual 43, 3) := by decide +kernel
theorem dX8_wokenBy_51 : decode cX8_wokenBy 51 = .ok (.aload_n 1, 1) := by decide +kernel
theorem dX8_wokenBy_52 : decode cX8_wokenBy 52 = .ok (.getfield 50, 3) := by decide +kernel
theorem dX8_wokenBy_55 : decode cX8_wokenBy 55 = .ok (.getfield 56, 3) := by decide +kernel
theorem dX8_wokenBy_58 : decode cX8_wokenBy 58 = .ok (.invokevirtual 139, 3) := by decide +kernel
theorem dX8_wokenBy_61 : decode cX8_wokenBy 61 = .ok (.ior, 1) := by decide +kernel
theorem dX8_wokenBy_62 : decode cX8_wokenBy 62 = .ok (.istore_n 3, 1) := by decide +kernel
theorem dX8_wokenBy_63 : decode cX8_wokenBy 63 = .ok (.iinc 4 1, 3) := by decide +kernel
theorem dX8_wokenBy_66 : decode cX8_wokenBy 66 = .ok (.goto (-59), 3) := by decide +kernel
theorem dX8_wokenBy_69 : decode cX8_wokenBy 69 = .ok (.iload_n 3, 1) := by decide +kernel
theorem dX8_wokenBy_70 : decode cX8_wokenBy 70 = .ok (.ireturn, 1) := by decide +kernel
theorem dX9_init_0 : decode cX9_init 0 = .ok (.aload_n 0, 1) := by decide +kernel
theorem dX9_init_1 : decode cX9_init 1 = .ok (.invokespecial 3, 3) := by decide +kernel
theorem dX9_init_4 : decode cX9_init 4 = .ok (.aload_n 0, 1) := by decide +kernel
theorem dX9_init_5 : decode cX9_init 5 = .ok (.new 9, 3) := by decide +kernel
theorem dX9_init_8 : decode cX9_init 8 = .ok (.dup, 1) := by decide +kernel
theorem dX9_init_9 : decode cX9_init 9 = .ok (.sipush 1024, 3) := by decide +kernel
theorem dX9_init_12 : decode cX9_init 12 = .ok (.invokespecial 11, 3) := by decide +kernel
theorem dX9_init_15 : decode cX9_init 15 = .ok (.putfield 14, 3) := by decide +kernel
theorem dX9_init_18 : decode cX9_init 18 = .ok (.aload_n 0, 1) := by decide +kernel
theorem dX9_init_19 : decode cX9_init 19 = .ok (.sipush 1024, 3) := by decide +kernel
theorem dX9_init_22 : decode cX9_init 22 = .ok (.newarray .int, 2) := by decide +kernel
theorem dX9_init_24 : decode cX9_init 24 = .ok (.putfield 20, 3) := by decide +kernel
theorem dX9_init_27 : decode cX9_init 27 = .ok (.aload_n 0, 1) := by decide +kernel
theorem dX9_init_28 : decode cX9_init 28 = .ok (.new 9, 3) := by decide +kernel
theorem dX9_init_31 : decode cX9_init 31 = .ok (.dup, 1) := by decide +kernel
theorem dX9_init_32 : decode cX9_init 32 = .ok (.sipush 256, 3) := by decide +kernel
theorem dX9_init_35 : decode cX9_init 35 = .ok (.invokespecial 11, 3) := by decide +kernel
theorem dX9_init_38 : decode cX9_init 38 = .ok (.putfield 24, 3) := by decide +kernel
theorem dX9_init_41 : decode cX9_init 41 = .ok (.aload_n 0, 1) := by decide +kernel
theorem dX9_init_42 : decode cX9_init 42 = .ok (.sipush 1024, 3) := by decide +kernel
theorem dX9_init_45 : decode cX9_init 45 = .ok (.newarray .int, 2) := by decide +kernel
theorem dX9_init_47 : decode cX9_init 47 = .ok (.putfield 27, 3) := by decide +kernel
theorem dX9_init_50 : decode cX9_init 50 = .ok (.aload_n 0, 1) := by decide +kernel
theorem dX9_init_51 : decode cX9_init 51 = .ok (.bipush 64, 2) := by decide +kernel
theorem dX9_init_53 : decode cX9_init 53 = .ok (.newarray .int, 2) := by decide +kernel
theorem dX9_init_55 : decode cX9_init 55 = .ok (.putfield 30, 3) := by decide +kernel
theorem dX9_init_58 : decode cX9_init 58 = .ok (.aload_n 0, 1) := by decide +kernel
theorem dX9_init_59 : decode cX9_init 59 = .ok (.aload_n 1, 1) := by decide +kernel
theorem dX9_init_60 : decode cX9_init 60 = .ok (.putfield 33, 3) := by decide +kernel
theorem dX9_init_63 : decode cX9_init 63 = .ok (.return_, 1) := by decide +kernel
theorem dX9_gather_0 : decode cX9_gather 0 = .ok (.aload_n 0, 1) := by decide +kernel
theorem dX9_gather_1 : decode cX9_gather 1 = .ok (.getfield 14, 3) := by decide +kernel
theorem dX9_gather_4 : decode cX9_gather 4 = .ok (.invokevirtual 37, 3) := by decide +kernel
theorem dX9_gather_7 : decode cX9_gather 7 = .ok (.aload_n 0, 1) := by decide +kernel
theorem dX9_gather_8 : decode cX9_gather 8 = .ok (.getfield 20, 3) := by decide +kernel
theorem dX9_gather_11 : decode cX9_gather 11 = .ok (.iconst 0, 1) := by decide +kernel
theorem dX9_gather_12 : decode cX9_gather 12 = .ok (.invokestatic 40, 3) := by decide +kernel
theorem dX9_gather_15 : decode cX9_gather 15 = .ok (.iconst 0, 1) := by decide +kernel
theorem dX9_gather_16 : decode cX9_gather 16 = .ok (.istore_n 3, 1) := by decide +kernel
theorem dX9_gather_17 : decode cX9_gather 17 = .ok (.iload_n 3, 1) := by decide +kernel
theorem dX9_gather_18 : decode cX9_gather 18 = .ok (.bipush 50, 2) := by decide +kernel
theorem dX9_gather_20 : decode cX9_gather 20 = .ok (.if_icmp .ge 88, 3) := by decide +kernel
theorem dX9_gather_23 : decode cX9_gather 23 = .ok (.iconst 0, 1) := by decide +kernel
theorem dX9_gather_24 : decode cX9_gather 24 = .ok (.istore 4, 2) := by decide +kernel
theorem dX9_gather_26 : decode cX9_gather 26 = .ok (.iload 4, 2) := by decide +kernel
theorem dX9_gather_28 : decode cX9_gather 28 = .ok (.bipush 64, 2) := by decide +kernel
theorem dX9_gather_30 : decode cX9_gather 30 = .ok (.if_icmp .ge 72, 3) := by decide +kernel
theorem dX9_gather_33 : decode cX9_gather 33 = .ok (.aload_n 0, 1) := by decide +kernel
theorem dX9_gather_34 : decode cX9_gather 34 = .ok (.getfield 33, 3) := by decide +kernel
theorem dX9_gather_37 : decode cX9_gather 37 = .ok (.iload_n 3, 1) := by decide +kernel
theorem dX9_gather_38 : decode cX9_gather 38 = .ok (.iload 4, 2) := by decide +kernel
theorem dX9_gather_40 : decode cX9_gather 40 = .ok (.invokevirtual 46, 3) := by decide +kernel
theorem dX9_gather_43 : decode cX9_gather 43 = .ok (.istore 5, 2) := by decide +kernel
theorem dX9_gather_45 : decode cX9_gather 45 = .ok (.lload_n 1, 1) := by decide +kernel
theorem dX9_gather_46 : decode cX9_gather 46 = .ok (.iload 4, 2) := by decide +kernel
theorem dX9_gather_48 : decode cX9_gather 48 = .ok (.lushr, 1) := by decide +kernel
theorem dX9_gather_49 : decode cX9_gather 49 = .ok (.lconst 1, 1) := by decide +kernel
theorem dX9_gather_50 : decode cX9_gather 50 = .ok (.land, 1) := by decide +kernel
theorem dX9_gather_51 : decode cX9_gather 51 = .ok (.lconst 0, 1) := by decide +kernel
theorem dX9_gather_52 : decode cX9_gather 52 = .ok (.lcmp, 1) := by decide +kernel
theorem dX9_gather_53 : decode cX9_gather 53 = .ok (.ifCond .eq 43, 3) := by decide +kernel
theorem dX9_gather_56 : decode cX9_gather 56 = .ok (.iload 5, 2) := by decide +kernel
theorem dX9_gather_58 : decode cX9_gather 58 = .ok (.ifCond .lt 38, 3) := by decide +kernel
theorem dX9_gather_61 : decode cX9_gather 61 = .ok (.iload 5, 2) := by decide +kernel
theorem dX9_gather_63 : decode cX9_gather 63 = .ok (.sipush 1024, 3) := by decide +kernel
theorem dX9_gather_66 : decode cX9_gather 66 = .ok (.if_icmp .ge 30, 3) := by decide +kernel
theorem dX9_gather_69 : decode cX9_gather 69 = .ok (.aload_n 0, 1) := by decide +kernel
theorem dX9_gather_70 : decode cX9_gather 70 = .ok (.getfield 20, 3) := by decide +kernel
theorem dX9_gather_73 : decode cX9_gather 73 = .ok (.iload 5, 2) := by decide +kernel
theorem dX9_gather_75 : decode cX9_gather 75 = .ok (.iaload, 1) := by decide +kernel
theorem dX9_gather_76 : decode cX9_gather 76 = .ok (.ifCond .ne 20, 3) := by decide +kernel
theorem dX9_gather_79 : decode cX9_gather 79 = .ok (.aload_n 0, 1) := by decide +kernel
theorem dX9_gather_80 : decode cX9_gather 80 = .ok (.getfield 20, 3) := by decide +kernel
theorem dX9_gather_83 : decode cX9_gather 83 = .ok (.iload 5, 2) := by decide +kernel
theorem dX9_gather_85 : decode cX9_gather 85 = .ok (.iconst 1, 1) := by decide +kernel
theorem dX9_gather_86 : decode cX9_gather 86 = .ok (.iastore, 1) := by decide +kernel
theorem dX9_gather_87 : decode cX9_gather 87 = .ok (.aload_n 0, 1) := by decide +kernel
theorem dX9_gather_88 : decode cX9_gather 88 = .ok (.getfield 14, 3) := by decide +kernel
theorem dX9_gather_91 : decode cX9_gather 91 = .ok (.iload 5, 2) := by decide +kernel
theorem dX9_gather_93 : decode cX9_gather 93 = .ok (.invokevirtual 52, 3) := by decide +kernel
theorem dX9_gather_96 : decode cX9_gather 96 = .ok (.iinc 4 1, 3) := by decide +kernel
theorem dX9_gather_99 : decode cX9_gather 99 = .ok (.goto (-73), 3) := by decide +kernel
theorem dX9_gather_102 : decode cX9_gather 102 = .ok (.iinc 3 1, 3) := by decide +kernel
theorem dX9_gather_105 : decode cX9_gather 105 = .ok (.goto (-88), 3) := by decide +kernel
theorem dX9_gather_108 : decode cX9_gather 108 = .ok (.return_, 1) := by decide +kernel
theorem dX9_fewestSounds_0 : decode cX9_fewestSounds 0 = .ok (.iload_n 1, 1) := by decide +kernel
theorem dX9_fewestSounds_1 : decode cX9_fewestSounds 1 = .ok (.iload_n 2, 1) := by decide +kernel
theorem dX9_fewestSounds_2 : decode cX9_fewestSounds 2 = .ok (.iconst (-1), 1) := by decide +kernel
theorem dX9_fewestSounds_3 : decode cX9_fewestSounds 3 = .ok (.ixor, 1) := by decide +kernel
theorem dX9_fewestSounds_4 : decode cX9_fewestSounds 4 = .ok (.iand, 1) := by decide +kernel
theorem dX9_fewestSounds_5 : decode cX9_fewestSounds 5 = .ok (.ifCond .eq 5, 3) := by decide +kernel
theorem dX9_fewestSounds_8 : decode cX9_fewestSounds 8 = .ok (.iconst (-1), 1) := by decide +kernel
theorem dX9_fewestSounds_9 : decode cX9_fewestSounds 9 = .ok (.ireturn, 1) := by decide +kernel
theorem dX9_fewestSounds_10 : decode cX9_fewestSounds 10 = .ok (.iload_n 2, 1) := by decide +kernel
theorem dX9_fewestSounds_11 : decode cX9_fewestSounds 11 = .ok (.iload_n 1, 1) := by decide +kernel
theorem dX9_fewestSounds_12 : decode cX9_fewestSounds 12 = .ok (.iconst (-1), 1) := by decide +kernel
theorem dX9_fewestSounds_13 : decode cX9_fewestSounds 13 = .ok (.ixor, 1) := by decide +kernel
theorem dX9_fewestSounds_14 : decode cX9_fewestSounds 14 = .ok (.iand, 1) := by decide +kernel
theorem dX9_fewestSounds_15 : decode cX9_fewestSounds 15 = .ok (.istore_n 3, 1) := by decide +kernel
theorem dX9_fewestSounds_16 : decode cX9_fewestSounds 16 = .ok (.aload_n 0, 1) := by decide +kernel
theorem dX9_fewestSounds_17 : decode cX9_fewestSounds 17 = .ok (.getfield 24, 3) := by decide +kernel
theorem dX9_fewestSounds_20 : decode cX9_fewestSounds 20 = .ok (.invokevirtual 37, 3) := by decide +kernel
theorem dX9_fewestSounds_23 : decode cX9_fewestSounds 23 = .ok (.iconst 0, 1) := by decide +kernel
theorem dX9_fewestSounds_24 : decode cX9_fewestSounds 24 = .ok (.istore 4, 2) := by decide +kernel
theorem dX9_fewestSounds_26 : decode cX9_fewestSounds 26 = .ok (.iload 4, 2) := by decide +kernel
theorem dX9_fewestSounds_28 : decode cX9_fewestSounds 28 = .ok (.aload_n 0, 1) := by decide +kernel
theorem dX9_fewestSounds_29 : decode cX9_fewestSounds 29 = .ok (.getfield 14, 3) := by decide +kernel
theorem dX9_fewestSounds_32 : decode cX9_fewestSounds 32 = .ok (.invokevirtual 55, 3) := by decide +kernel
theorem dX9_fewestSounds_35 : decode cX9_fewestSounds 35 = .ok (.if_icmp .ge 47, 3) := by decide +kernel
theorem dX9_fewestSounds_38 : decode cX9_fewestSounds 38 = .ok (.aload_n 0, 1) := by decide +kernel
theorem dX9_fewestSounds_39 : decode cX9_fewestSounds 39 = .ok (.getfield 14, 3) := by decide +kernel
theorem dX9_fewestSounds_42 : decode cX9_fewestSounds 42 = .ok (.iload 4, 2) := by decide +kernel
theorem dX9_fewestSounds_44 : decode cX9_fewestSounds 44 = .ok (.invokevirtual 59, 3) := by decide +kernel
theorem dX9_fewestSounds_47 : decode cX9_fewestSounds 47 = .ok (.istore 5, 2) := by decide +kernel
theorem dX9_fewestSounds_49 : decode cX9_fewestSounds 49 = .ok (.iload 5, 2) := by decide +kernel
theorem dX9_fewestSounds_51 : decode cX9_fewestSounds 51 = .ok (.iload_n 2, 1) := by decide +kernel
theorem dX9_fewestSounds_52 : decode cX9_fewestSounds 52 = .ok (.iconst (-1), 1) := by decide +kernel
theorem dX9_fewestSounds_53 : decode cX9_fewestSounds 53 = .ok (.ixor, 1) := by decide +kernel
theorem dX9_fewestSounds_54 : decode cX9_fewestSounds 54 = .ok (.iand, 1) := by decide +kernel
theorem dX9_fewestSounds_55 : decode cX9_fewestSounds 55 = .ok (.ifCond .ne 21, 3) := by decide +kernel
theorem dX9_fewestSounds_58 : decode cX9_fewestSounds 58 = .ok (.iload 5, 2) := by decide +kernel
theorem dX9_fewestSounds_60 : decode cX9_fewestSounds 60 = .ok (.iload_n 3, 1) := by decide +kernel
theorem dX9_fewestSounds_61 : decode cX9_fewestSounds 61 = .ok (.iand, 1) := by decide +kernel
theorem dX9_fewestSounds_62 : decode cX9_fewestSounds 62 = .ok (.ifCond .eq 14, 3) := by decide +kernel
theorem dX9_fewestSounds_65 : decode cX9_fewestSounds 65 = .ok (.aload_n 0, 1) := by decide +kernel
theorem dX9_fewestSounds_66 : decode cX9_fewestSounds 66 = .ok (.getfield 24, 3) := by decide +kernel
theorem dX9_fewestSounds_69 : decode cX9_fewestSounds 69 = .ok (.iload 5, 2) := by decide +kernel
theorem dX9_fewestSounds_71 : decode cX9_fewestSounds 71 = .ok (.iload_n 3, 1) := by decide +kernel
theorem dX9_fewestSounds_72 : decode cX9_fewestSounds 72 = .ok (.iand, 1) := by decide +kernel
theorem dX9_fewestSounds_73 : decode cX9_fewestSounds 73 = .ok (.invokevirtual 62, 3) := by decide +kernel
theorem dX9_fewestSounds_76 : decode cX9_fewestSounds 76 = .ok (.iinc 4 1, 3) := by decide +kernel
theorem dX9_fewestSounds_79 : decode cX9_fewestSounds 79 = .ok (.goto (-53), 3) := by decide +kernel
theorem dX9_fewestSounds_82 : decode cX9_fewestSounds 82 = .ok (.aload_n 0, 1) := by decide +kernel
theorem dX9_fewestSounds_83 : decode cX9_fewestSounds 83 = .ok (.iload_n 3, 1) := by decide +kernel
theorem dX9_fewestSounds_84 : decode cX9_fewestSounds 84 = .ok (.invokevirtual 65, 3) := by decide +kernel
theorem dX9_fewestSounds_87 : decode cX9_fewestSounds 87 = .ok (.ireturn, 1) := by decide +kernel
theorem dX9_fewestNotes_0 : decode cX9_fewestNotes 0 = .ok (.iload_n 1, 1) := by decide +kernel
theorem dX9_fewestNotes_1 : decode cX9_fewestNotes 1 = .ok (.iload_n 2, 1) := by decide +kernel
theorem dX9_fewestNotes_2 : decode cX9_fewestNotes 2 = .ok (.iconst (-1), 1) := by decide +kernel
theorem dX9_fewestNotes_3 : decode cX9_fewestNotes 3 = .ok (.ixor, 1) := by decide +kernel
theorem dX9_fewestNotes_4 : decode cX9_fewestNotes 4 = .ok (.iand, 1) := by decide +kernel
theorem dX9_fewestNotes_5 : decode cX9_fewestNotes 5 = .ok (.ifCond .eq 5, 3) := by decide +kernel
theorem dX9_fewestNotes_8 : decode cX9_fewestNotes 8 = .ok (.iconst (-1), 1) := by decide +kernel
theorem dX9_fewestNotes_9 : decode cX9_fewestNotes 9 = .ok (.ireturn, 1) := by decide +kernel
theorem dX9_fewestNotes_10 : decode cX9_fewestNotes 10 = .ok (.iload_n 2, 1) := by decide +kernel
theorem dX9_fewestNotes_11 : decode cX9_fewestNotes 11 = .ok (.iload_n 1, 1) := by decide +kernel
theorem dX9_fewestNotes_12 : decode cX9_fewestNotes 12 = .ok (.iconst (-1), 1) := by decide +kernel
theorem dX9_fewestNotes_13 : decode cX9_fewestNotes 13 = .ok (.ixor, 1) := by decide +kernel
theorem dX9_fewestNotes_14 : decode cX9_fewestNotes 14 = .ok (.iand, 1) := by decide +kernel
theorem dX9_fewestNotes_15 : decode cX9_fewestNotes 15 = .ok (.istore_n 3, 1) := by decide +kernel
theorem dX9_fewestNotes_16 : decode cX9_fewestNotes 16 = .ok (.aload_n 0, 1) := by decide +kernel
theorem dX9_fewestNotes_17 : decode cX9_fewestNotes 17 = .ok (.getfield 24, 3) := by decide +kernel
theorem dX9_fewestNotes_20 : decode cX9_fewestNotes 20 = .ok (.invokevirtual 37, 3) := by decide +kernel
theorem dX9_fewestNotes_23 : decode cX9_fewestNotes 23 = .ok (.iconst 0, 1) := by decide +kernel
theorem dX9_fewestNotes_24 : decode cX9_fewestNotes 24 = .ok (.istore 4, 2) := by decide +kernel
theorem dX9_fewestNotes_26 : decode cX9_fewestNotes 26 = .ok (.iload 4, 2) := by decide +kernel
theorem dX9_fewestNotes_28 : decode cX9_fewestNotes 28 = .ok (.bipush 64, 2) := by decide +kernel
theorem dX9_fewestNotes_30 : decode cX9_fewestNotes 30 = .ok (.if_icmp .ge 49, 3) := by decide +kernel
theorem dX9_fewestNotes_33 : decode cX9_fewestNotes 33 = .ok (.aload_n 0, 1) := by decide +kernel
theorem dX9_fewestNotes_34 : decode cX9_fewestNotes 34 = .ok (.getfield 30, 3) := by decide +kernel
theorem dX9_fewestNotes_37 : decode cX9_fewestNotes 37 = .ok (.iload 4, 2) := by decide +kernel
theorem dX9_fewestNotes_39 : decode cX9_fewestNotes 39 = .ok (.aload_n 0, 1) := by decide +kernel
theorem dX9_fewestNotes_40 : decode cX9_fewestNotes 40 = .ok (.iload 4, 2) := by decide +kernel
theorem dX9_fewestNotes_42 : decode cX9_fewestNotes 42 = .ok (.iload_n 2, 1) := by decide +kernel
theorem dX9_fewestNotes_43 : decode cX9_fewestNotes 43 = .ok (.invokevirtual 68, 3) := by decide +kernel
theorem dX9_fewestNotes_46 : decode cX9_fewestNotes 46 = .ok (.iload_n 3, 1) := by decide +kernel
theorem dX9_fewestNotes_47 : decode cX9_fewestNotes 47 = .ok (.iand, 1) := by decide +kernel
theorem dX9_fewestNotes_48 : decode cX9_fewestNotes 48 = .ok (.iastore, 1) := by decide +kernel
theorem dX9_fewestNotes_49 : decode cX9_fewestNotes 49 = .ok (.aload_n 0, 1) := by decide +kernel
theorem dX9_fewestNotes_50 : decode cX9_fewestNotes 50 = .ok (.getfield 30, 3) := by decide +kernel
theorem dX9_fewestNotes_53 : decode cX9_fewestNotes 53 = .ok (.iload 4, 2) := by decide +kernel
theorem dX9_fewestNotes_55 : decode cX9_fewestNotes 55 = .ok (.iaload, 1) := by decide +kernel
theorem dX9_fewestNotes_56 : decode cX9_fewestNotes 56 = .ok (.ifCond .eq 17, 3) := by decide +kernel
theorem dX9_fewestNotes_59 : decode cX9_fewestNotes 59 = .ok (.aload_n 0, 1) := by decide +kernel
theorem dX9_fewestNotes_60 : decode cX9_fewestNotes 60 = .ok (.getfield 24, 3) := by decide +kernel
theorem dX9_fewestNotes_63 : decode cX9_fewestNotes 63 = .ok (.aload_n 0, 1) := by decide +kernel
theorem dX9_fewestNotes_64 : decode cX9_fewestNotes 64 = .ok (.getfield 30, 3) := by decide +kernel
theorem dX9_fewestNotes_67 : decode cX9_fewestNotes 67 = .ok (.iload 4, 2) := by decide +kernel
theorem dX9_fewestNotes_69 : decode cX9_fewestNotes 69 = .ok (.iaload, 1) := by decide +kernel
theorem dX9_fewestNotes_70 : decode cX9_fewestNotes 70 = .ok (.invokevirtual 62, 3) := by decide +kernel
theorem dX9_fewestNotes_73 : decode cX9_fewestNotes 73 = .ok (.iinc 4 1, 3) := by decide +kernel
theorem dX9_fewestNotes_76 : decode cX9_fewestNotes 76 = .ok (.goto (-50), 3) := by decide +kernel
theorem dX9_fewestNotes_79 : decode cX9_fewestNotes 79 = .ok (.aload_n 0, 1) := by decide +kernel
theorem dX9_fewestNotes_80 : decode cX9_fewestNotes 80 = .ok (.iload_n 3, 1) := by decide +kernel
theorem dX9_fewestNotes_81 : decode cX9_fewestNotes 81 = .ok (.invokevirtual 65, 3) := by decide +kernel
theorem dX9_fewestNotes_84 : decode cX9_fewestNotes 84 = .ok (.ireturn, 1) := by decide +kernel
theorem dX9_reach_0 : decode cX9_reach 0 = .ok (.iconst 0, 1) := by decide +kernel
theorem dX9_reach_1 : decode cX9_reach 1 = .ok (.istore_n 3, 1) := by decide +kernel
theorem dX9_reach_2 : decode cX9_reach 2 = .ok (.iconst 0, 1) := by decide +kernel
theorem dX9_reach_3 : decode cX9_reach 3 = .ok (.istore 4, 2) := by decide +kernel
theorem dX9_reach_5 : decode cX9_reach 5 = .ok (.iload 4, 2) := by decide +kernel
theorem dX9_reach_7 : decode cX9_reach 7 = .ok (.bipush 50, 2) := by decide +kernel
theorem dX9_reach_9 : decode cX9_reach 9 = .ok (.if_icmp .ge 35, 3) := by decide +kernel
theorem dX9_reach_12 : decode cX9_reach 12 = .ok (.aload_n 0, 1) := by decide +kernel
theorem dX9_reach_13 : decode cX9_reach 13 = .ok (.getfield 33, 3) := by decide +kernel
theorem dX9_reach_16 : decode cX9_reach 16 = .ok (.iload 4, 2) := by decide +kernel
theorem dX9_reach_18 : decode cX9_reach 18 = .ok (.iload_n 1, 1) := by decide +kernel
theorem dX9_reach_19 : decode cX9_reach 19 = .ok (.invokevirtual 46, 3) := by decide +kernel
theorem dX9_reach_22 : decode cX9_reach 22 = .ok (.istore 5, 2) := by decide +kernel
theorem dX9_reach_24 : decode cX9_reach 24 = .ok (.iload 5, 2) := by decide +kernel
theorem dX9_reach_26 : decode cX9_reach 26 = .ok (.iload_n 2, 1) := by decide +kernel
theorem dX9_reach_27 : decode cX9_reach 27 = .ok (.iconst (-1), 1) := by decide +kernel
theorem dX9_reach_28 : decode cX9_reach 28 = .ok (.ixor, 1) := by decide +kernel
theorem dX9_reach_29 : decode cX9_reach 29 = .ok (.iand, 1) := by decide +kernel
theorem dX9_reach_30 : decode cX9_reach 30 = .ok (.ifCond .ne 8, 3) := by decide +kernel
theorem dX9_reach_33 : decode cX9_reach 33 = .ok (.iload_n 3, 1) := by decide +kernel
theorem dX9_reach_34 : decode cX9_reach 34 = .ok (.iload 5, 2) := by decide +kernel
theorem dX9_reach_36 : decode cX9_reach 36 = .ok (.ior, 1) := by decide +kernel
theorem dX9_reach_37 : decode cX9_reach 37 = .ok (.istore_n 3, 1) := by decide +kernel
theorem dX9_reach_38 : decode cX9_reach 38 = .ok (.iinc 4 1, 3) := by decide +kernel
theorem dX9_reach_41 : decode cX9_reach 41 = .ok (.goto (-36), 3) := by decide +kernel
theorem dX9_reach_44 : decode cX9_reach 44 = .ok (.iload_n 3, 1) := by decide +kernel
theorem dX9_reach_45 : decode cX9_reach 45 = .ok (.ireturn, 1) := by decide +kernel
theorem dX9_noteOfFewest_0 : decode cX9_noteOfFewest 0 = .ok (.iload_n 1, 1) := by decide +kernel
theorem dX9_noteOfFewest_1 : decode cX9_noteOfFewest 1 = .ok (.istore_n 3, 1) := by decide +kernel
theorem dX9_noteOfFewest_2 : decode cX9_noteOfFewest 2 = .ok (.iconst (-1), 1) := by decide +kernel
theorem dX9_noteOfFewest_3 : decode cX9_noteOfFewest 3 = .ok (.istore 4, 2) := by decide +kernel
theorem dX9_noteOfFewest_5 : decode cX9_noteOfFewest 5 = .ok (.iconst 0, 1) := by decide +kernel
theorem dX9_noteOfFewest_6 : decode cX9_noteOfFewest 6 = .ok (.istore 5, 2) := by decide +kernel
theorem dX9_noteOfFewest_8 : decode cX9_noteOfFewest 8 = .ok (.iload 5, 2) := by decide +kernel
theorem dX9_noteOfFewest_10 : decode cX9_noteOfFewest 10 = .ok (.iload_n 2, 1) := by decide +kernel
theorem dX9_noteOfFewest_11 : decode cX9_noteOfFewest 11 = .ok (.if_icmp .gt 36, 3) := by decide +kernel
theorem dX9_noteOfFewest_14 : decode cX9_noteOfFewest 14 = .ok (.aload_n 0, 1) := by decide +kernel
theorem dX9_noteOfFewest_15 : decode cX9_noteOfFewest 15 = .ok (.iload_n 3, 1) := by decide +kernel
theorem dX9_noteOfFewest_16 : decode cX9_noteOfFewest 16 = .ok (.invokevirtual 71, 3) := by decide +kernel
theorem dX9_noteOfFewest_19 : decode cX9_noteOfFewest 19 = .ok (.istore 4, 2) := by decide +kernel
theorem dX9_noteOfFewest_21 : decode cX9_noteOfFewest 21 = .ok (.iload 4, 2) := by decide +kernel
theorem dX9_noteOfFewest_23 : decode cX9_noteOfFewest 23 = .ok (.iconst (-1), 1) := by decide +kernel
theorem dX9_noteOfFewest_24 : decode cX9_noteOfFewest 24 = .ok (.if_icmp .ne 5, 3) := by decide +kernel
theorem dX9_noteOfFewest_27 : decode cX9_noteOfFewest 27 = .ok (.iconst (-1), 1) := by decide +kernel
theorem dX9_noteOfFewest_28 : decode cX9_noteOfFewest 28 = .ok (.ireturn, 1) := by decide +kernel
theorem dX9_noteOfFewest_29 : decode cX9_noteOfFewest 29 = .ok (.iload_n 3, 1) := by decide +kernel
theorem dX9_noteOfFewest_30 : decode cX9_noteOfFewest 30 = .ok (.aload_n 0, 1) := by decide +kernel
theorem dX9_noteOfFewest_31 : decode cX9_noteOfFewest 31 = .ok (.getfield 30, 3) := by decide +kernel
theorem dX9_noteOfFewest_34 : decode cX9_noteOfFewest 34 = .ok (.iload 4, 2) := by decide +kernel
theorem dX9_noteOfFewest_36 : decode cX9_noteOfFewest 36 = .ok (.iaload, 1) := by decide +kernel
theorem dX9_noteOfFewest_37 : decode cX9_noteOfFewest 37 = .ok (.iconst (-1), 1) := by decide +kernel
theorem dX9_noteOfFewest_38 : decode cX9_noteOfFewest 38 = .ok (.ixor, 1) := by decide +kernel
theorem dX9_noteOfFewest_39 : decode cX9_noteOfFewest 39 = .ok (.iand, 1) := by decide +kernel
theorem dX9_noteOfFewest_40 : decode cX9_noteOfFewest 40 = .ok (.istore_n 3, 1) := by decide +kernel
theorem dX9_noteOfFewest_41 : decode cX9_noteOfFewest 41 = .ok (.iinc 5 1, 3) := by decide +kernel
theorem dX9_noteOfFewest_44 : decode cX9_noteOfFewest 44 = .ok (.goto (-36), 3) := by decide +kernel
theorem dX9_noteOfFewest_47 : decode cX9_noteOfFewest 47 = .ok (.iload 4, 2) := by decide +kernel
theorem dX9_noteOfFewest_49 : decode cX9_noteOfFewest 49 = .ok (.ireturn, 1) := by decide +kernel
theorem dX9_firstUseful_0 : decode cX9_firstUseful 0 = .ok (.iconst 0, 1) := by decide +kernel
theorem dX9_firstUseful_1 : decode cX9_firstUseful 1 = .ok (.istore_n 2, 1) := by decide +kernel
theorem dX9_firstUseful_2 : decode cX9_firstUseful 2 = .ok (.iload_n 2, 1) := by decide +kernel
theorem dX9_firstUseful_3 : decode cX9_firstUseful 3 = .ok (.bipush 64, 2) := by decide +kernel
theorem dX9_firstUseful_5 : decode cX9_firstUseful 5 = .ok (.if_icmp .ge 33, 3) := by decide +kernel
theorem dX9_firstUseful_8 : decode cX9_firstUseful 8 = .ok (.aload_n 0, 1) := by decide +kernel
theorem dX9_firstUseful_9 : decode cX9_firstUseful 9 = .ok (.iload_n 1, 1) := by decide +kernel
theorem dX9_firstUseful_10 : decode cX9_firstUseful 10 = .ok (.aload_n 0, 1) := by decide +kernel
theorem dX9_firstUseful_11 : decode cX9_firstUseful 11 = .ok (.getfield 30, 3) := by decide +kernel
theorem dX9_firstUseful_14 : decode cX9_firstUseful 14 = .ok (.iload_n 2, 1) := by decide +kernel
theorem dX9_firstUseful_15 : decode cX9_firstUseful 15 = .ok (.iaload, 1) := by decide +kernel
theorem dX9_firstUseful_16 : decode cX9_firstUseful 16 = .ok (.iconst (-1), 1) := by decide +kernel
theorem dX9_firstUseful_17 : decode cX9_firstUseful 17 = .ok (.ixor, 1) := by decide +kernel
theorem dX9_firstUseful_18 : decode cX9_firstUseful 18 = .ok (.iand, 1) := by decide +kernel
theorem dX9_firstUseful_19 : decode cX9_firstUseful 19 = .ok (.invokevirtual 74, 3) := by decide +kernel
theorem dX9_firstUseful_22 : decode cX9_firstUseful 22 = .ok (.aload_n 0, 1) := by decide +kernel
theorem dX9_firstUseful_23 : decode cX9_firstUseful 23 = .ok (.iload_n 1, 1) := by decide +kernel
theorem dX9_firstUseful_24 : decode cX9_firstUseful 24 = .ok (.invokevirtual 74, 3) := by decide +kernel
theorem dX9_firstUseful_27 : decode cX9_firstUseful 27 = .ok (.if_icmp .ge 5, 3) := by decide +kernel
theorem dX9_firstUseful_30 : decode cX9_firstUseful 30 = .ok (.iload_n 2, 1) := by decide +kernel
theorem dX9_firstUseful_31 : decode cX9_firstUseful 31 = .ok (.ireturn, 1) := by decide +kernel
theorem dX9_firstUseful_32 : decode cX9_firstUseful 32 = .ok (.iinc 2 1, 3) := by decide +kernel
theorem dX9_firstUseful_35 : decode cX9_firstUseful 35 = .ok (.goto (-33), 3) := by decide +kernel
theorem dX9_firstUseful_38 : decode cX9_firstUseful 38 = .ok (.iconst (-1), 1) := by decide +kernel
theorem dX9_firstUseful_39 : decode cX9_firstUseful 39 = .ok (.ireturn, 1) := by decide +kernel
theorem dX9_leastFor_0 : decode cX9_leastFor 0 = .ok (.iload_n 1, 1) := by decide +kernel
theorem dX9_leastFor_1 : decode cX9_leastFor 1 = .ok (.ifCond .lt 19, 3) := by decide +kernel
theorem dX9_leastFor_4 : decode cX9_leastFor 4 = .ok (.iload_n 1, 1) := by decide +kernel
theorem dX9_leastFor_5 : decode cX9_leastFor 5 = .ok (.sipush 1024, 3) := by decide +kernel
theorem dX9_leastFor_8 : decode cX9_leastFor 8 = .ok (.if_icmp .ge 12, 3) := by decide +kernel
theorem dX9_leastFor_11 : decode cX9_leastFor 11 = .ok (.aload_n 0, 1) := by decide +kernel
theorem dX9_leastFor_12 : decode cX9_leastFor 12 = .ok (.getfield 27, 3) := by decide +kernel
theorem dX9_leastFor_15 : decode cX9_leastFor 15 = .ok (.iload_n 1, 1) := by decide +kernel
theorem dX9_leastFor_16 : decode cX9_leastFor 16 = .ok (.iaload, 1) := by decide +kernel
theorem dX9_leastFor_17 : decode cX9_leastFor 17 = .ok (.goto 5, 3) := by decide +kernel
theorem dX9_leastFor_20 : decode cX9_leastFor 20 = .ok (.ldc 77, 2) := by decide +kernel
theorem dX9_leastFor_22 : decode cX9_leastFor 22 = .ok (.ireturn, 1) := by decide +kernel
theorem dX9_fewestThatHold_0 : decode cX9_fewestThatHold 0 = .ok (.aload_n 0, 1) := by decide +kernel
theorem dX9_fewestThatHold_1 : decode cX9_fewestThatHold 1 = .ok (.getfield 27, 3) := by decide +kernel
theorem dX9_fewestThatHold_4 : decode cX9_fewestThatHold 4 = .ok (.iconst 0, 1) := by decide +kernel
theorem dX9_fewestThatHold_5 : decode cX9_fewestThatHold 5 = .ok (.iconst 0, 1) := by decide +kernel
theorem dX9_fewestThatHold_6 : decode cX9_fewestThatHold 6 = .ok (.iastore, 1) := by decide +kernel
theorem dX9_fewestThatHold_7 : decode cX9_fewestThatHold 7 = .ok (.iconst 1, 1) := by decide +kernel
theorem dX9_fewestThatHold_8 : decode cX9_fewestThatHold 8 = .ok (.istore_n 2, 1) := by decide +kernel
theorem dX9_fewestThatHold_9 : decode cX9_fewestThatHold 9 = .ok (.iload_n 2, 1) := by decide +kernel
theorem dX9_fewestThatHold_10 : decode cX9_fewestThatHold 10 = .ok (.iload_n 1, 1) := by decide +kernel
theorem dX9_fewestThatHold_11 : decode cX9_fewestThatHold 11 = .ok (.if_icmp .gt 35, 3) := by decide +kernel
theorem dX9_fewestThatHold_14 : decode cX9_fewestThatHold 14 = .ok (.iload_n 2, 1) := by decide +kernel
theorem dX9_fewestThatHold_15 : decode cX9_fewestThatHold 15 = .ok (.sipush 1024, 3) := by decide +kernel
theorem dX9_fewestThatHold_18 : decode cX9_fewestThatHold 18 = .ok (.if_icmp .ge 28, 3) := by decide +kernel
theorem dX9_fewestThatHold_21 : decode cX9_fewestThatHold 21 = .ok (.iload_n 2, 1) := by decide +kernel
theorem dX9_fewestThatHold_22 : decode cX9_fewestThatHold 22 = .ok (.iload_n 1, 1) := by decide +kernel
theorem dX9_fewestThatHold_23 : decode cX9_fewestThatHold 23 = .ok (.iconst (-1), 1) := by decide +kernel
theorem dX9_fewestThatHold_24 : decode cX9_fewestThatHold 24 = .ok (.ixor, 1) := by decide +kernel
theorem dX9_fewestThatHold_25 : decode cX9_fewestThatHold 25 = .ok (.iand, 1) := by decide +kernel
theorem dX9_fewestThatHold_26 : decode cX9_fewestThatHold 26 = .ok (.ifCond .ne 14, 3) := by decide +kernel
theorem dX9_fewestThatHold_29 : decode cX9_fewestThatHold 29 = .ok (.aload_n 0, 1) := by decide +kernel
theorem dX9_fewestThatHold_30 : decode cX9_fewestThatHold 30 = .ok (.getfield 27, 3) := by decide +kernel
theorem dX9_fewestThatHold_33 : decode cX9_fewestThatHold 33 = .ok (.iload_n 2, 1) := by decide +kernel
theorem dX9_fewestThatHold_34 : decode cX9_fewestThatHold 34 = .ok (.aload_n 0, 1) := by decide +kernel
theorem dX9_fewestThatHold_35 : decode cX9_fewestThatHold 35 = .ok (.iload_n 2, 1) := by decide +kernel
theorem dX9_fewestThatHold_36 : decode cX9_fewestThatHold 36 = .ok (.invokevirtual 78, 3) := by decide +kernel
theorem dX9_fewestThatHold_39 : decode cX9_fewestThatHold 39 = .ok (.iastore, 1) := by decide +kernel
theorem dX9_fewestThatHold_40 : decode cX9_fewestThatHold 40 = .ok (.iinc 2 1, 3) := by decide +kernel
theorem dX9_fewestThatHold_43 : decode cX9_fewestThatHold 43 = .ok (.goto (-34), 3) := by decide +kernel
theorem dX9_fewestThatHold_46 : decode cX9_fewestThatHold 46 = .ok (.aload_n 0, 1) := by decide +kernel
theorem dX9_fewestThatHold_47 : decode cX9_fewestThatHold 47 = .ok (.iload_n 1, 1) := by decide +kernel
theorem dX9_fewestThatHold_48 : decode cX9_fewestThatHold 48 = .ok (.invokevirtual 74, 3) := by decide +kernel
theorem dX9_fewestThatHold_51 : decode cX9_fewestThatHold 51 = .ok (.istore_n 2, 1) := by decide +kernel
theorem dX9_fewestThatHold_52 : decode cX9_fewestThatHold 52 = .ok (.iload_n 2, 1) := by decide +kernel
theorem dX9_fewestThatHold_53 : decode cX9_fewestThatHold 53 = .ok (.ldc 77, 2) := by decide +kernel
theorem dX9_fewestThatHold_55 : decode cX9_fewestThatHold 55 = .ok (.if_icmp .ge 7, 3) := by decide +kernel
theorem dX9_fewestThatHold_58 : decode cX9_fewestThatHold 58 = .ok (.iload_n 2, 1) := by decide +kernel
theorem dX9_fewestThatHold_59 : decode cX9_fewestThatHold 59 = .ok (.goto 4, 3) := by decide +kernel
theorem dX9_fewestThatHold_62 : decode cX9_fewestThatHold 62 = .ok (.iconst (-1), 1) := by decide +kernel
theorem dX9_fewestThatHold_63 : decode cX9_fewestThatHold 63 = .ok (.ireturn, 1) := by decide +kernel
theorem dX9_leastByLowest_0 : decode cX9_leastByLowest 0 = .ok (.iload_n 1, 1) := by decide +kernel
theorem dX9_leastByLowest_1 : decode cX9_leastByLowest 1 = .ok (.iload_n 1, 1) := by decide +kernel
theorem dX9_leastByLowest_2 : decode cX9_leastByLowest 2 = .ok (.ineg, 1) := by decide +kernel
theorem dX9_leastByLowest_3 : decode cX9_leastByLowest 3 = .ok (.iand, 1) := by decide +kernel
theorem dX9_leastByLowest_4 : decode cX9_leastByLowest 4 = .ok (.istore_n 2, 1) := by decide +kernel
theorem dX9_leastByLowest_5 : decode cX9_leastByLowest 5 = .ok (.ldc 77, 2) := by decide +kernel
theorem dX9_leastByLowest_7 : decode cX9_leastByLowest 7 = .ok (.istore_n 3, 1) := by decide +kernel
theorem dX9_leastByLowest_8 : decode cX9_leastByLowest 8 = .ok (.iconst 0, 1) := by decide +kernel
theorem dX9_leastByLowest_9 : decode cX9_leastByLowest 9 = .ok (.istore 4, 2) := by decide +kernel
theorem dX9_leastByLowest_11 : decode cX9_leastByLowest 11 = .ok (.iload 4, 2) := by decide +kernel
theorem dX9_leastByLowest_13 : decode cX9_leastByLowest 13 = .ok (.aload_n 0, 1) := by decide +kernel
theorem dX9_leastByLowest_14 : decode cX9_leastByLowest 14 = .ok (.getfield 24, 3) := by decide +kernel
theorem dX9_leastByLowest_17 : decode cX9_leastByLowest 17 = .ok (.invokevirtual 55, 3) := by decide +kernel
theorem dX9_leastByLowest_20 : decode cX9_leastByLowest 20 = .ok (.if_icmp .ge 44, 3) := by decide +kernel
theorem dX9_leastByLowest_23 : decode cX9_leastByLowest 23 = .ok (.aload_n 0, 1) := by decide +kernel
theorem dX9_leastByLowest_24 : decode cX9_leastByLowest 24 = .ok (.getfield 24, 3) := by decide +kernel
theorem dX9_leastByLowest_27 : decode cX9_leastByLowest 27 = .ok (.iload 4, 2) := by decide +kernel
theorem dX9_leastByLowest_29 : decode cX9_leastByLowest 29 = .ok (.invokevirtual 59, 3) := by decide +kernel
theorem dX9_leastByLowest_32 : decode cX9_leastByLowest 32 = .ok (.istore 5, 2) := by decide +kernel
theorem dX9_leastByLowest_34 : decode cX9_leastByLowest 34 = .ok (.iload 5, 2) := by decide +kernel
theorem dX9_leastByLowest_36 : decode cX9_leastByLowest 36 = .ok (.iload_n 2, 1) := by decide +kernel
theorem dX9_leastByLowest_37 : decode cX9_leastByLowest 37 = .ok (.iand, 1) := by decide +kernel
theorem dX9_leastByLowest_38 : decode cX9_leastByLowest 38 = .ok (.ifCond .eq 20, 3) := by decide +kernel
theorem dX9_leastByLowest_41 : decode cX9_leastByLowest 41 = .ok (.iload_n 3, 1) := by decide +kernel
theorem dX9_leastByLowest_42 : decode cX9_leastByLowest 42 = .ok (.aload_n 0, 1) := by decide +kernel
theorem dX9_leastByLowest_43 : decode cX9_leastByLowest 43 = .ok (.iload_n 1, 1) := by decide +kernel
theorem dX9_leastByLowest_44 : decode cX9_leastByLowest 44 = .ok (.iload 5, 2) := by decide +kernel
theorem dX9_leastByLowest_46 : decode cX9_leastByLowest 46 = .ok (.iconst (-1), 1) := by decide +kernel
theorem dX9_leastByLowest_47 : decode cX9_leastByLowest 47 = .ok (.ixor, 1) := by decide +kernel
theorem dX9_leastByLowest_48 : decode cX9_leastByLowest 48 = .ok (.iand, 1) := by decide +kernel
theorem dX9_leastByLowest_49 : decode cX9_leastByLowest 49 = .ok (.invokevirtual 74, 3) := by decide +kernel
theorem dX9_leastByLowest_52 : decode cX9_leastByLowest 52 = .ok (.iconst 1, 1) := by decide +kernel
theorem dX9_leastByLowest_53 : decode cX9_leastByLowest 53 = .ok (.iadd, 1) := by decide +kernel
theorem dX9_leastByLowest_54 : decode cX9_leastByLowest 54 = .ok (.invokestatic 81, 3) := by decide +kernel
theorem dX9_leastByLowest_57 : decode cX9_leastByLowest 57 = .ok (.istore_n 3, 1) := by decide +kernel
theorem dX9_leastByLowest_58 : decode cX9_leastByLowest 58 = .ok (.iinc 4 1, 3) := by decide +kernel
theorem dX9_leastByLowest_61 : decode cX9_leastByLowest 61 = .ok (.goto (-50), 3) := by decide +kernel
theorem dX9_leastByLowest_64 : decode cX9_leastByLowest 64 = .ok (.iload_n 3, 1) := by decide +kernel
theorem dX9_leastByLowest_65 : decode cX9_leastByLowest 65 = .ok (.ireturn, 1) := by decide +kernel
