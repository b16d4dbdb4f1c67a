set_option maxRecDepth 20000 in
theorem ggX6_offer_X6_profile : GoodIn wsX6_offer wsX6_profile := goodIn_r _ [8, 9, 10, 11, 7, 12, 13, 17, 18, 19, 20, 21, 22, 23, 24, 25, 26, 27] (by decide +kernel) (by decide +kernel)
set_option maxRecDepth 20000 in
theorem gX6_offer_X6_profile : GoodIn wsX6_offer (wsV RX6 67 RX6 yX6_profile wsX6_profile) := goodIn_app (goodIn_of _ (by decide +kernel)) ggX6_offer_X6_profile
set_option maxRecDepth 20000 in
theorem ggX6_offer_X6_children : GoodIn wsX6_offer wsX6_children := goodIn_r _ [16] (by decide +kernel) (by decide +kernel)
set_option maxRecDepth 20000 in
theorem gX6_offer_X6_children : GoodIn wsX6_offer (va_wsS RX6 45 yX6_children wsX6_children) := goodIn_app (goodIn_of _ (by decide +kernel)) ggX6_offer_X6_children
theorem dX6_offer_0 : decode cX6_offer 0 = .ok (.aload_n 0, 1) := by decide +kernel
theorem dX6_offer_1 : decode cX6_offer 1 = .ok (.iload_n 1, 1) := by decide +kernel
theorem dX6_offer_2 : decode cX6_offer 2 = .ok (.iload_n 2, 1) := by decide +kernel
theorem dX6_offer_3 : decode cX6_offer 3 = .ok (.iload_n 3, 1) := by decide +kernel
theorem dX6_offer_4 : decode cX6_offer 4 = .ok (.invokevirtual 67, 3) := by decide +kernel
theorem dX6_offer_7 : decode cX6_offer 7 = .ok (.istore 4, 2) := by decide +kernel
theorem dX6_offer_9 : decode cX6_offer 9 = .ok (.iload_n 1, 1) := by decide +kernel
theorem dX6_offer_10 : decode cX6_offer 10 = .ok (.invokestatic 45, 3) := by decide +kernel
theorem dX6_offer_13 : decode cX6_offer 13 = .ok (.istore 5, 2) := by decide +kernel
theorem dX6_offer_15 : decode cX6_offer 15 = .ok (.iload 5, 2) := by decide +kernel
theorem dX6_offer_17 : decode cX6_offer 17 = .ok (.ifCond .le 12, 3) := by decide +kernel
theorem dX6_offer_20 : decode cX6_offer 20 = .ok (.aload_n 0, 1) := by decide +kernel
theorem dX6_offer_21 : decode cX6_offer 21 = .ok (.getfield 25, 3) := by decide +kernel
theorem dX6_offer_24 : decode cX6_offer 24 = .ok (.iload_n 2, 1) := by decide +kernel
theorem dX6_offer_25 : decode cX6_offer 25 = .ok (.iaload, 1) := by decide +kernel
theorem dX6_offer_26 : decode cX6_offer 26 = .ok (.goto 4, 3) := by decide +kernel
theorem dX6_offer_29 : decode cX6_offer 29 = .ok (.iconst 0, 1) := by decide +kernel
theorem dX6_offer_30 : decode cX6_offer 30 = .ok (.istore 6, 2) := by decide +kernel
theorem dX6_offer_32 : decode cX6_offer 32 = .ok (.iload 5, 2) := by decide +kernel
theorem dX6_offer_34 : decode cX6_offer 34 = .ok (.iconst 1, 1) := by decide +kernel
theorem dX6_offer_35 : decode cX6_offer 35 = .ok (.if_icmp .le 12, 3) := by decide +kernel
theorem dX6_offer_38 : decode cX6_offer 38 = .ok (.aload_n 0, 1) := by decide +kernel
theorem dX6_offer_39 : decode cX6_offer 39 = .ok (.getfield 25, 3) := by decide +kernel
theorem dX6_offer_42 : decode cX6_offer 42 = .ok (.iload_n 3, 1) := by decide +kernel
theorem dX6_offer_43 : decode cX6_offer 43 = .ok (.iaload, 1) := by decide +kernel
theorem dX6_offer_44 : decode cX6_offer 44 = .ok (.goto 4, 3) := by decide +kernel
theorem dX6_offer_47 : decode cX6_offer 47 = .ok (.iconst 0, 1) := by decide +kernel
theorem dX6_offer_48 : decode cX6_offer 48 = .ok (.istore 7, 2) := by decide +kernel
theorem dX6_offer_50 : decode cX6_offer 50 = .ok (.iconst 1, 1) := by decide +kernel
theorem dX6_offer_51 : decode cX6_offer 51 = .ok (.iload 6, 2) := by decide +kernel
theorem dX6_offer_53 : decode cX6_offer 53 = .ok (.iadd, 1) := by decide +kernel
theorem dX6_offer_54 : decode cX6_offer 54 = .ok (.iload 7, 2) := by decide +kernel
theorem dX6_offer_56 : decode cX6_offer 56 = .ok (.iadd, 1) := by decide +kernel
theorem dX6_offer_57 : decode cX6_offer 57 = .ok (.bipush 32, 2) := by decide +kernel
theorem dX6_offer_59 : decode cX6_offer 59 = .ok (.if_icmp .le 8, 3) := by decide +kernel
theorem dX6_offer_62 : decode cX6_offer 62 = .ok (.bipush 33, 2) := by decide +kernel
theorem dX6_offer_64 : decode cX6_offer 64 = .ok (.goto 10, 3) := by decide +kernel
theorem dX6_offer_67 : decode cX6_offer 67 = .ok (.iconst 1, 1) := by decide +kernel
theorem dX6_offer_68 : decode cX6_offer 68 = .ok (.iload 6, 2) := by decide +kernel
theorem dX6_offer_70 : decode cX6_offer 70 = .ok (.iadd, 1) := by decide +kernel
theorem dX6_offer_71 : decode cX6_offer 71 = .ok (.iload 7, 2) := by decide +kernel
theorem dX6_offer_73 : decode cX6_offer 73 = .ok (.iadd, 1) := by decide +kernel
theorem dX6_offer_74 : decode cX6_offer 74 = .ok (.istore 8, 2) := by decide +kernel
theorem dX6_offer_76 : decode cX6_offer 76 = .ok (.aload_n 0, 1) := by decide +kernel
theorem dX6_offer_77 : decode cX6_offer 77 = .ok (.getfield 25, 3) := by decide +kernel
theorem dX6_offer_80 : decode cX6_offer 80 = .ok (.iload 4, 2) := by decide +kernel
theorem dX6_offer_82 : decode cX6_offer 82 = .ok (.iaload, 1) := by decide +kernel
theorem dX6_offer_83 : decode cX6_offer 83 = .ok (.ifCond .le 15, 3) := by decide +kernel
theorem dX6_offer_86 : decode cX6_offer 86 = .ok (.aload_n 0, 1) := by decide +kernel
theorem dX6_offer_87 : decode cX6_offer 87 = .ok (.getfield 25, 3) := by decide +kernel
theorem dX6_offer_90 : decode cX6_offer 90 = .ok (.iload 4, 2) := by decide +kernel
theorem dX6_offer_92 : decode cX6_offer 92 = .ok (.iaload, 1) := by decide +kernel
theorem dX6_offer_93 : decode cX6_offer 93 = .ok (.iload 8, 2) := by decide +kernel
theorem dX6_offer_95 : decode cX6_offer 95 = .ok (.if_icmp .lt 22, 3) := by decide +kernel
theorem dX6_offer_98 : decode cX6_offer 98 = .ok (.iload 8, 2) := by decide +kernel
theorem dX6_offer_100 : decode cX6_offer 100 = .ok (.bipush 33, 2) := by decide +kernel
theorem dX6_offer_102 : decode cX6_offer 102 = .ok (.if_icmp .ne 17, 3) := by decide +kernel
theorem dX6_offer_105 : decode cX6_offer 105 = .ok (.aload_n 0, 1) := by decide +kernel
theorem dX6_offer_106 : decode cX6_offer 106 = .ok (.getfield 25, 3) := by decide +kernel
theorem dX6_offer_109 : decode cX6_offer 109 = .ok (.iload 4, 2) := by decide +kernel
theorem dX6_offer_111 : decode cX6_offer 111 = .ok (.iaload, 1) := by decide +kernel
theorem dX6_offer_112 : decode cX6_offer 112 = .ok (.bipush 33, 2) := by decide +kernel
theorem dX6_offer_114 : decode cX6_offer 114 = .ok (.if_icmp .ne 5, 3) := by decide +kernel
theorem dX6_offer_117 : decode cX6_offer 117 = .ok (.iconst 0, 1) := by decide +kernel
theorem dX6_offer_118 : decode cX6_offer 118 = .ok (.ireturn, 1) := by decide +kernel
theorem dX6_offer_119 : decode cX6_offer 119 = .ok (.iload 8, 2) := by decide +kernel
theorem dX6_offer_121 : decode cX6_offer 121 = .ok (.bipush 33, 2) := by decide +kernel
theorem dX6_offer_123 : decode cX6_offer 123 = .ok (.if_icmp .ge 207, 3) := by decide +kernel
theorem dX6_offer_126 : decode cX6_offer 126 = .ok (.aload_n 0, 1) := by decide +kernel
theorem dX6_offer_127 : decode cX6_offer 127 = .ok (.getfield 32, 3) := by decide +kernel
theorem dX6_offer_130 : decode cX6_offer 130 = .ok (.iconst 0, 1) := by decide +kernel
theorem dX6_offer_131 : decode cX6_offer 131 = .ok (.iload_n 1, 1) := by decide +kernel
theorem dX6_offer_132 : decode cX6_offer 132 = .ok (.i2b, 1) := by decide +kernel
theorem dX6_offer_133 : decode cX6_offer 133 = .ok (.bastore, 1) := by decide +kernel
theorem dX6_offer_134 : decode cX6_offer 134 = .ok (.iconst 0, 1) := by decide +kernel
theorem dX6_offer_135 : decode cX6_offer 135 = .ok (.istore 9, 2) := by decide +kernel
theorem dX6_offer_137 : decode cX6_offer 137 = .ok (.iload 9, 2) := by decide +kernel
theorem dX6_offer_139 : decode cX6_offer 139 = .ok (.iload 6, 2) := by decide +kernel
theorem dX6_offer_141 : decode cX6_offer 141 = .ok (.if_icmp .ge 30, 3) := by decide +kernel
theorem dX6_offer_144 : decode cX6_offer 144 = .ok (.aload_n 0, 1) := by decide +kernel
theorem dX6_offer_145 : decode cX6_offer 145 = .ok (.getfield 32, 3) := by decide +kernel
theorem dX6_offer_148 : decode cX6_offer 148 = .ok (.iconst 1, 1) := by decide +kernel
theorem dX6_offer_149 : decode cX6_offer 149 = .ok (.iload 9, 2) := by decide +kernel
theorem dX6_offer_151 : decode cX6_offer 151 = .ok (.iadd, 1) := by decide +kernel
theorem dX6_offer_152 : decode cX6_offer 152 = .ok (.aload_n 0, 1) := by decide +kernel
theorem dX6_offer_153 : decode cX6_offer 153 = .ok (.getfield 28, 3) := by decide +kernel
theorem dX6_offer_156 : decode cX6_offer 156 = .ok (.bipush 32, 2) := by decide +kernel
theorem dX6_offer_158 : decode cX6_offer 158 = .ok (.iload_n 2, 1) := by decide +kernel
theorem dX6_offer_159 : decode cX6_offer 159 = .ok (.imul, 1) := by decide +kernel
theorem dX6_offer_160 : decode cX6_offer 160 = .ok (.iload 9, 2) := by decide +kernel
theorem dX6_offer_162 : decode cX6_offer 162 = .ok (.iadd, 1) := by decide +kernel
theorem dX6_offer_163 : decode cX6_offer 163 = .ok (.baload, 1) := by decide +kernel
theorem dX6_offer_164 : decode cX6_offer 164 = .ok (.bastore, 1) := by decide +kernel
theorem dX6_offer_165 : decode cX6_offer 165 = .ok (.iinc 9 1, 3) := by decide +kernel
theorem dX6_offer_168 : decode cX6_offer 168 = .ok (.goto (-31), 3) := by decide +kernel
theorem dX6_offer_171 : decode cX6_offer 171 = .ok (.iconst 0, 1) := by decide +kernel
theorem dX6_offer_172 : decode cX6_offer 172 = .ok (.istore 9, 2) := by decide +kernel
theorem dX6_offer_174 : decode cX6_offer 174 = .ok (.iload 9, 2) := by decide +kernel
theorem dX6_offer_176 : decode cX6_offer 176 = .ok (.iload 7, 2) := by decide +kernel
theorem dX6_offer_178 : decode cX6_offer 178 = .ok (.if_icmp .ge 33, 3) := by decide +kernel
theorem dX6_offer_181 : decode cX6_offer 181 = .ok (.aload_n 0, 1) := by decide +kernel
theorem dX6_offer_182 : decode cX6_offer 182 = .ok (.getfield 32, 3) := by decide +kernel
theorem dX6_offer_185 : decode cX6_offer 185 = .ok (.iconst 1, 1) := by decide +kernel
theorem dX6_offer_186 : decode cX6_offer 186 = .ok (.iload 6, 2) := by decide +kernel
theorem dX6_offer_188 : decode cX6_offer 188 = .ok (.iadd, 1) := by decide +kernel
theorem dX6_offer_189 : decode cX6_offer 189 = .ok (.iload 9, 2) := by decide +kernel
theorem dX6_offer_191 : decode cX6_offer 191 = .ok (.iadd, 1) := by decide +kernel
theorem dX6_offer_192 : decode cX6_offer 192 = .ok (.aload_n 0, 1) := by decide +kernel
theorem dX6_offer_193 : decode cX6_offer 193 = .ok (.getfield 28, 3) := by decide +kernel
theorem dX6_offer_196 : decode cX6_offer 196 = .ok (.bipush 32, 2) := by decide +kernel
theorem dX6_offer_198 : decode cX6_offer 198 = .ok (.iload_n 3, 1) := by decide +kernel
theorem dX6_offer_199 : decode cX6_offer 199 = .ok (.imul, 1) := by decide +kernel
theorem dX6_offer_200 : decode cX6_offer 200 = .ok (.iload 9, 2) := by decide +kernel
theorem dX6_offer_202 : decode cX6_offer 202 = .ok (.iadd, 1) := by decide +kernel
theorem dX6_offer_203 : decode cX6_offer 203 = .ok (.baload, 1) := by decide +kernel
theorem dX6_offer_204 : decode cX6_offer 204 = .ok (.bastore, 1) := by decide +kernel
theorem dX6_offer_205 : decode cX6_offer 205 = .ok (.iinc 9 1, 3) := by decide +kernel
theorem dX6_offer_208 : decode cX6_offer 208 = .ok (.goto (-34), 3) := by decide +kernel
theorem dX6_offer_211 : decode cX6_offer 211 = .ok (.aload_n 0, 1) := by decide +kernel
theorem dX6_offer_212 : decode cX6_offer 212 = .ok (.getfield 25, 3) := by decide +kernel
theorem dX6_offer_215 : decode cX6_offer 215 = .ok (.iload 4, 2) := by decide +kernel
theorem dX6_offer_217 : decode cX6_offer 217 = .ok (.iaload, 1) := by decide +kernel
theorem dX6_offer_218 : decode cX6_offer 218 = .ok (.iload 8, 2) := by decide +kernel
theorem dX6_offer_220 : decode cX6_offer 220 = .ok (.if_icmp .ne 74, 3) := by decide +kernel
theorem dX6_offer_223 : decode cX6_offer 223 = .ok (.iconst 0, 1) := by decide +kernel
theorem dX6_offer_224 : decode cX6_offer 224 = .ok (.istore 9, 2) := by decide +kernel
theorem dX6_offer_226 : decode cX6_offer 226 = .ok (.iload 9, 2) := by decide +kernel
theorem dX6_offer_228 : decode cX6_offer 228 = .ok (.iload 8, 2) := by decide +kernel
theorem dX6_offer_230 : decode cX6_offer 230 = .ok (.if_icmp .ge 32, 3) := by decide +kernel
theorem dX6_offer_233 : decode cX6_offer 233 = .ok (.aload_n 0, 1) := by decide +kernel
theorem dX6_offer_234 : decode cX6_offer 234 = .ok (.getfield 32, 3) := by decide +kernel
theorem dX6_offer_237 : decode cX6_offer 237 = .ok (.iload 9, 2) := by decide +kernel
theorem dX6_offer_239 : decode cX6_offer 239 = .ok (.baload, 1) := by decide +kernel
theorem dX6_offer_240 : decode cX6_offer 240 = .ok (.aload_n 0, 1) := by decide +kernel
theorem dX6_offer_241 : decode cX6_offer 241 = .ok (.getfield 28, 3) := by decide +kernel
theorem dX6_offer_244 : decode cX6_offer 244 = .ok (.bipush 32, 2) := by decide +kernel
theorem dX6_offer_246 : decode cX6_offer 246 = .ok (.iload 4, 2) := by decide +kernel
theorem dX6_offer_248 : decode cX6_offer 248 = .ok (.imul, 1) := by decide +kernel
theorem dX6_offer_249 : decode cX6_offer 249 = .ok (.iload 9, 2) := by decide +kernel
theorem dX6_offer_251 : decode cX6_offer 251 = .ok (.iadd, 1) := by decide +kernel
theorem dX6_offer_252 : decode cX6_offer 252 = .ok (.baload, 1) := by decide +kernel
theorem dX6_offer_253 : decode cX6_offer 253 = .ok (.if_icmp .ne 9, 3) := by decide +kernel
theorem dX6_offer_256 : decode cX6_offer 256 = .ok (.iinc 9 1, 3) := by decide +kernel
theorem dX6_offer_259 : decode cX6_offer 259 = .ok (.goto (-33), 3) := by decide +kernel
theorem dX6_offer_262 : decode cX6_offer 262 = .ok (.iload 9, 2) := by decide +kernel
theorem dX6_offer_264 : decode cX6_offer 264 = .ok (.iload 8, 2) := by decide +kernel
theorem dX6_offer_266 : decode cX6_offer 266 = .ok (.if_icmp .eq 26, 3) := by decide +kernel
theorem dX6_offer_269 : decode cX6_offer 269 = .ok (.aload_n 0, 1) := by decide +kernel
theorem dX6_offer_270 : decode cX6_offer 270 = .ok (.getfield 32, 3) := by decide +kernel
theorem dX6_offer_273 : decode cX6_offer 273 = .ok (.iload 9, 2) := by decide +kernel
theorem dX6_offer_275 : decode cX6_offer 275 = .ok (.baload, 1) := by decide +kernel
theorem dX6_offer_276 : decode cX6_offer 276 = .ok (.aload_n 0, 1) := by decide +kernel
theorem dX6_offer_277 : decode cX6_offer 277 = .ok (.getfield 28, 3) := by decide +kernel
theorem dX6_offer_280 : decode cX6_offer 280 = .ok (.bipush 32, 2) := by decide +kernel
theorem dX6_offer_282 : decode cX6_offer 282 = .ok (.iload 4, 2) := by decide +kernel
theorem dX6_offer_284 : decode cX6_offer 284 = .ok (.imul, 1) := by decide +kernel
theorem dX6_offer_285 : decode cX6_offer 285 = .ok (.iload 9, 2) := by decide +kernel
theorem dX6_offer_287 : decode cX6_offer 287 = .ok (.iadd, 1) := by decide +kernel
theorem dX6_offer_288 : decode cX6_offer 288 = .ok (.baload, 1) := by decide +kernel
theorem dX6_offer_289 : decode cX6_offer 289 = .ok (.if_icmp .le 5, 3) := by decide +kernel
theorem dX6_offer_292 : decode cX6_offer 292 = .ok (.iconst 0, 1) := by decide +kernel
theorem dX6_offer_293 : decode cX6_offer 293 = .ok (.ireturn, 1) := by decide +kernel
theorem dX6_offer_294 : decode cX6_offer 294 = .ok (.iconst 0, 1) := by decide +kernel
theorem dX6_offer_295 : decode cX6_offer 295 = .ok (.istore 9, 2) := by decide +kernel
theorem dX6_offer_297 : decode cX6_offer 297 = .ok (.iload 9, 2) := by decide +kernel
theorem dX6_offer_299 : decode cX6_offer 299 = .ok (.iload 8, 2) := by decide +kernel
theorem dX6_offer_301 : decode cX6_offer 301 = .ok (.if_icmp .ge 29, 3) := by decide +kernel
theorem dX6_offer_304 : decode cX6_offer 304 = .ok (.aload_n 0, 1) := by decide +kernel
theorem dX6_offer_305 : decode cX6_offer 305 = .ok (.getfield 28, 3) := by decide +kernel
theorem dX6_offer_308 : decode cX6_offer 308 = .ok (.bipush 32, 2) := by decide +kernel
theorem dX6_offer_310 : decode cX6_offer 310 = .ok (.iload 4, 2) := by decide +kernel
theorem dX6_offer_312 : decode cX6_offer 312 = .ok (.imul, 1) := by decide +kernel
theorem dX6_offer_313 : decode cX6_offer 313 = .ok (.iload 9, 2) := by decide +kernel
theorem dX6_offer_315 : decode cX6_offer 315 = .ok (.iadd, 1) := by decide +kernel
theorem dX6_offer_316 : decode cX6_offer 316 = .ok (.aload_n 0, 1) := by decide +kernel
theorem dX6_offer_317 : decode cX6_offer 317 = .ok (.getfield 32, 3) := by decide +kernel
theorem dX6_offer_320 : decode cX6_offer 320 = .ok (.iload 9, 2) := by decide +kernel
theorem dX6_offer_322 : decode cX6_offer 322 = .ok (.baload, 1) := by decide +kernel
theorem dX6_offer_323 : decode cX6_offer 323 = .ok (.bastore, 1) := by decide +kernel
theorem dX6_offer_324 : decode cX6_offer 324 = .ok (.iinc 9 1, 3) := by decide +kernel
theorem dX6_offer_327 : decode cX6_offer 327 = .ok (.goto (-30), 3) := by decide +kernel
theorem dX6_offer_330 : decode cX6_offer 330 = .ok (.aload_n 0, 1) := by decide +kernel
theorem dX6_offer_331 : decode cX6_offer 331 = .ok (.getfield 25, 3) := by decide +kernel
theorem dX6_offer_334 : decode cX6_offer 334 = .ok (.iload 4, 2) := by decide +kernel
theorem dX6_offer_336 : decode cX6_offer 336 = .ok (.iload 8, 2) := by decide +kernel
theorem dX6_offer_338 : decode cX6_offer 338 = .ok (.iastore, 1) := by decide +kernel
theorem dX6_offer_339 : decode cX6_offer 339 = .ok (.iconst 1, 1) := by decide +kernel
theorem dX6_offer_340 : decode cX6_offer 340 = .ok (.ireturn, 1) := by decide +kernel
set_option maxRecDepth 20000 in
theorem ggX6_all_X6_children : GoodIn wsX6_all wsX6_children := goodIn_r _ [6] (by decide +kernel) (by decide +kernel)
set_option maxRecDepth 20000 in
theorem gX6_all_X6_children : GoodIn wsX6_all (va_wsS RX6 45 yX6_children wsX6_children) := goodIn_app (goodIn_of _ (by decide +kernel)) ggX6_all_X6_children
set_option maxRecDepth 20000 in
theorem ggX6_all_X6_offer : GoodIn wsX6_all wsX6_offer := goodIn_r _ [10, 1, 11, 12, 13, 14, 15, 5, 16, 17, 18, 19, 20, 21, 3, 4, 6, 22, 23, 24, 25, 26, 27, 28, 29, 30, 31, 32] (by decide +kernel) (by decide +kernel)
set_option maxRecDepth 20000 in
theorem gX6_all_X6_offer : GoodIn wsX6_all (wsV RX6 72 RX6 yX6_offer wsX6_offer) := goodIn_app (goodIn_of _ (by decide +kernel)) ggX6_all_X6_offer
theorem dX6_all_0 : decode cX6_all 0 = .ok (.iconst 0, 1) := by decide +kernel
theorem dX6_all_1 : decode cX6_all 1 = .ok (.istore_n 1, 1) := by decide +kernel
theorem dX6_all_2 : decode cX6_all 2 = .ok (.iload_n 1, 1) := by decide +kernel
theorem dX6_all_3 : decode cX6_all 3 = .ok (.sipush 256, 3) := by decide +kernel
theorem dX6_all_6 : decode cX6_all 6 = .ok (.if_icmp .ge 16, 3) := by decide +kernel
theorem dX6_all_9 : decode cX6_all 9 = .ok (.aload_n 0, 1) := by decide +kernel
theorem dX6_all_10 : decode cX6_all 10 = .ok (.getfield 25, 3) := by decide +kernel
theorem dX6_all_13 : decode cX6_all 13 = .ok (.iload_n 1, 1) := by decide +kernel
theorem dX6_all_14 : decode cX6_all 14 = .ok (.iconst 0, 1) := by decide +kernel
theorem dX6_all_15 : decode cX6_all 15 = .ok (.iastore, 1) := by decide +kernel
theorem dX6_all_16 : decode cX6_all 16 = .ok (.iinc 1 1, 3) := by decide +kernel
theorem dX6_all_19 : decode cX6_all 19 = .ok (.goto (-17), 3) := by decide +kernel
theorem dX6_all_22 : decode cX6_all 22 = .ok (.iconst 1, 1) := by decide +kernel
theorem dX6_all_23 : decode cX6_all 23 = .ok (.istore_n 1, 1) := by decide +kernel
theorem dX6_all_24 : decode cX6_all 24 = .ok (.iconst 0, 1) := by decide +kernel
theorem dX6_all_25 : decode cX6_all 25 = .ok (.istore_n 2, 1) := by decide +kernel
theorem dX6_all_26 : decode cX6_all 26 = .ok (.iload_n 1, 1) := by decide +kernel
theorem dX6_all_27 : decode cX6_all 27 = .ok (.ifCond .eq 142, 3) := by decide +kernel
theorem dX6_all_30 : decode cX6_all 30 = .ok (.iload_n 2, 1) := by decide +kernel
theorem dX6_all_31 : decode cX6_all 31 = .ok (.ldc 71, 2) := by decide +kernel
theorem dX6_all_33 : decode cX6_all 33 = .ok (.if_icmp .ge 136, 3) := by decide +kernel
theorem dX6_all_36 : decode cX6_all 36 = .ok (.iconst 0, 1) := by decide +kernel
theorem dX6_all_37 : decode cX6_all 37 = .ok (.istore_n 1, 1) := by decide +kernel
theorem dX6_all_38 : decode cX6_all 38 = .ok (.iconst 0, 1) := by decide +kernel
theorem dX6_all_39 : decode cX6_all 39 = .ok (.istore_n 3, 1) := by decide +kernel
theorem dX6_all_40 : decode cX6_all 40 = .ok (.iload_n 3, 1) := by decide +kernel
theorem dX6_all_41 : decode cX6_all 41 = .ok (.bipush 8, 2) := by decide +kernel
theorem dX6_all_43 : decode cX6_all 43 = .ok (.if_icmp .ge 120, 3) := by decide +kernel
theorem dX6_all_46 : decode cX6_all 46 = .ok (.iload_n 3, 1) := by decide +kernel
theorem dX6_all_47 : decode cX6_all 47 = .ok (.invokestatic 45, 3) := by decide +kernel
theorem dX6_all_50 : decode cX6_all 50 = .ok (.istore 4, 2) := by decide +kernel
theorem dX6_all_52 : decode cX6_all 52 = .ok (.iconst 0, 1) := by decide +kernel
theorem dX6_all_53 : decode cX6_all 53 = .ok (.istore 5, 2) := by decide +kernel
theorem dX6_all_55 : decode cX6_all 55 = .ok (.iload 5, 2) := by decide +kernel
theorem dX6_all_57 : decode cX6_all 57 = .ok (.sipush 256, 3) := by decide +kernel
theorem dX6_all_60 : decode cX6_all 60 = .ok (.if_icmp .ge 97, 3) := by decide +kernel
theorem dX6_all_63 : decode cX6_all 63 = .ok (.iload 4, 2) := by decide +kernel
theorem dX6_all_65 : decode cX6_all 65 = .ok (.ifCond .ne 13, 3) := by decide +kernel
theorem dX6_all_68 : decode cX6_all 68 = .ok (.iload 5, 2) := by decide +kernel
theorem dX6_all_70 : decode cX6_all 70 = .ok (.bipush 17, 2) := by decide +kernel
theorem dX6_all_72 : decode cX6_all 72 = .ok (.if_icmp .eq 19, 3) := by decide +kernel
theorem dX6_all_75 : decode cX6_all 75 = .ok (.goto 76, 3) := by decide +kernel
theorem dX6_all_78 : decode cX6_all 78 = .ok (.aload_n 0, 1) := by decide +kernel
theorem dX6_all_79 : decode cX6_all 79 = .ok (.getfield 25, 3) := by decide +kernel
theorem dX6_all_82 : decode cX6_all 82 = .ok (.iload 5, 2) := by decide +kernel
theorem dX6_all_84 : decode cX6_all 84 = .ok (.iaload, 1) := by decide +kernel
theorem dX6_all_85 : decode cX6_all 85 = .ok (.ifCond .ne 6, 3) := by decide +kernel
theorem dX6_all_88 : decode cX6_all 88 = .ok (.goto 63, 3) := by decide +kernel
theorem dX6_all_91 : decode cX6_all 91 = .ok (.iconst 0, 1) := by decide +kernel
theorem dX6_all_92 : decode cX6_all 92 = .ok (.istore 6, 2) := by decide +kernel
theorem dX6_all_94 : decode cX6_all 94 = .ok (.iload 6, 2) := by decide +kernel
theorem dX6_all_96 : decode cX6_all 96 = .ok (.sipush 256, 3) := by decide +kernel
theorem dX6_all_99 : decode cX6_all 99 = .ok (.if_icmp .ge 52, 3) := by decide +kernel
theorem dX6_all_102 : decode cX6_all 102 = .ok (.iload 4, 2) := by decide +kernel
theorem dX6_all_104 : decode cX6_all 104 = .ok (.iconst 2, 1) := by decide +kernel
theorem dX6_all_105 : decode cX6_all 105 = .ok (.if_icmp .ge 13, 3) := by decide +kernel
theorem dX6_all_108 : decode cX6_all 108 = .ok (.iload 6, 2) := by decide +kernel
theorem dX6_all_110 : decode cX6_all 110 = .ok (.bipush 17, 2) := by decide +kernel
theorem dX6_all_112 : decode cX6_all 112 = .ok (.if_icmp .eq 19, 3) := by decide +kernel
theorem dX6_all_115 : decode cX6_all 115 = .ok (.goto 30, 3) := by decide +kernel
theorem dX6_all_118 : decode cX6_all 118 = .ok (.aload_n 0, 1) := by decide +kernel
theorem dX6_all_119 : decode cX6_all 119 = .ok (.getfield 25, 3) := by decide +kernel
theorem dX6_all_122 : decode cX6_all 122 = .ok (.iload 6, 2) := by decide +kernel
theorem dX6_all_124 : decode cX6_all 124 = .ok (.iaload, 1) := by decide +kernel
theorem dX6_all_125 : decode cX6_all 125 = .ok (.ifCond .ne 6, 3) := by decide +kernel
theorem dX6_all_128 : decode cX6_all 128 = .ok (.goto 17, 3) := by decide +kernel
theorem dX6_all_131 : decode cX6_all 131 = .ok (.aload_n 0, 1) := by decide +kernel
theorem dX6_all_132 : decode cX6_all 132 = .ok (.iload_n 3, 1) := by decide +kernel
theorem dX6_all_133 : decode cX6_all 133 = .ok (.iload 5, 2) := by decide +kernel
theorem dX6_all_135 : decode cX6_all 135 = .ok (.iload 6, 2) := by decide +kernel
theorem dX6_all_137 : decode cX6_all 137 = .ok (.invokevirtual 72, 3) := by decide +kernel
theorem dX6_all_140 : decode cX6_all 140 = .ok (.ifCond .eq 5, 3) := by decide +kernel
theorem dX6_all_143 : decode cX6_all 143 = .ok (.iconst 1, 1) := by decide +kernel
theorem dX6_all_144 : decode cX6_all 144 = .ok (.istore_n 1, 1) := by decide +kernel
theorem dX6_all_145 : decode cX6_all 145 = .ok (.iinc 6 1, 3) := by decide +kernel
theorem dX6_all_148 : decode cX6_all 148 = .ok (.goto (-54), 3) := by decide +kernel
theorem dX6_all_151 : decode cX6_all 151 = .ok (.iinc 5 1, 3) := by decide +kernel
theorem dX6_all_154 : decode cX6_all 154 = .ok (.goto (-99), 3) := by decide +kernel
theorem dX6_all_157 : decode cX6_all 157 = .ok (.iinc 3 1, 3) := by decide +kernel
theorem dX6_all_160 : decode cX6_all 160 = .ok (.goto (-120), 3) := by decide +kernel
theorem dX6_all_163 : decode cX6_all 163 = .ok (.iinc 2 1, 3) := by decide +kernel
theorem dX6_all_166 : decode cX6_all 166 = .ok (.goto (-140), 3) := by decide +kernel
theorem dX6_all_169 : decode cX6_all 169 = .ok (.return_, 1) := by decide +kernel
set_option maxRecDepth 20000 in
theorem ggX6_best_X6_all : GoodIn wsX6_best wsX6_all := goodIn_r _ [7, 1, 8, 9, 10, 6, 11, 12, 13, 14, 15, 16, 2, 17, 18, 19, 20, 21, 22, 23, 24, 25, 31, 32, 33, 34, 35, 36, 37, 38, 39, 40, 41] (by decide +kernel) (by decide +kernel)
set_option maxRecDepth 20000 in
theorem gX6_best_X6_all : GoodIn wsX6_best (wsV RX6 75 RX6 yX6_all wsX6_all) := goodIn_app (goodIn_of _ (by decide +kernel)) ggX6_best_X6_all
set_option maxRecDepth 20000 in
theorem ggX6_best_X6_placeOf : GoodIn wsX6_best wsX6_placeOf := goodIn_r _ [29, 30, 31, 32, 33, 34, 35, 36, 37, 38, 39, 40, 41] (by decide +kernel) (by decide +kernel)
set_option maxRecDepth 20000 in
theorem gX6_best_X6_placeOf : GoodIn wsX6_best (wsV RX6 64 RX6 yX6_placeOf wsX6_placeOf) := goodIn_app (goodIn_of _ (by decide +kernel)) ggX6_best_X6_placeOf
theorem dX6_best_0 : decode cX6_best 0 = .ok (.aload_n 0, 1) := by decide +kernel
theorem dX6_best_1 : decode cX6_best 1 = .ok (.invokevirtual 75, 3) := by decide +kernel
theorem dX6_best_4 : decode cX6_best 4 = .ok (.iconst (-1), 1) := by decide +kernel
theorem dX6_best_5 : decode cX6_best 5 = .ok (.istore_n 2, 1) := by decide +kernel
theorem dX6_best_6 : decode cX6_best 6 = .ok (.iconst 0, 1) := by decide +kernel
theorem dX6_best_7 : decode cX6_best 7 = .ok (.istore_n 3, 1) := by decide +kernel
theorem dX6_best_8 : decode cX6_best 8 = .ok (.iload_n 3, 1) := by decide +kernel
theorem dX6_best_9 : decode cX6_best 9 = .ok (.sipush 256, 3) := by decide +kernel
theorem dX6_best_12 : decode cX6_best 12 = .ok (.if_icmp .ge 170, 3) := by decide +kernel
theorem dX6_best_15 : decode cX6_best 15 = .ok (.aload_n 0, 1) := by decide +kernel
theorem dX6_best_16 : decode cX6_best 16 = .ok (.getfield 25, 3) := by decide +kernel
theorem dX6_best_19 : decode cX6_best 19 = .ok (.iload_n 3, 1) := by decide +kernel
theorem dX6_best_20 : decode cX6_best 20 = .ok (.iaload, 1) := by decide +kernel
theorem dX6_best_21 : decode cX6_best 21 = .ok (.ifCond .eq 155, 3) := by decide +kernel
theorem dX6_best_24 : decode cX6_best 24 = .ok (.iload_n 1, 1) := by decide +kernel
theorem dX6_best_25 : decode cX6_best 25 = .ok (.aload_n 0, 1) := by decide +kernel
theorem dX6_best_26 : decode cX6_best 26 = .ok (.iload_n 3, 1) := by decide +kernel
theorem dX6_best_27 : decode cX6_best 27 = .ok (.invokevirtual 64, 3) := by decide +kernel
theorem dX6_best_30 : decode cX6_best 30 = .ok (.ishr, 1) := by decide +kernel
theorem dX6_best_31 : decode cX6_best 31 = .ok (.iconst 1, 1) := by decide +kernel
theorem dX6_best_32 : decode cX6_best 32 = .ok (.iand, 1) := by decide +kernel
theorem dX6_best_33 : decode cX6_best 33 = .ok (.ifCond .ne 6, 3) := by decide +kernel
theorem dX6_best_36 : decode cX6_best 36 = .ok (.goto 140, 3) := by decide +kernel
theorem dX6_best_39 : decode cX6_best 39 = .ok (.iload_n 2, 1) := by decide +kernel
theorem dX6_best_40 : decode cX6_best 40 = .ok (.ifCond .lt 18, 3) := by decide +kernel
theorem dX6_best_43 : decode cX6_best 43 = .ok (.aload_n 0, 1) := by decide +kernel
theorem dX6_best_44 : decode cX6_best 44 = .ok (.getfield 25, 3) := by decide +kernel
theorem dX6_best_47 : decode cX6_best 47 = .ok (.iload_n 3, 1) := by decide +kernel
theorem dX6_best_48 : decode cX6_best 48 = .ok (.iaload, 1) := by decide +kernel
theorem dX6_best_49 : decode cX6_best 49 = .ok (.aload_n 0, 1) := by decide +kernel
theorem dX6_best_50 : decode cX6_best 50 = .ok (.getfield 25, 3) := by decide +kernel
theorem dX6_best_53 : decode cX6_best 53 = .ok (.iload_n 2, 1) := by decide +kernel
theorem dX6_best_54 : decode cX6_best 54 = .ok (.iaload, 1) := by decide +kernel
theorem dX6_best_55 : decode cX6_best 55 = .ok (.if_icmp .ge 8, 3) := by decide +kernel
theorem dX6_best_58 : decode cX6_best 58 = .ok (.iload_n 3, 1) := by decide +kernel
theorem dX6_best_59 : decode cX6_best 59 = .ok (.istore_n 2, 1) := by decide +kernel
theorem dX6_best_60 : decode cX6_best 60 = .ok (.goto 116, 3) := by decide +kernel
theorem dX6_best_63 : decode cX6_best 63 = .ok (.aload_n 0, 1) := by decide +kernel
theorem dX6_best_64 : decode cX6_best 64 = .ok (.getfield 25, 3) := by decide +kernel
theorem dX6_best_67 : decode cX6_best 67 = .ok (.iload_n 3, 1) := by decide +kernel
theorem dX6_best_68 : decode cX6_best 68 = .ok (.iaload, 1) := by decide +kernel
theorem dX6_best_69 : decode cX6_best 69 = .ok (.aload_n 0, 1) := by decide +kernel
theorem dX6_best_70 : decode cX6_best 70 = .ok (.getfield 25, 3) := by decide +kernel
theorem dX6_best_73 : decode cX6_best 73 = .ok (.iload_n 2, 1) := by decide +kernel
theorem dX6_best_74 : decode cX6_best 74 = .ok (.iaload, 1) := by decide +kernel
theorem dX6_best_75 : decode cX6_best 75 = .ok (.if_icmp .ne 101, 3) := by decide +kernel
theorem dX6_best_78 : decode cX6_best 78 = .ok (.aload_n 0, 1) := by decide +kernel
theorem dX6_best_79 : decode cX6_best 79 = .ok (.getfield 25, 3) := by decide +kernel
theorem dX6_best_82 : decode cX6_best 82 = .ok (.iload_n 3, 1) := by decide +kernel
theorem dX6_best_83 : decode cX6_best 83 = .ok (.iaload, 1) := by decide +kernel
theorem dX6_best_84 : decode cX6_best 84 = .ok (.bipush 33, 2) := by decide +kernel
theorem dX6_best_86 : decode cX6_best 86 = .ok (.if_icmp .ge 90, 3) := by decide +kernel
theorem dX6_best_89 : decode cX6_best 89 = .ok (.iconst 0, 1) := by decide +kernel
theorem dX6_best_90 : decode cX6_best 90 = .ok (.istore 4, 2) := by decide +kernel
theorem dX6_best_92 : decode cX6_best 92 = .ok (.iload 4, 2) := by decide +kernel
theorem dX6_best_94 : decode cX6_best 94 = .ok (.aload_n 0, 1) := by decide +kernel
theorem dX6_best_95 : decode cX6_best 95 = .ok (.getfield 25, 3) := by decide +kernel
theorem dX6_best_98 : decode cX6_best 98 = .ok (.iload_n 3, 1) := by decide +kernel
theorem dX6_best_99 : decode cX6_best 99 = .ok (.iaload, 1) := by decide +kernel
theorem dX6_best_100 : decode cX6_best 100 = .ok (.if_icmp .ge 36, 3) := by decide +kernel
theorem dX6_best_103 : decode cX6_best 103 = .ok (.aload_n 0, 1) := by decide +kernel
theorem dX6_best_104 : decode cX6_best 104 = .ok (.getfield 28, 3) := by decide +kernel
theorem dX6_best_107 : decode cX6_best 107 = .ok (.bipush 32, 2) := by decide +kernel
theorem dX6_best_109 : decode cX6_best 109 = .ok (.iload_n 3, 1) := by decide +kernel
theorem dX6_best_110 : decode cX6_best 110 = .ok (.imul, 1) := by decide +kernel
theorem dX6_best_111 : decode cX6_best 111 = .ok (.iload 4, 2) := by decide +kernel
theorem dX6_best_113 : decode cX6_best 113 = .ok (.iadd, 1) := by decide +kernel
theorem dX6_best_114 : decode cX6_best 114 = .ok (.baload, 1) := by decide +kernel
theorem dX6_best_115 : decode cX6_best 115 = .ok (.aload_n 0, 1) := by decide +kernel
theorem dX6_best_116 : decode cX6_best 116 = .ok (.getfield 28, 3) := by decide +kernel
theorem dX6_best_119 : decode cX6_best 119 = .ok (.bipush 32, 2) := by decide +kernel
theorem dX6_best_121 : decode cX6_best 121 = .ok (.iload_n 2, 1) := by decide +kernel
theorem dX6_best_122 : decode cX6_best 122 = .ok (.imul, 1) := by decide +kernel
theorem dX6_best_123 : decode cX6_best 123 = .ok (.iload 4, 2) := by decide +kernel
theorem dX6_best_125 : decode cX6_best 125 = .ok (.iadd, 1) := by decide +kernel
theorem dX6_best_126 : decode cX6_best 126 = .ok (.baload, 1) := by decide +kernel
theorem dX6_best_127 : decode cX6_best 127 = .ok (.if_icmp .ne 9, 3) := by decide +kernel
theorem dX6_best_130 : decode cX6_best 130 = .ok (.iinc 4 1, 3) := by decide +kernel
theorem dX6_best_133 : decode cX6_best 133 = .ok (.goto (-41), 3) := by decide +kernel
theorem dX6_best_136 : decode cX6_best 136 = .ok (.iload 4, 2) := by decide +kernel
theorem dX6_best_138 : decode cX6_best 138 = .ok (.aload_n 0, 1) := by decide +kernel
theorem dX6_best_139 : decode cX6_best 139 = .ok (.getfield 25, 3) := by decide +kernel
theorem dX6_best_142 : decode cX6_best 142 = .ok (.iload_n 3, 1) := by decide +kernel
theorem dX6_best_143 : decode cX6_best 143 = .ok (.iaload, 1) := by decide +kernel
theorem dX6_best_144 : decode cX6_best 144 = .ok (.if_icmp .ge 32, 3) := by decide +kernel
theorem dX6_best_147 : decode cX6_best 147 = .ok (.aload_n 0, 1) := by decide +kernel
theorem dX6_best_148 : decode cX6_best 148 = .ok (.getfield 28, 3) := by decide +kernel
theorem dX6_best_151 : decode cX6_best 151 = .ok (.bipush 32, 2) := by decide +kernel
theorem dX6_best_153 : decode cX6_best 153 = .ok (.iload_n 3, 1) := by decide +kernel
theorem dX6_best_154 : decode cX6_best 154 = .ok (.imul, 1) := by decide +kernel
theorem dX6_best_155 : decode cX6_best 155 = .ok (.iload 4, 2) := by decide +kernel
theorem dX6_best_157 : decode cX6_best 157 = .ok (.iadd, 1) := by decide +kernel
theorem dX6_best_158 : decode cX6_best 158 = .ok (.baload, 1) := by decide +kernel
theorem dX6_best_159 : decode cX6_best 159 = .ok (.aload_n 0, 1) := by decide +kernel
theorem dX6_best_160 : decode cX6_best 160 = .ok (.getfield 28, 3) := by decide +kernel
theorem dX6_best_163 : decode cX6_best 163 = .ok (.bipush 32, 2) := by decide +kernel
theorem dX6_best_165 : decode cX6_best 165 = .ok (.iload_n 2, 1) := by decide +kernel
theorem dX6_best_166 : decode cX6_best 166 = .ok (.imul, 1) := by decide +kernel
theorem dX6_best_167 : decode cX6_best 167 = .ok (.iload 4, 2) := by decide +kernel
theorem dX6_best_169 : decode cX6_best 169 = .ok (.iadd, 1) := by decide +kernel
theorem dX6_best_170 : decode cX6_best 170 = .ok (.baload, 1) := by decide +kernel
theorem dX6_best_171 : decode cX6_best 171 = .ok (.if_icmp .ge 5, 3) := by decide +kernel
theorem dX6_best_174 : decode cX6_best 174 = .ok (.iload_n 3, 1) := by decide +kernel
theorem dX6_best_175 : decode cX6_best 175 = .ok (.istore_n 2, 1) := by decide +kernel
theorem dX6_best_176 : decode cX6_best 176 = .ok (.iinc 3 1, 3) := by decide +kernel
theorem dX6_best_179 : decode cX6_best 179 = .ok (.goto (-171), 3) := by decide +kernel
theorem dX6_best_182 : decode cX6_best 182 = .ok (.iload_n 2, 1) := by decide +kernel
theorem dX6_best_183 : decode cX6_best 183 = .ok (.ireturn, 1) := by decide +kernel
set_option maxRecDepth 20000 in
theorem ggX6_included_X6_best : GoodIn wsX6_included wsX6_best := goodIn_r _ [5, 6, 7, 8, 9, 10, 4, 11, 12, 13, 14, 15, 16, 17, 18, 19, 20, 21, 22, 23, 24, 25, 26, 27, 28, 29, 30, 31, 32, 33, 34, 35, 36, 37, 38, 39, 40, 41, 42, 43, 44, 45] (by decide +kernel) (by decide +kernel)
set_option maxRecDepth 20000 in
theorem gX6_included_X6_best : GoodIn wsX6_included (wsV RX6 78 RX6 yX6_best wsX6_best) := goodIn_app (goodIn_of _ (by decide +kernel)) ggX6_included_X6_best
theorem dX6_included_0 : decode cX6_included 0 = .ok (.aload_n 0, 1) := by decide +kernel
theorem dX6_included_1 : decode cX6_included 1 = .ok (.iconst 4, 1) := by decide +kernel
theorem dX6_included_2 : decode cX6_included 2 = .ok (.invokevirtual 78, 3) := by decide +kernel
theorem dX6_included_5 : decode cX6_included 5 = .ok (.ifCond .ge 7, 3) := by decide +kernel
theorem dX6_included_8 : decode cX6_included 8 = .ok (.iconst 1, 1) := by decide +kernel
theorem dX6_included_9 : decode cX6_included 9 = .ok (.goto 4, 3) := by decide +kernel
theorem dX6_included_12 : decode cX6_included 12 = .ok (.iconst 0, 1) := by decide +kernel
theorem dX6_included_13 : decode cX6_included 13 = .ok (.ireturn, 1) := by decide +kernel
set_option maxRecDepth 20000 in
theorem ggX6_least_X6_within : GoodIn wsX6_least wsX6_within := goodIn_r _ [5] (by decide +kernel) (by decide +kernel)
set_option maxRecDepth 20000 in
theorem gX6_least_X6_within : GoodIn wsX6_least (va_wsS RX6 41 yX6_within wsX6_within) := goodIn_app (goodIn_of _ (by decide +kernel)) ggX6_least_X6_within
set_option maxRecDepth 20000 in
theorem ggX6_least_X6_best : GoodIn wsX6_least wsX6_best := goodIn_r _ [9, 1, 10, 11, 12, 13, 4, 14, 15, 16, 17, 18, 19, 20, 21, 22, 23, 24, 25, 26, 27, 28, 29, 30, 31, 32, 33, 34, 35, 36, 37, 38, 39, 40, 41, 42, 43, 44, 45, 46, 47, 48] (by decide +kernel) (by decide +kernel)
set_option maxRecDepth 20000 in
theorem gX6_least_X6_best : GoodIn wsX6_least (wsV RX6 78 RX6 yX6_best wsX6_best) := goodIn_app (goodIn_of _ (by decide +kernel)) ggX6_least_X6_best
theorem dX6_least_0 : decode cX6_least 0 = .ok (.iload_n 1, 1) := by decide +kernel
theorem dX6_least_1 : decode cX6_least 1 = .ok (.iconst 0, 1) := by decide +kernel
theorem dX6_least_2 : decode cX6_least 2 = .ok (.bipush 15, 2) := by decide +kernel
theorem dX6_least_4 : decode cX6_least 4 = .ok (.invokestatic 41, 3) := by decide +kernel
theorem dX6_least_7 : decode cX6_least 7 = .ok (.ifCond .ne 5, 3) := by decide +kernel
theorem dX6_least_10 : decode cX6_least 10 = .ok (.iconst (-1), 1) := by decide +kernel
theorem dX6_least_11 : decode cX6_least 11 = .ok (.ireturn, 1) := by decide +kernel
theorem dX6_least_12 : decode cX6_least 12 = .ok (.aload_n 0, 1) := by decide +kernel
theorem dX6_least_13 : decode cX6_least 13 = .ok (.iload_n 1, 1) := by decide +kernel
theorem dX6_least_14 : decode cX6_least 14 = .ok (.invokevirtual 78, 3) := by decide +kernel
theorem dX6_least_17 : decode cX6_least 17 = .ok (.istore_n 2, 1) := by decide +kernel
theorem dX6_least_18 : decode cX6_least 18 = .ok (.iload_n 2, 1) := by decide +kernel
theorem dX6_least_19 : decode cX6_least 19 = .ok (.ifCond .ge 7, 3) := by decide +kernel
theorem dX6_least_22 : decode cX6_least 22 = .ok (.iconst 0, 1) := by decide +kernel
theorem dX6_least_23 : decode cX6_least 23 = .ok (.goto 9, 3) := by decide +kernel
theorem dX6_least_26 : decode cX6_least 26 = .ok (.aload_n 0, 1) := by decide +kernel
theorem dX6_least_27 : decode cX6_least 27 = .ok (.getfield 25, 3) := by decide +kernel
theorem dX6_least_30 : decode cX6_least 30 = .ok (.iload_n 2, 1) := by decide +kernel
theorem dX6_least_31 : decode cX6_least 31 = .ok (.iaload, 1) := by decide +kernel
theorem dX6_least_32 : decode cX6_least 32 = .ok (.ireturn, 1) := by decide +kernel
set_option maxRecDepth 20000 in
theorem ggX6_witness_X6_within : GoodIn wsX6_witness wsX6_within := goodIn_r _ [8] (by decide +kernel) (by decide +kernel)
set_option maxRecDepth 20000 in
theorem gX6_witness_X6_within : GoodIn wsX6_witness (va_wsS RX6 41 yX6_within wsX6_within) := goodIn_app (goodIn_of _ (by decide +kernel)) ggX6_witness_X6_within
set_option maxRecDepth 20000 in
theorem ggX6_witness_X6_best : GoodIn wsX6_witness wsX6_best := goodIn_r _ [12, 1, 3, 13, 14, 15, 7, 16, 17, 18, 19, 20, 21, 22, 23, 24, 25, 26, 27, 28, 29, 30, 31, 32, 33, 34, 35, 36, 37, 38, 39, 47, 48, 49, 50, 51, 52, 53, 54, 55, 56, 57] (by decide +kernel) (by decide +kernel)
set_option maxRecDepth 20000 in
theorem gX6_witness_X6_best : GoodIn wsX6_witness (wsV RX6 78 RX6 yX6_best wsX6_best) := goodIn_app (goodIn_of _ (by decide +kernel)) ggX6_witness_X6_best
set_option maxRecDepth 20000 in
theorem ggX6_witness_X6_children : GoodIn wsX6_witness wsX6_children := goodIn_r _ [20] (by decide +kernel) (by decide +kernel)
set_option maxRecDepth 20000 in
theorem gX6_witness_X6_children : GoodIn wsX6_witness (va_wsS RX6 45 yX6_children wsX6_children) := goodIn_app (goodIn_of _ (by decide +kernel)) ggX6_witness_X6_children
set_option maxRecDepth 20000 in
theorem ggX6_witness_X6_node : GoodIn wsX6_witness wsX6_node := goodIn_r _ [43, 2, 44, 45, 46, 5, 6, 7, 8, 18, 19, 20, 47, 48, 49, 50, 51, 52, 53, 54, 55, 56, 57] (by decide +kernel) (by decide +kernel)
set_option maxRecDepth 20000 in
theorem gX6_witness_X6_node : GoodIn wsX6_witness (wsV RX6 81 RX6 yX6_node wsX6_node) := goodIn_app (goodIn_of _ (by decide +kernel)) ggX6_witness_X6_node
theorem dX6_witness_0 : decode cX6_witness 0 = .ok (.iload_n 1, 1) := by decide +kernel
theorem dX6_witness_1 : decode cX6_witness 1 = .ok (.iconst 0, 1) := by decide +kernel
theorem dX6_witness_2 : decode cX6_witness 2 = .ok (.bipush 15, 2) := by decide +kernel
theorem dX6_witness_4 : decode cX6_witness 4 = .ok (.invokestatic 41, 3) := by decide +kernel
theorem dX6_witness_7 : decode cX6_witness 7 = .ok (.ifCond .ne 5, 3) := by decide +kernel
theorem dX6_witness_10 : decode cX6_witness 10 = .ok (.iconst (-1), 1) := by decide +kernel
theorem dX6_witness_11 : decode cX6_witness 11 = .ok (.ireturn, 1) := by decide +kernel
theorem dX6_witness_12 : decode cX6_witness 12 = .ok (.aload_n 0, 1) := by decide +kernel
theorem dX6_witness_13 : decode cX6_witness 13 = .ok (.iload_n 1, 1) := by decide +kernel
theorem dX6_witness_14 : decode cX6_witness 14 = .ok (.invokevirtual 78, 3) := by decide +kernel
theorem dX6_witness_17 : decode cX6_witness 17 = .ok (.istore_n 2, 1) := by decide +kernel
theorem dX6_witness_18 : decode cX6_witness 18 = .ok (.iload_n 2, 1) := by decide +kernel
theorem dX6_witness_19 : decode cX6_witness 19 = .ok (.ifCond .ge 6, 3) := by decide +kernel
theorem dX6_witness_22 : decode cX6_witness 22 = .ok (.bipush (-2), 2) := by decide +kernel
theorem dX6_witness_24 : decode cX6_witness 24 = .ok (.ireturn, 1) := by decide +kernel
theorem dX6_witness_25 : decode cX6_witness 25 = .ok (.aload_n 0, 1) := by decide +kernel
theorem dX6_witness_26 : decode cX6_witness 26 = .ok (.getfield 25, 3) := by decide +kernel
theorem dX6_witness_29 : decode cX6_witness 29 = .ok (.iload_n 2, 1) := by decide +kernel
theorem dX6_witness_30 : decode cX6_witness 30 = .ok (.iaload, 1) := by decide +kernel
theorem dX6_witness_31 : decode cX6_witness 31 = .ok (.bipush 33, 2) := by decide +kernel
theorem dX6_witness_33 : decode cX6_witness 33 = .ok (.if_icmp .ne 6, 3) := by decide +kernel
theorem dX6_witness_36 : decode cX6_witness 36 = .ok (.bipush (-3), 2) := by decide +kernel
theorem dX6_witness_38 : decode cX6_witness 38 = .ok (.ireturn, 1) := by decide +kernel
theorem dX6_witness_39 : decode cX6_witness 39 = .ok (.aload_n 0, 1) := by decide +kernel
theorem dX6_witness_40 : decode cX6_witness 40 = .ok (.getfield 53, 3) := by decide +kernel
theorem dX6_witness_43 : decode cX6_witness 43 = .ok (.aload_n 0, 1) := by decide +kernel
theorem dX6_witness_44 : decode cX6_witness 44 = .ok (.getfield 25, 3) := by decide +kernel
theorem dX6_witness_47 : decode cX6_witness 47 = .ok (.iload_n 2, 1) := by decide +kernel
theorem dX6_witness_48 : decode cX6_witness 48 = .ok (.iaload, 1) := by decide +kernel
theorem dX6_witness_49 : decode cX6_witness 49 = .ok (.iadd, 1) := by decide +kernel
theorem dX6_witness_50 : decode cX6_witness 50 = .ok (.sipush 200, 3) := by decide +kernel
theorem dX6_witness_53 : decode cX6_witness 53 = .ok (.if_icmp .le 6, 3) := by decide +kernel
theorem dX6_witness_56 : decode cX6_witness 56 = .ok (.bipush (-4), 2) := by decide +kernel
theorem dX6_witness_58 : decode cX6_witness 58 = .ok (.ireturn, 1) := by decide +kernel
theorem dX6_witness_59 : decode cX6_witness 59 = .ok (.iconst 0, 1) := by decide +kernel
theorem dX6_witness_60 : decode cX6_witness 60 = .ok (.istore_n 3, 1) := by decide +kernel
theorem dX6_witness_61 : decode cX6_witness 61 = .ok (.iconst 0, 1) := by decide +kernel
theorem dX6_witness_62 : decode cX6_witness 62 = .ok (.istore 4, 2) := by decide +kernel
theorem dX6_witness_64 : decode cX6_witness 64 = .ok (.aload_n 0, 1) := by decide +kernel
theorem dX6_witness_65 : decode cX6_witness 65 = .ok (.getfield 25, 3) := by decide +kernel
theorem dX6_witness_68 : decode cX6_witness 68 = .ok (.iload_n 2, 1) := by decide +kernel
theorem dX6_witness_69 : decode cX6_witness 69 = .ok (.iaload, 1) := by decide +kernel
theorem dX6_witness_70 : decode cX6_witness 70 = .ok (.iconst 1, 1) := by decide +kernel
theorem dX6_witness_71 : decode cX6_witness 71 = .ok (.isub, 1) := by decide +kernel
theorem dX6_witness_72 : decode cX6_witness 72 = .ok (.istore 5, 2) := by decide +kernel
theorem dX6_witness_74 : decode cX6_witness 74 = .ok (.iload 5, 2) := by decide +kernel
theorem dX6_witness_76 : decode cX6_witness 76 = .ok (.ifCond .lt 97, 3) := by decide +kernel
theorem dX6_witness_79 : decode cX6_witness 79 = .ok (.aload_n 0, 1) := by decide +kernel
theorem dX6_witness_80 : decode cX6_witness 80 = .ok (.getfield 28, 3) := by decide +kernel
theorem dX6_witness_83 : decode cX6_witness 83 = .ok (.bipush 32, 2) := by decide +kernel
theorem dX6_witness_85 : decode cX6_witness 85 = .ok (.iload_n 2, 1) := by decide +kernel
theorem dX6_witness_86 : decode cX6_witness 86 = .ok (.imul, 1) := by decide +kernel
theorem dX6_witness_87 : decode cX6_witness 87 = .ok (.iload 5, 2) := by decide +kernel
theorem dX6_witness_89 : decode cX6_witness 89 = .ok (.iadd, 1) := by decide +kernel
theorem dX6_witness_90 : decode cX6_witness 90 = .ok (.baload, 1) := by decide +kernel
theorem dX6_witness_91 : decode cX6_witness 91 = .ok (.istore 6, 2) := by decide +kernel
theorem dX6_witness_93 : decode cX6_witness 93 = .ok (.iload 6, 2) := by decide +kernel
theorem dX6_witness_95 : decode cX6_witness 95 = .ok (.invokestatic 45, 3) := by decide +kernel
theorem dX6_witness_98 : decode cX6_witness 98 = .ok (.istore 7, 2) := by decide +kernel
theorem dX6_witness_100 : decode cX6_witness 100 = .ok (.iload 7, 2) := by decide +kernel
theorem dX6_witness_102 : decode cX6_witness 102 = .ok (.ifCond .le 14, 3) := by decide +kernel
theorem dX6_witness_105 : decode cX6_witness 105 = .ok (.aload_n 0, 1) := by decide +kernel
theorem dX6_witness_106 : decode cX6_witness 106 = .ok (.getfield 38, 3) := by decide +kernel
theorem dX6_witness_109 : decode cX6_witness 109 = .ok (.iload_n 3, 1) := by decide +kernel
theorem dX6_witness_110 : decode cX6_witness 110 = .ok (.iconst 1, 1) := by decide +kernel
theorem dX6_witness_111 : decode cX6_witness 111 = .ok (.isub, 1) := by decide +kernel
theorem dX6_witness_112 : decode cX6_witness 112 = .ok (.iaload, 1) := by decide +kernel
theorem dX6_witness_113 : decode cX6_witness 113 = .ok (.goto 4, 3) := by decide +kernel
theorem dX6_witness_116 : decode cX6_witness 116 = .ok (.iconst 0, 1) := by decide +kernel
theorem dX6_witness_117 : decode cX6_witness 117 = .ok (.istore 8, 2) := by decide +kernel
theorem dX6_witness_119 : decode cX6_witness 119 = .ok (.iload 7, 2) := by decide +kernel
theorem dX6_witness_121 : decode cX6_witness 121 = .ok (.iconst 1, 1) := by decide +kernel
theorem dX6_witness_122 : decode cX6_witness 122 = .ok (.if_icmp .le 14, 3) := by decide +kernel
theorem dX6_witness_125 : decode cX6_witness 125 = .ok (.aload_n 0, 1) := by decide +kernel
theorem dX6_witness_126 : decode cX6_witness 126 = .ok (.getfield 38, 3) := by decide +kernel
theorem dX6_witness_129 : decode cX6_witness 129 = .ok (.iload_n 3, 1) := by decide +kernel
theorem dX6_witness_130 : decode cX6_witness 130 = .ok (.iconst 2, 1) := by decide +kernel
theorem dX6_witness_131 : decode cX6_witness 131 = .ok (.isub, 1) := by decide +kernel
theorem dX6_witness_132 : decode cX6_witness 132 = .ok (.iaload, 1) := by decide +kernel
theorem dX6_witness_133 : decode cX6_witness 133 = .ok (.goto 4, 3) := by decide +kernel
theorem dX6_witness_136 : decode cX6_witness 136 = .ok (.iconst 0, 1) := by decide +kernel
theorem dX6_witness_137 : decode cX6_witness 137 = .ok (.istore 9, 2) := by decide +kernel
theorem dX6_witness_139 : decode cX6_witness 139 = .ok (.iload_n 3, 1) := by decide +kernel
theorem dX6_witness_140 : decode cX6_witness 140 = .ok (.iload 7, 2) := by decide +kernel
theorem dX6_witness_142 : decode cX6_witness 142 = .ok (.isub, 1) := by decide +kernel
theorem dX6_witness_143 : decode cX6_witness 143 = .ok (.istore_n 3, 1) := by decide +kernel
theorem dX6_witness_144 : decode cX6_witness 144 = .ok (.aload_n 0, 1) := by decide +kernel
theorem dX6_witness_145 : decode cX6_witness 145 = .ok (.iload 6, 2) := by decide +kernel
theorem dX6_witness_147 : decode cX6_witness 147 = .ok (.iload 8, 2) := by decide +kernel
theorem dX6_witness_149 : decode cX6_witness 149 = .ok (.iload 9, 2) := by decide +kernel
theorem dX6_witness_151 : decode cX6_witness 151 = .ok (.invokevirtual 81, 3) := by decide +kernel
theorem dX6_witness_154 : decode cX6_witness 154 = .ok (.istore 4, 2) := by decide +kernel
theorem dX6_witness_156 : decode cX6_witness 156 = .ok (.aload_n 0, 1) := by decide +kernel
theorem dX6_witness_157 : decode cX6_witness 157 = .ok (.getfield 38, 3) := by decide +kernel
theorem dX6_witness_160 : decode cX6_witness 160 = .ok (.iload_n 3, 1) := by decide +kernel
theorem dX6_witness_161 : decode cX6_witness 161 = .ok (.iload 4, 2) := by decide +kernel
theorem dX6_witness_163 : decode cX6_witness 163 = .ok (.iastore, 1) := by decide +kernel
theorem dX6_witness_164 : decode cX6_witness 164 = .ok (.iinc 3 1, 3) := by decide +kernel
theorem dX6_witness_167 : decode cX6_witness 167 = .ok (.iinc 5 (-1), 3) := by decide +kernel
theorem dX6_witness_170 : decode cX6_witness 170 = .ok (.goto (-96), 3) := by decide +kernel
theorem dX6_witness_173 : decode cX6_witness 173 = .ok (.iload 4, 2) := by decide +kernel
theorem dX6_witness_175 : decode cX6_witness 175 = .ok (.ireturn, 1) := by decide +kernel
set_option maxRecDepth 20000 in
theorem ggX6_terms_X6_within : GoodIn wsX6_terms wsX6_within := goodIn_r _ [5] (by decide +kernel) (by decide +kernel)
set_option maxRecDepth 20000 in
theorem gX6_terms_X6_within : GoodIn wsX6_terms (va_wsS RX6 41 yX6_within wsX6_within) := goodIn_app (goodIn_of _ (by decide +kernel)) ggX6_terms_X6_within
set_option maxRecDepth 20000 in
theorem ggX6_terms_X6_children : GoodIn wsX6_terms wsX6_children := goodIn_r _ [8] (by decide +kernel) (by decide +kernel)
set_option maxRecDepth 20000 in
theorem gX6_terms_X6_children : GoodIn wsX6_terms (va_wsS RX6 45 yX6_children wsX6_children) := goodIn_app (goodIn_of _ (by decide +kernel)) ggX6_terms_X6_children
set_option maxRecDepth 20000 in
theorem ggX6_terms_X6_profile : GoodIn wsX6_terms wsX6_profile := goodIn_r _ [12, 13, 14, 15, 4, 16, 17, 27, 28, 29, 30, 31, 32, 33, 34, 35, 36, 37] (by decide +kernel) (by decide +kernel)
set_option maxRecDepth 20000 in
theorem gX6_terms_X6_profile : GoodIn wsX6_terms (wsV RX6 67 RX6 yX6_profile wsX6_profile) := goodIn_app (goodIn_of _ (by decide +kernel)) ggX6_terms_X6_profile
set_option maxRecDepth 20000 in
theorem ggX6_terms_X6_pairs : GoodIn wsX6_terms wsX6_pairs := goodIn_r _ [21, 1, 9, 10, 11, 4, 12, 13, 14, 15, 16, 17, 27, 28, 29, 30, 31, 32, 33, 34, 35, 36, 37] (by decide +kernel) (by decide +kernel)
set_option maxRecDepth 20000 in
theorem gX6_terms_X6_pairs : GoodIn wsX6_terms (wsV RX6 84 RX6 yX6_pairs wsX6_pairs) := goodIn_app (goodIn_of _ (by decide +kernel)) ggX6_terms_X6_pairs
set_option maxRecDepth 20000 in
theorem ggX6_terms_X6_placeOf : GoodIn wsX6_terms wsX6_placeOf := goodIn_r _ [25, 26, 27, 28, 29, 30, 31, 32, 33, 34, 35, 36, 37] (by decide +kernel) (by decide +kernel)
set_option maxRecDepth 20000 in
theorem gX6_terms_X6_placeOf : GoodIn wsX6_terms (wsV RX6 64 RX6 yX6_placeOf wsX6_placeOf) := goodIn_app (goodIn_of _ (by decide +kernel)) ggX6_terms_X6_placeOf
theorem dX6_terms_0 : decode cX6_terms 0 = .ok (.iload_n 1, 1) := by decide +kernel
theorem dX6_terms_1 : decode cX6_terms 1 = .ok (.iconst 0, 1) := by decide +kernel
theorem dX6_terms_2 : decode cX6_terms 2 = .ok (.bipush 15, 2) := by decide +kernel
theorem dX6_terms_4 : decode cX6_terms 4 = .ok (.invokestatic 41, 3) := by decide +kernel
theorem dX6_terms_7 : decode cX6_terms 7 = .ok (.ifCond .eq 13, 3) := by decide +kernel
theorem dX6_terms_10 : decode cX6_terms 10 = .ok (.iload_n 2, 1) := by decide +kernel
theorem dX6_terms_11 : decode cX6_terms 11 = .ok (.iconst 1, 1) := by decide +kernel
theorem dX6_terms_12 : decode cX6_terms 12 = .ok (.bipush 12, 2) := by decide +kernel
theorem dX6_terms_14 : decode cX6_terms 14 = .ok (.invokestatic 41, 3) := by decide +kernel
theorem dX6_terms_17 : decode cX6_terms 17 = .ok (.ifCond .ne 5, 3) := by decide +kernel
theorem dX6_terms_20 : decode cX6_terms 20 = .ok (.iconst (-1), 1) := by decide +kernel
theorem dX6_terms_21 : decode cX6_terms 21 = .ok (.ireturn, 1) := by decide +kernel
theorem dX6_terms_22 : decode cX6_terms 22 = .ok (.iconst 0, 1) := by decide +kernel
theorem dX6_terms_23 : decode cX6_terms 23 = .ok (.istore_n 3, 1) := by decide +kernel
theorem dX6_terms_24 : decode cX6_terms 24 = .ok (.iload_n 3, 1) := by decide +kernel
theorem dX6_terms_25 : decode cX6_terms 25 = .ok (.sipush 3328, 3) := by decide +kernel
theorem dX6_terms_28 : decode cX6_terms 28 = .ok (.if_icmp .ge 16, 3) := by decide +kernel
theorem dX6_terms_31 : decode cX6_terms 31 = .ok (.aload_n 0, 1) := by decide +kernel
theorem dX6_terms_32 : decode cX6_terms 32 = .ok (.getfield 35, 3) := by decide +kernel
theorem dX6_terms_35 : decode cX6_terms 35 = .ok (.iload_n 3, 1) := by decide +kernel
theorem dX6_terms_36 : decode cX6_terms 36 = .ok (.iconst 0, 1) := by decide +kernel
theorem dX6_terms_37 : decode cX6_terms 37 = .ok (.iastore, 1) := by decide +kernel
theorem dX6_terms_38 : decode cX6_terms 38 = .ok (.iinc 3 1, 3) := by decide +kernel
theorem dX6_terms_41 : decode cX6_terms 41 = .ok (.goto (-17), 3) := by decide +kernel
theorem dX6_terms_44 : decode cX6_terms 44 = .ok (.iconst 1, 1) := by decide +kernel
theorem dX6_terms_45 : decode cX6_terms 45 = .ok (.istore_n 3, 1) := by decide +kernel
theorem dX6_terms_46 : decode cX6_terms 46 = .ok (.iload_n 3, 1) := by decide +kernel
theorem dX6_terms_47 : decode cX6_terms 47 = .ok (.iload_n 2, 1) := by decide +kernel
theorem dX6_terms_48 : decode cX6_terms 48 = .ok (.if_icmp .gt 181, 3) := by decide +kernel
theorem dX6_terms_51 : decode cX6_terms 51 = .ok (.iconst 0, 1) := by decide +kernel
theorem dX6_terms_52 : decode cX6_terms 52 = .ok (.istore 4, 2) := by decide +kernel
theorem dX6_terms_54 : decode cX6_terms 54 = .ok (.iload 4, 2) := by decide +kernel
theorem dX6_terms_56 : decode cX6_terms 56 = .ok (.bipush 8, 2) := by decide +kernel
theorem dX6_terms_58 : decode cX6_terms 58 = .ok (.if_icmp .ge 165, 3) := by decide +kernel
theorem dX6_terms_61 : decode cX6_terms 61 = .ok (.iload 4, 2) := by decide +kernel
theorem dX6_terms_63 : decode cX6_terms 63 = .ok (.invokestatic 45, 3) := by decide +kernel
theorem dX6_terms_66 : decode cX6_terms 66 = .ok (.istore 5, 2) := by decide +kernel
theorem dX6_terms_68 : decode cX6_terms 68 = .ok (.iload 5, 2) := by decide +kernel
theorem dX6_terms_70 : decode cX6_terms 70 = .ok (.ifCond .ne 32, 3) := by decide +kernel
theorem dX6_terms_73 : decode cX6_terms 73 = .ok (.iload_n 3, 1) := by decide +kernel
theorem dX6_terms_74 : decode cX6_terms 74 = .ok (.iconst 1, 1) := by decide +kernel
theorem dX6_terms_75 : decode cX6_terms 75 = .ok (.if_icmp .ne 27, 3) := by decide +kernel
theorem dX6_terms_78 : decode cX6_terms 78 = .ok (.aload_n 0, 1) := by decide +kernel
theorem dX6_terms_79 : decode cX6_terms 79 = .ok (.getfield 35, 3) := by decide +kernel
theorem dX6_terms_82 : decode cX6_terms 82 = .ok (.bipush 13, 2) := by decide +kernel
theorem dX6_terms_84 : decode cX6_terms 84 = .ok (.aload_n 0, 1) := by decide +kernel
theorem dX6_terms_85 : decode cX6_terms 85 = .ok (.iload 4, 2) := by decide +kernel
theorem dX6_terms_87 : decode cX6_terms 87 = .ok (.bipush 17, 2) := by decide +kernel
theorem dX6_terms_89 : decode cX6_terms 89 = .ok (.bipush 17, 2) := by decide +kernel
theorem dX6_terms_91 : decode cX6_terms 91 = .ok (.invokevirtual 67, 3) := by decide +kernel
theorem dX6_terms_94 : decode cX6_terms 94 = .ok (.imul, 1) := by decide +kernel
theorem dX6_terms_95 : decode cX6_terms 95 = .ok (.iconst 1, 1) := by decide +kernel
theorem dX6_terms_96 : decode cX6_terms 96 = .ok (.iadd, 1) := by decide +kernel
theorem dX6_terms_97 : decode cX6_terms 97 = .ok (.dup2, 1) := by decide +kernel
theorem dX6_terms_98 : decode cX6_terms 98 = .ok (.iaload, 1) := by decide +kernel
theorem dX6_terms_99 : decode cX6_terms 99 = .ok (.iconst 1, 1) := by decide +kernel
theorem dX6_terms_100 : decode cX6_terms 100 = .ok (.iadd, 1) := by decide +kernel
theorem dX6_terms_101 : decode cX6_terms 101 = .ok (.iastore, 1) := by decide +kernel
theorem dX6_terms_102 : decode cX6_terms 102 = .ok (.iconst 0, 1) := by decide +kernel
theorem dX6_terms_103 : decode cX6_terms 103 = .ok (.istore 6, 2) := by decide +kernel
theorem dX6_terms_105 : decode cX6_terms 105 = .ok (.iload 6, 2) := by decide +kernel
theorem dX6_terms_107 : decode cX6_terms 107 = .ok (.sipush 256, 3) := by decide +kernel
theorem dX6_terms_110 : decode cX6_terms 110 = .ok (.if_icmp .ge 107, 3) := by decide +kernel
theorem dX6_terms_113 : decode cX6_terms 113 = .ok (.iload 5, 2) := by decide +kernel
theorem dX6_terms_115 : decode cX6_terms 115 = .ok (.ifCond .le 102, 3) := by decide +kernel
theorem dX6_terms_118 : decode cX6_terms 118 = .ok (.iload 5, 2) := by decide +kernel
theorem dX6_terms_120 : decode cX6_terms 120 = .ok (.iconst 1, 1) := by decide +kernel
theorem dX6_terms_121 : decode cX6_terms 121 = .ok (.if_icmp .ne 40, 3) := by decide +kernel
theorem dX6_terms_124 : decode cX6_terms 124 = .ok (.aload_n 0, 1) := by decide +kernel
theorem dX6_terms_125 : decode cX6_terms 125 = .ok (.getfield 35, 3) := by decide +kernel
theorem dX6_terms_128 : decode cX6_terms 128 = .ok (.bipush 13, 2) := by decide +kernel
theorem dX6_terms_130 : decode cX6_terms 130 = .ok (.aload_n 0, 1) := by decide +kernel
theorem dX6_terms_131 : decode cX6_terms 131 = .ok (.iload 4, 2) := by decide +kernel
theorem dX6_terms_133 : decode cX6_terms 133 = .ok (.iload 6, 2) := by decide +kernel
theorem dX6_terms_135 : decode cX6_terms 135 = .ok (.bipush 17, 2) := by decide +kernel
theorem dX6_terms_137 : decode cX6_terms 137 = .ok (.invokevirtual 67, 3) := by decide +kernel
theorem dX6_terms_140 : decode cX6_terms 140 = .ok (.imul, 1) := by decide +kernel
theorem dX6_terms_141 : decode cX6_terms 141 = .ok (.iload_n 3, 1) := by decide +kernel
theorem dX6_terms_142 : decode cX6_terms 142 = .ok (.iadd, 1) := by decide +kernel
theorem dX6_terms_143 : decode cX6_terms 143 = .ok (.dup2, 1) := by decide +kernel
theorem dX6_terms_144 : decode cX6_terms 144 = .ok (.iaload, 1) := by decide +kernel
theorem dX6_terms_145 : decode cX6_terms 145 = .ok (.aload_n 0, 1) := by decide +kernel
theorem dX6_terms_146 : decode cX6_terms 146 = .ok (.getfield 35, 3) := by decide +kernel
theorem dX6_terms_149 : decode cX6_terms 149 = .ok (.bipush 13, 2) := by decide +kernel
theorem dX6_terms_151 : decode cX6_terms 151 = .ok (.iload 6, 2) := by decide +kernel
theorem dX6_terms_153 : decode cX6_terms 153 = .ok (.imul, 1) := by decide +kernel
theorem dX6_terms_154 : decode cX6_terms 154 = .ok (.iload_n 3, 1) := by decide +kernel
theorem dX6_terms_155 : decode cX6_terms 155 = .ok (.iadd, 1) := by decide +kernel
theorem dX6_terms_156 : decode cX6_terms 156 = .ok (.iconst 1, 1) := by decide +kernel
theorem dX6_terms_157 : decode cX6_terms 157 = .ok (.isub, 1) := by decide +kernel
theorem dX6_terms_158 : decode cX6_terms 158 = .ok (.iaload, 1) := by decide +kernel
theorem dX6_terms_159 : decode cX6_terms 159 = .ok (.iadd, 1) := by decide +kernel
theorem dX6_terms_160 : decode cX6_terms 160 = .ok (.iastore, 1) := by decide +kernel
theorem dX6_terms_161 : decode cX6_terms 161 = .ok (.iconst 1, 1) := by decide +kernel
theorem dX6_terms_162 : decode cX6_terms 162 = .ok (.istore 7, 2) := by decide +kernel
theorem dX6_terms_164 : decode cX6_terms 164 = .ok (.iload 7, 2) := by decide +kernel
theorem dX6_terms_166 : decode cX6_terms 166 = .ok (.iload_n 3, 1) := by decide +kernel
theorem dX6_terms_167 : decode cX6_terms 167 = .ok (.iconst 1, 1) := by decide +kernel
theorem dX6_terms_168 : decode cX6_terms 168 = .ok (.isub, 1) := by decide +kernel
theorem dX6_terms_169 : decode cX6_terms 169 = .ok (.if_icmp .ge 42, 3) := by decide +kernel
theorem dX6_terms_172 : decode cX6_terms 172 = .ok (.iload 5, 2) := by decide +kernel
theorem dX6_terms_174 : decode cX6_terms 174 = .ok (.iconst 2, 1) := by decide +kernel
theorem dX6_terms_175 : decode cX6_terms 175 = .ok (.if_icmp .ne 36, 3) := by decide +kernel
theorem dX6_terms_178 : decode cX6_terms 178 = .ok (.aload_n 0, 1) := by decide +kernel
theorem dX6_terms_179 : decode cX6_terms 179 = .ok (.getfield 35, 3) := by decide +kernel
theorem dX6_terms_182 : decode cX6_terms 182 = .ok (.bipush 13, 2) := by decide +kernel
theorem dX6_terms_184 : decode cX6_terms 184 = .ok (.iload 6, 2) := by decide +kernel
theorem dX6_terms_186 : decode cX6_terms 186 = .ok (.imul, 1) := by decide +kernel
theorem dX6_terms_187 : decode cX6_terms 187 = .ok (.iload 7, 2) := by decide +kernel
theorem dX6_terms_189 : decode cX6_terms 189 = .ok (.iadd, 1) := by decide +kernel
theorem dX6_terms_190 : decode cX6_terms 190 = .ok (.iaload, 1) := by decide +kernel
theorem dX6_terms_191 : decode cX6_terms 191 = .ok (.ifCond .eq 14, 3) := by decide +kernel
theorem dX6_terms_194 : decode cX6_terms 194 = .ok (.aload_n 0, 1) := by decide +kernel
theorem dX6_terms_195 : decode cX6_terms 195 = .ok (.iload 4, 2) := by decide +kernel
theorem dX6_terms_197 : decode cX6_terms 197 = .ok (.iload 6, 2) := by decide +kernel
theorem dX6_terms_199 : decode cX6_terms 199 = .ok (.iload 7, 2) := by decide +kernel
theorem dX6_terms_201 : decode cX6_terms 201 = .ok (.iload_n 3, 1) := by decide +kernel
theorem dX6_terms_202 : decode cX6_terms 202 = .ok (.invokevirtual 84, 3) := by decide +kernel
theorem dX6_terms_205 : decode cX6_terms 205 = .ok (.iinc 7 1, 3) := by decide +kernel
theorem dX6_terms_208 : decode cX6_terms 208 = .ok (.goto (-44), 3) := by decide +kernel
theorem dX6_terms_211 : decode cX6_terms 211 = .ok (.iinc 6 1, 3) := by decide +kernel
theorem dX6_terms_214 : decode cX6_terms 214 = .ok (.goto (-109), 3) := by decide +kernel
theorem dX6_terms_217 : decode cX6_terms 217 = .ok (.iinc 4 1, 3) := by decide +kernel
theorem dX6_terms_220 : decode cX6_terms 220 = .ok (.goto (-166), 3) := by decide +kernel
theorem dX6_terms_223 : decode cX6_terms 223 = .ok (.iinc 3 1, 3) := by decide +kernel
theorem dX6_terms_226 : decode cX6_terms 226 = .ok (.goto (-180), 3) := by decide +kernel
theorem dX6_terms_229 : decode cX6_terms 229 = .ok (.iconst 0, 1) := by decide +kernel
theorem dX6_terms_230 : decode cX6_terms 230 = .ok (.istore_n 3, 1) := by decide +kernel
theorem dX6_terms_231 : decode cX6_terms 231 = .ok (.iconst 0, 1) := by decide +kernel
theorem dX6_terms_232 : decode cX6_terms 232 = .ok (.istore 4, 2) := by decide +kernel
theorem dX6_terms_234 : decode cX6_terms 234 = .ok (.iload 4, 2) := by decide +kernel
theorem dX6_terms_236 : decode cX6_terms 236 = .ok (.sipush 256, 3) := by decide +kernel
theorem dX6_terms_239 : decode cX6_terms 239 = .ok (.if_icmp .ge 38, 3) := by decide +kernel
theorem dX6_terms_242 : decode cX6_terms 242 = .ok (.iload_n 1, 1) := by decide +kernel
theorem dX6_terms_243 : decode cX6_terms 243 = .ok (.aload_n 0, 1) := by decide +kernel
theorem dX6_terms_244 : decode cX6_terms 244 = .ok (.iload 4, 2) := by decide +kernel
theorem dX6_terms_246 : decode cX6_terms 246 = .ok (.invokevirtual 64, 3) := by decide +kernel
theorem dX6_terms_249 : decode cX6_terms 249 = .ok (.ishr, 1) := by decide +kernel
theorem dX6_terms_250 : decode cX6_terms 250 = .ok (.iconst 1, 1) := by decide +kernel
theorem dX6_terms_251 : decode cX6_terms 251 = .ok (.iand, 1) := by decide +kernel
theorem dX6_terms_252 : decode cX6_terms 252 = .ok (.iconst 1, 1) := by decide +kernel
theorem dX6_terms_253 : decode cX6_terms 253 = .ok (.if_icmp .ne 18, 3) := by decide +kernel
theorem dX6_terms_256 : decode cX6_terms 256 = .ok (.iload_n 3, 1) := by decide +kernel
theorem dX6_terms_257 : decode cX6_terms 257 = .ok (.aload_n 0, 1) := by decide +kernel
theorem dX6_terms_258 : decode cX6_terms 258 = .ok (.getfield 35, 3) := by decide +kernel
theorem dX6_terms_261 : decode cX6_terms 261 = .ok (.bipush 13, 2) := by decide +kernel
theorem dX6_terms_263 : decode cX6_terms 263 = .ok (.iload 4, 2) := by decide +kernel
theorem dX6_terms_265 : decode cX6_terms 265 = .ok (.imul, 1) := by decide +kernel
theorem dX6_terms_266 : decode cX6_terms 266 = .ok (.iload_n 2, 1) := by decide +kernel
theorem dX6_terms_267 : decode cX6_terms 267 = .ok (.iadd, 1) := by decide +kernel
theorem dX6_terms_268 : decode cX6_terms 268 = .ok (.iaload, 1) := by decide +kernel
theorem dX6_terms_269 : decode cX6_terms 269 = .ok (.iadd, 1) := by decide +kernel
theorem dX6_terms_270 : decode cX6_terms 270 = .ok (.istore_n 3, 1) := by decide +kernel
theorem dX6_terms_271 : decode cX6_terms 271 = .ok (.iinc 4 1, 3) := by decide +kernel
theorem dX6_terms_274 : decode cX6_terms 274 = .ok (.goto (-40), 3) := by decide +kernel
theorem dX6_terms_277 : decode cX6_terms 277 = .ok (.iload_n 3, 1) := by decide +kernel
theorem dX6_terms_278 : decode cX6_terms 278 = .ok (.ireturn, 1) := by decide +kernel
set_option maxRecDepth 20000 in
theorem ggX6_pairs_X6_profile : GoodIn wsX6_pairs wsX6_profile := goodIn_r _ [6, 7, 8, 9, 5, 10, 11, 12, 13, 14, 15, 16, 17, 18, 19, 20, 21, 22] (by decide +kernel) (by decide +kernel)
set_option maxRecDepth 20000 in
theorem gX6_pairs_X6_profile : GoodIn wsX6_pairs (wsV RX6 67 RX6 yX6_profile wsX6_profile) := goodIn_app (goodIn_of _ (by decide +kernel)) ggX6_pairs_X6_profile
theorem dX6_pairs_0 : decode cX6_pairs 0 = .ok (.iconst 0, 1) := by decide +kernel
theorem dX6_pairs_1 : decode cX6_pairs 1 = .ok (.istore 5, 2) := by decide +kernel
theorem dX6_pairs_3 : decode cX6_pairs 3 = .ok (.iload 5, 2) := by decide +kernel
theorem dX6_pairs_5 : decode cX6_pairs 5 = .ok (.sipush 256, 3) := by decide +kernel
theorem dX6_pairs_8 : decode cX6_pairs 8 = .ok (.if_icmp .ge 69, 3) := by decide +kernel
theorem dX6_pairs_11 : decode cX6_pairs 11 = .ok (.aload_n 0, 1) := by decide +kernel
theorem dX6_pairs_12 : decode cX6_pairs 12 = .ok (.getfield 35, 3) := by decide +kernel
theorem dX6_pairs_15 : decode cX6_pairs 15 = .ok (.bipush 13, 2) := by decide +kernel
theorem dX6_pairs_17 : decode cX6_pairs 17 = .ok (.iload 5, 2) := by decide +kernel
theorem dX6_pairs_19 : decode cX6_pairs 19 = .ok (.imul, 1) := by decide +kernel
theorem dX6_pairs_20 : decode cX6_pairs 20 = .ok (.iload 4, 2) := by decide +kernel
theorem dX6_pairs_22 : decode cX6_pairs 22 = .ok (.iadd, 1) := by decide +kernel
theorem dX6_pairs_23 : decode cX6_pairs 23 = .ok (.iconst 1, 1) := by decide +kernel
theorem dX6_pairs_24 : decode cX6_pairs 24 = .ok (.isub, 1) := by decide +kernel
theorem dX6_pairs_25 : decode cX6_pairs 25 = .ok (.iload_n 3, 1) := by decide +kernel
theorem dX6_pairs_26 : decode cX6_pairs 26 = .ok (.isub, 1) := by decide +kernel
theorem dX6_pairs_27 : decode cX6_pairs 27 = .ok (.iaload, 1) := by decide +kernel
theorem dX6_pairs_28 : decode cX6_pairs 28 = .ok (.istore 6, 2) := by decide +kernel
theorem dX6_pairs_30 : decode cX6_pairs 30 = .ok (.iload 6, 2) := by decide +kernel
theorem dX6_pairs_32 : decode cX6_pairs 32 = .ok (.ifCond .eq 39, 3) := by decide +kernel
theorem dX6_pairs_35 : decode cX6_pairs 35 = .ok (.aload_n 0, 1) := by decide +kernel
theorem dX6_pairs_36 : decode cX6_pairs 36 = .ok (.getfield 35, 3) := by decide +kernel
theorem dX6_pairs_39 : decode cX6_pairs 39 = .ok (.bipush 13, 2) := by decide +kernel
theorem dX6_pairs_41 : decode cX6_pairs 41 = .ok (.aload_n 0, 1) := by decide +kernel
theorem dX6_pairs_42 : decode cX6_pairs 42 = .ok (.iload_n 1, 1) := by decide +kernel
theorem dX6_pairs_43 : decode cX6_pairs 43 = .ok (.iload_n 2, 1) := by decide +kernel
theorem dX6_pairs_44 : decode cX6_pairs 44 = .ok (.iload 5, 2) := by decide +kernel
theorem dX6_pairs_46 : decode cX6_pairs 46 = .ok (.invokevirtual 67, 3) := by decide +kernel
theorem dX6_pairs_49 : decode cX6_pairs 49 = .ok (.imul, 1) := by decide +kernel
theorem dX6_pairs_50 : decode cX6_pairs 50 = .ok (.iload 4, 2) := by decide +kernel
theorem dX6_pairs_52 : decode cX6_pairs 52 = .ok (.iadd, 1) := by decide +kernel
theorem dX6_pairs_53 : decode cX6_pairs 53 = .ok (.dup2, 1) := by decide +kernel
theorem dX6_pairs_54 : decode cX6_pairs 54 = .ok (.iaload, 1) := by decide +kernel
theorem dX6_pairs_55 : decode cX6_pairs 55 = .ok (.aload_n 0, 1) := by decide +kernel
theorem dX6_pairs_56 : decode cX6_pairs 56 = .ok (.getfield 35, 3) := by decide +kernel
theorem dX6_pairs_59 : decode cX6_pairs 59 = .ok (.bipush 13, 2) := by decide +kernel
theorem dX6_pairs_61 : decode cX6_pairs 61 = .ok (.iload_n 2, 1) := by decide +kernel
theorem dX6_pairs_62 : decode cX6_pairs 62 = .ok (.imul, 1) := by decide +kernel
theorem dX6_pairs_63 : decode cX6_pairs 63 = .ok (.iload_n 3, 1) := by decide +kernel
theorem dX6_pairs_64 : decode cX6_pairs 64 = .ok (.iadd, 1) := by decide +kernel
theorem dX6_pairs_65 : decode cX6_pairs 65 = .ok (.iaload, 1) := by decide +kernel
theorem dX6_pairs_66 : decode cX6_pairs 66 = .ok (.iload 6, 2) := by decide +kernel
theorem dX6_pairs_68 : decode cX6_pairs 68 = .ok (.imul, 1) := by decide +kernel
theorem dX6_pairs_69 : decode cX6_pairs 69 = .ok (.iadd, 1) := by decide +kernel
theorem dX6_pairs_70 : decode cX6_pairs 70 = .ok (.iastore, 1) := by decide +kernel
theorem dX6_pairs_71 : decode cX6_pairs 71 = .ok (.iinc 5 1, 3) := by decide +kernel
theorem dX6_pairs_74 : decode cX6_pairs 74 = .ok (.goto (-71), 3) := by decide +kernel
theorem dX6_pairs_77 : decode cX6_pairs 77 = .ok (.return_, 1) := by decide +kernel
