theorem dX1_addTetrahedron_202 : decode cX1_addTetrahedron 202 = .ok (.iload_n 2, 1) := by decide +kernel
theorem dX1_addTetrahedron_203 : decode cX1_addTetrahedron 203 = .ok (.iaload, 1) := by decide +kernel
theorem dX1_addTetrahedron_204 : decode cX1_addTetrahedron 204 = .ok (.iadd, 1) := by decide +kernel
theorem dX1_addTetrahedron_205 : decode cX1_addTetrahedron 205 = .ok (.aload_n 0, 1) := by decide +kernel
theorem dX1_addTetrahedron_206 : decode cX1_addTetrahedron 206 = .ok (.getfield 12, 3) := by decide +kernel
theorem dX1_addTetrahedron_209 : decode cX1_addTetrahedron 209 = .ok (.getfield 139, 3) := by decide +kernel
theorem dX1_addTetrahedron_212 : decode cX1_addTetrahedron 212 = .ok (.iload_n 3, 1) := by decide +kernel
theorem dX1_addTetrahedron_213 : decode cX1_addTetrahedron 213 = .ok (.iaload, 1) := by decide +kernel
theorem dX1_addTetrahedron_214 : decode cX1_addTetrahedron 214 = .ok (.iadd, 1) := by decide +kernel
theorem dX1_addTetrahedron_215 : decode cX1_addTetrahedron 215 = .ok (.i2l, 1) := by decide +kernel
theorem dX1_addTetrahedron_216 : decode cX1_addTetrahedron 216 = .ok (.lmul, 1) := by decide +kernel
theorem dX1_addTetrahedron_217 : decode cX1_addTetrahedron 217 = .ok (.ladd, 1) := by decide +kernel
theorem dX1_addTetrahedron_218 : decode cX1_addTetrahedron 218 = .ok (.lastore, 1) := by decide +kernel
theorem dX1_addTetrahedron_219 : decode cX1_addTetrahedron 219 = .ok (.aload_n 0, 1) := by decide +kernel
theorem dX1_addTetrahedron_220 : decode cX1_addTetrahedron 220 = .ok (.getfield 39, 3) := by decide +kernel
theorem dX1_addTetrahedron_223 : decode cX1_addTetrahedron 223 = .ok (.iconst 1, 1) := by decide +kernel
theorem dX1_addTetrahedron_224 : decode cX1_addTetrahedron 224 = .ok (.dup2, 1) := by decide +kernel
theorem dX1_addTetrahedron_225 : decode cX1_addTetrahedron 225 = .ok (.laload, 1) := by decide +kernel
theorem dX1_addTetrahedron_226 : decode cX1_addTetrahedron 226 = .ok (.lload 4, 2) := by decide +kernel
theorem dX1_addTetrahedron_228 : decode cX1_addTetrahedron 228 = .ok (.aload_n 0, 1) := by decide +kernel
theorem dX1_addTetrahedron_229 : decode cX1_addTetrahedron 229 = .ok (.getfield 12, 3) := by decide +kernel
theorem dX1_addTetrahedron_232 : decode cX1_addTetrahedron 232 = .ok (.getfield 142, 3) := by decide +kernel
theorem dX1_addTetrahedron_235 : decode cX1_addTetrahedron 235 = .ok (.iload_n 1, 1) := by decide +kernel
theorem dX1_addTetrahedron_236 : decode cX1_addTetrahedron 236 = .ok (.iaload, 1) := by decide +kernel
theorem dX1_addTetrahedron_237 : decode cX1_addTetrahedron 237 = .ok (.aload_n 0, 1) := by decide +kernel
theorem dX1_addTetrahedron_238 : decode cX1_addTetrahedron 238 = .ok (.getfield 12, 3) := by decide +kernel
theorem dX1_addTetrahedron_241 : decode cX1_addTetrahedron 241 = .ok (.getfield 142, 3) := by decide +kernel
theorem dX1_addTetrahedron_244 : decode cX1_addTetrahedron 244 = .ok (.iload_n 2, 1) := by decide +kernel
theorem dX1_addTetrahedron_245 : decode cX1_addTetrahedron 245 = .ok (.iaload, 1) := by decide +kernel
theorem dX1_addTetrahedron_246 : decode cX1_addTetrahedron 246 = .ok (.iadd, 1) := by decide +kernel
theorem dX1_addTetrahedron_247 : decode cX1_addTetrahedron 247 = .ok (.aload_n 0, 1) := by decide +kernel
theorem dX1_addTetrahedron_248 : decode cX1_addTetrahedron 248 = .ok (.getfield 12, 3) := by decide +kernel
theorem dX1_addTetrahedron_251 : decode cX1_addTetrahedron 251 = .ok (.getfield 142, 3) := by decide +kernel
theorem dX1_addTetrahedron_254 : decode cX1_addTetrahedron 254 = .ok (.iload_n 3, 1) := by decide +kernel
theorem dX1_addTetrahedron_255 : decode cX1_addTetrahedron 255 = .ok (.iaload, 1) := by decide +kernel
theorem dX1_addTetrahedron_256 : decode cX1_addTetrahedron 256 = .ok (.iadd, 1) := by decide +kernel
theorem dX1_addTetrahedron_257 : decode cX1_addTetrahedron 257 = .ok (.i2l, 1) := by decide +kernel
theorem dX1_addTetrahedron_258 : decode cX1_addTetrahedron 258 = .ok (.lmul, 1) := by decide +kernel
theorem dX1_addTetrahedron_259 : decode cX1_addTetrahedron 259 = .ok (.ladd, 1) := by decide +kernel
theorem dX1_addTetrahedron_260 : decode cX1_addTetrahedron 260 = .ok (.lastore, 1) := by decide +kernel
theorem dX1_addTetrahedron_261 : decode cX1_addTetrahedron 261 = .ok (.aload_n 0, 1) := by decide +kernel
theorem dX1_addTetrahedron_262 : decode cX1_addTetrahedron 262 = .ok (.getfield 39, 3) := by decide +kernel
theorem dX1_addTetrahedron_265 : decode cX1_addTetrahedron 265 = .ok (.iconst 2, 1) := by decide +kernel
theorem dX1_addTetrahedron_266 : decode cX1_addTetrahedron 266 = .ok (.dup2, 1) := by decide +kernel
theorem dX1_addTetrahedron_267 : decode cX1_addTetrahedron 267 = .ok (.laload, 1) := by decide +kernel
theorem dX1_addTetrahedron_268 : decode cX1_addTetrahedron 268 = .ok (.lload 4, 2) := by decide +kernel
theorem dX1_addTetrahedron_270 : decode cX1_addTetrahedron 270 = .ok (.aload_n 0, 1) := by decide +kernel
theorem dX1_addTetrahedron_271 : decode cX1_addTetrahedron 271 = .ok (.getfield 12, 3) := by decide +kernel
theorem dX1_addTetrahedron_274 : decode cX1_addTetrahedron 274 = .ok (.getfield 145, 3) := by decide +kernel
theorem dX1_addTetrahedron_277 : decode cX1_addTetrahedron 277 = .ok (.iload_n 1, 1) := by decide +kernel
theorem dX1_addTetrahedron_278 : decode cX1_addTetrahedron 278 = .ok (.iaload, 1) := by decide +kernel
theorem dX1_addTetrahedron_279 : decode cX1_addTetrahedron 279 = .ok (.aload_n 0, 1) := by decide +kernel
theorem dX1_addTetrahedron_280 : decode cX1_addTetrahedron 280 = .ok (.getfield 12, 3) := by decide +kernel
theorem dX1_addTetrahedron_283 : decode cX1_addTetrahedron 283 = .ok (.getfield 145, 3) := by decide +kernel
theorem dX1_addTetrahedron_286 : decode cX1_addTetrahedron 286 = .ok (.iload_n 2, 1) := by decide +kernel
theorem dX1_addTetrahedron_287 : decode cX1_addTetrahedron 287 = .ok (.iaload, 1) := by decide +kernel
theorem dX1_addTetrahedron_288 : decode cX1_addTetrahedron 288 = .ok (.iadd, 1) := by decide +kernel
theorem dX1_addTetrahedron_289 : decode cX1_addTetrahedron 289 = .ok (.aload_n 0, 1) := by decide +kernel
theorem dX1_addTetrahedron_290 : decode cX1_addTetrahedron 290 = .ok (.getfield 12, 3) := by decide +kernel
theorem dX1_addTetrahedron_293 : decode cX1_addTetrahedron 293 = .ok (.getfield 145, 3) := by decide +kernel
theorem dX1_addTetrahedron_296 : decode cX1_addTetrahedron 296 = .ok (.iload_n 3, 1) := by decide +kernel
theorem dX1_addTetrahedron_297 : decode cX1_addTetrahedron 297 = .ok (.iaload, 1) := by decide +kernel
theorem dX1_addTetrahedron_298 : decode cX1_addTetrahedron 298 = .ok (.iadd, 1) := by decide +kernel
theorem dX1_addTetrahedron_299 : decode cX1_addTetrahedron 299 = .ok (.i2l, 1) := by decide +kernel
theorem dX1_addTetrahedron_300 : decode cX1_addTetrahedron 300 = .ok (.lmul, 1) := by decide +kernel
theorem dX1_addTetrahedron_301 : decode cX1_addTetrahedron 301 = .ok (.ladd, 1) := by decide +kernel
theorem dX1_addTetrahedron_302 : decode cX1_addTetrahedron 302 = .ok (.lastore, 1) := by decide +kernel
theorem dX1_addTetrahedron_303 : decode cX1_addTetrahedron 303 = .ok (.return_, 1) := by decide +kernel
set_option maxRecDepth 20000 in
theorem ggX1_furthest_X3_holds : GoodIn wsX1_furthest wsX3_holds := goodIn_r _ [5] (by decide +kernel) (by decide +kernel)
set_option maxRecDepth 20000 in
theorem gX1_furthest_X3_holds_n101 : GoodIn wsX1_furthest (wsX3_holds) := ggX1_furthest_X3_holds
theorem dX1_furthest_0 : decode cX1_furthest 0 = .ok (.iconst (-1), 1) := by decide +kernel
theorem dX1_furthest_1 : decode cX1_furthest 1 = .ok (.istore 7, 2) := by decide +kernel
theorem dX1_furthest_3 : decode cX1_furthest 3 = .ok (.lconst 0, 1) := by decide +kernel
theorem dX1_furthest_4 : decode cX1_furthest 4 = .ok (.lstore 8, 2) := by decide +kernel
theorem dX1_furthest_6 : decode cX1_furthest 6 = .ok (.iconst 0, 1) := by decide +kernel
theorem dX1_furthest_7 : decode cX1_furthest 7 = .ok (.istore 10, 2) := by decide +kernel
theorem dX1_furthest_9 : decode cX1_furthest 9 = .ok (.iload 10, 2) := by decide +kernel
theorem dX1_furthest_11 : decode cX1_furthest 11 = .ok (.aload_n 0, 1) := by decide +kernel
theorem dX1_furthest_12 : decode cX1_furthest 12 = .ok (.getfield 12, 3) := by decide +kernel
theorem dX1_furthest_15 : decode cX1_furthest 15 = .ok (.getfield 43, 3) := by decide +kernel
theorem dX1_furthest_18 : decode cX1_furthest 18 = .ok (.if_icmp .ge 87, 3) := by decide +kernel
theorem dX1_furthest_21 : decode cX1_furthest 21 = .ok (.lload_n 1, 1) := by decide +kernel
theorem dX1_furthest_22 : decode cX1_furthest 22 = .ok (.aload_n 0, 1) := by decide +kernel
theorem dX1_furthest_23 : decode cX1_furthest 23 = .ok (.getfield 12, 3) := by decide +kernel
theorem dX1_furthest_26 : decode cX1_furthest 26 = .ok (.getfield 139, 3) := by decide +kernel
theorem dX1_furthest_29 : decode cX1_furthest 29 = .ok (.iload 10, 2) := by decide +kernel
theorem dX1_furthest_31 : decode cX1_furthest 31 = .ok (.iaload, 1) := by decide +kernel
theorem dX1_furthest_32 : decode cX1_furthest 32 = .ok (.i2l, 1) := by decide +kernel
theorem dX1_furthest_33 : decode cX1_furthest 33 = .ok (.lmul, 1) := by decide +kernel
theorem dX1_furthest_34 : decode cX1_furthest 34 = .ok (.lload_n 3, 1) := by decide +kernel
theorem dX1_furthest_35 : decode cX1_furthest 35 = .ok (.aload_n 0, 1) := by decide +kernel
theorem dX1_furthest_36 : decode cX1_furthest 36 = .ok (.getfield 12, 3) := by decide +kernel
theorem dX1_furthest_39 : decode cX1_furthest 39 = .ok (.getfield 142, 3) := by decide +kernel
theorem dX1_furthest_42 : decode cX1_furthest 42 = .ok (.iload 10, 2) := by decide +kernel
theorem dX1_furthest_44 : decode cX1_furthest 44 = .ok (.iaload, 1) := by decide +kernel
theorem dX1_furthest_45 : decode cX1_furthest 45 = .ok (.i2l, 1) := by decide +kernel
theorem dX1_furthest_46 : decode cX1_furthest 46 = .ok (.lmul, 1) := by decide +kernel
theorem dX1_furthest_47 : decode cX1_furthest 47 = .ok (.ladd, 1) := by decide +kernel
theorem dX1_furthest_48 : decode cX1_furthest 48 = .ok (.lload 5, 2) := by decide +kernel
theorem dX1_furthest_50 : decode cX1_furthest 50 = .ok (.aload_n 0, 1) := by decide +kernel
theorem dX1_furthest_51 : decode cX1_furthest 51 = .ok (.getfield 12, 3) := by decide +kernel
theorem dX1_furthest_54 : decode cX1_furthest 54 = .ok (.getfield 145, 3) := by decide +kernel
theorem dX1_furthest_57 : decode cX1_furthest 57 = .ok (.iload 10, 2) := by decide +kernel
theorem dX1_furthest_59 : decode cX1_furthest 59 = .ok (.iaload, 1) := by decide +kernel
theorem dX1_furthest_60 : decode cX1_furthest 60 = .ok (.i2l, 1) := by decide +kernel
theorem dX1_furthest_61 : decode cX1_furthest 61 = .ok (.lmul, 1) := by decide +kernel
theorem dX1_furthest_62 : decode cX1_furthest 62 = .ok (.ladd, 1) := by decide +kernel
theorem dX1_furthest_63 : decode cX1_furthest 63 = .ok (.lstore 11, 2) := by decide +kernel
theorem dX1_furthest_65 : decode cX1_furthest 65 = .ok (.aload_n 0, 1) := by decide +kernel
theorem dX1_furthest_66 : decode cX1_furthest 66 = .ok (.getfield 68, 3) := by decide +kernel
theorem dX1_furthest_69 : decode cX1_furthest 69 = .ok (.iload 10, 2) := by decide +kernel
theorem dX1_furthest_71 : decode cX1_furthest 71 = .ok (.invokestatic 101, 3) := by decide +kernel
theorem dX1_furthest_74 : decode cX1_furthest 74 = .ok (.ifCond .eq 25, 3) := by decide +kernel
theorem dX1_furthest_77 : decode cX1_furthest 77 = .ok (.iload 7, 2) := by decide +kernel
theorem dX1_furthest_79 : decode cX1_furthest 79 = .ok (.iconst (-1), 1) := by decide +kernel
theorem dX1_furthest_80 : decode cX1_furthest 80 = .ok (.if_icmp .eq 11, 3) := by decide +kernel
theorem dX1_furthest_83 : decode cX1_furthest 83 = .ok (.lload 11, 2) := by decide +kernel
theorem dX1_furthest_85 : decode cX1_furthest 85 = .ok (.lload 8, 2) := by decide +kernel
theorem dX1_furthest_87 : decode cX1_furthest 87 = .ok (.lcmp, 1) := by decide +kernel
theorem dX1_furthest_88 : decode cX1_furthest 88 = .ok (.ifCond .le 11, 3) := by decide +kernel
theorem dX1_furthest_91 : decode cX1_furthest 91 = .ok (.iload 10, 2) := by decide +kernel
theorem dX1_furthest_93 : decode cX1_furthest 93 = .ok (.istore 7, 2) := by decide +kernel
theorem dX1_furthest_95 : decode cX1_furthest 95 = .ok (.lload 11, 2) := by decide +kernel
theorem dX1_furthest_97 : decode cX1_furthest 97 = .ok (.lstore 8, 2) := by decide +kernel
theorem dX1_furthest_99 : decode cX1_furthest 99 = .ok (.iinc 10 1, 3) := by decide +kernel
theorem dX1_furthest_102 : decode cX1_furthest 102 = .ok (.goto (-93), 3) := by decide +kernel
theorem dX1_furthest_105 : decode cX1_furthest 105 = .ok (.iload 7, 2) := by decide +kernel
theorem dX1_furthest_107 : decode cX1_furthest 107 = .ok (.ireturn, 1) := by decide +kernel
set_option maxRecDepth 20000 in
theorem ggX1_walk_X3_holds : GoodIn wsX1_walk wsX3_holds := goodIn_r _ [3] (by decide +kernel) (by decide +kernel)
set_option maxRecDepth 20000 in
theorem gX1_walk_X3_holds_n101 : GoodIn wsX1_walk (wsX3_holds) := ggX1_walk_X3_holds
set_option maxRecDepth 20000 in
theorem ggX1_walk_X1_stepFrom : GoodIn wsX1_walk wsX1_stepFrom := goodIn_r _ [8, 9, 10, 11, 12, 13, 14, 15, 16, 17, 18, 19, 20, 21, 22] (by decide +kernel) (by decide +kernel)
set_option maxRecDepth 20000 in
theorem gX1_walk_X1_stepFrom : GoodIn wsX1_walk (wsV RX1 148 RX1 yX1_stepFrom wsX1_stepFrom) := goodIn_app (goodIn_of _ (by decide +kernel)) ggX1_walk_X1_stepFrom
theorem dX1_walk_0 : decode cX1_walk 0 = .ok (.iconst 1, 1) := by decide +kernel
theorem dX1_walk_1 : decode cX1_walk 1 = .ok (.iload_n 1, 1) := by decide +kernel
theorem dX1_walk_2 : decode cX1_walk 2 = .ok (.ishl, 1) := by decide +kernel
theorem dX1_walk_3 : decode cX1_walk 3 = .ok (.istore_n 3, 1) := by decide +kernel
theorem dX1_walk_4 : decode cX1_walk 4 = .ok (.iconst 0, 1) := by decide +kernel
theorem dX1_walk_5 : decode cX1_walk 5 = .ok (.istore 4, 2) := by decide +kernel
theorem dX1_walk_7 : decode cX1_walk 7 = .ok (.iload 4, 2) := by decide +kernel
theorem dX1_walk_9 : decode cX1_walk 9 = .ok (.bipush 24, 2) := by decide +kernel
theorem dX1_walk_11 : decode cX1_walk 11 = .ok (.if_icmp .ge 26, 3) := by decide +kernel
theorem dX1_walk_14 : decode cX1_walk 14 = .ok (.iload_n 3, 1) := by decide +kernel
theorem dX1_walk_15 : decode cX1_walk 15 = .ok (.iload_n 2, 1) := by decide +kernel
theorem dX1_walk_16 : decode cX1_walk 16 = .ok (.invokestatic 101, 3) := by decide +kernel
theorem dX1_walk_19 : decode cX1_walk 19 = .ok (.ifCond .eq 6, 3) := by decide +kernel
theorem dX1_walk_22 : decode cX1_walk 22 = .ok (.iload 4, 2) := by decide +kernel
theorem dX1_walk_24 : decode cX1_walk 24 = .ok (.ireturn, 1) := by decide +kernel
theorem dX1_walk_25 : decode cX1_walk 25 = .ok (.aload_n 0, 1) := by decide +kernel
theorem dX1_walk_26 : decode cX1_walk 26 = .ok (.iload_n 3, 1) := by decide +kernel
theorem dX1_walk_27 : decode cX1_walk 27 = .ok (.invokevirtual 148, 3) := by decide +kernel
theorem dX1_walk_30 : decode cX1_walk 30 = .ok (.istore_n 3, 1) := by decide +kernel
theorem dX1_walk_31 : decode cX1_walk 31 = .ok (.iinc 4 1, 3) := by decide +kernel
theorem dX1_walk_34 : decode cX1_walk 34 = .ok (.goto (-27), 3) := by decide +kernel
theorem dX1_walk_37 : decode cX1_walk 37 = .ok (.iconst (-1), 1) := by decide +kernel
theorem dX1_walk_38 : decode cX1_walk 38 = .ok (.ireturn, 1) := by decide +kernel
theorem dX1_stepFrom_0 : decode cX1_stepFrom 0 = .ok (.iload_n 1, 1) := by decide +kernel
theorem dX1_stepFrom_1 : decode cX1_stepFrom 1 = .ok (.istore_n 2, 1) := by decide +kernel
theorem dX1_stepFrom_2 : decode cX1_stepFrom 2 = .ok (.iconst 0, 1) := by decide +kernel
theorem dX1_stepFrom_3 : decode cX1_stepFrom 3 = .ok (.istore_n 3, 1) := by decide +kernel
theorem dX1_stepFrom_4 : decode cX1_stepFrom 4 = .ok (.iload_n 3, 1) := by decide +kernel
theorem dX1_stepFrom_5 : decode cX1_stepFrom 5 = .ok (.aload_n 0, 1) := by decide +kernel
theorem dX1_stepFrom_6 : decode cX1_stepFrom 6 = .ok (.getfield 112, 3) := by decide +kernel
theorem dX1_stepFrom_9 : decode cX1_stepFrom 9 = .ok (.if_icmp .ge 40, 3) := by decide +kernel
theorem dX1_stepFrom_12 : decode cX1_stepFrom 12 = .ok (.iconst 1, 1) := by decide +kernel
theorem dX1_stepFrom_13 : decode cX1_stepFrom 13 = .ok (.aload_n 0, 1) := by decide +kernel
theorem dX1_stepFrom_14 : decode cX1_stepFrom 14 = .ok (.getfield 33, 3) := by decide +kernel
theorem dX1_stepFrom_17 : decode cX1_stepFrom 17 = .ok (.iload_n 3, 1) := by decide +kernel
theorem dX1_stepFrom_18 : decode cX1_stepFrom 18 = .ok (.iaload, 1) := by decide +kernel
theorem dX1_stepFrom_19 : decode cX1_stepFrom 19 = .ok (.ishl, 1) := by decide +kernel
theorem dX1_stepFrom_20 : decode cX1_stepFrom 20 = .ok (.iconst 1, 1) := by decide +kernel
theorem dX1_stepFrom_21 : decode cX1_stepFrom 21 = .ok (.aload_n 0, 1) := by decide +kernel
theorem dX1_stepFrom_22 : decode cX1_stepFrom 22 = .ok (.getfield 36, 3) := by decide +kernel
theorem dX1_stepFrom_25 : decode cX1_stepFrom 25 = .ok (.iload_n 3, 1) := by decide +kernel
theorem dX1_stepFrom_26 : decode cX1_stepFrom 26 = .ok (.iaload, 1) := by decide +kernel
theorem dX1_stepFrom_27 : decode cX1_stepFrom 27 = .ok (.ishl, 1) := by decide +kernel
theorem dX1_stepFrom_28 : decode cX1_stepFrom 28 = .ok (.ior, 1) := by decide +kernel
theorem dX1_stepFrom_29 : decode cX1_stepFrom 29 = .ok (.istore 4, 2) := by decide +kernel
theorem dX1_stepFrom_31 : decode cX1_stepFrom 31 = .ok (.iload_n 1, 1) := by decide +kernel
theorem dX1_stepFrom_32 : decode cX1_stepFrom 32 = .ok (.iload 4, 2) := by decide +kernel
theorem dX1_stepFrom_34 : decode cX1_stepFrom 34 = .ok (.iand, 1) := by decide +kernel
theorem dX1_stepFrom_35 : decode cX1_stepFrom 35 = .ok (.ifCond .eq 8, 3) := by decide +kernel
theorem dX1_stepFrom_38 : decode cX1_stepFrom 38 = .ok (.iload_n 2, 1) := by decide +kernel
theorem dX1_stepFrom_39 : decode cX1_stepFrom 39 = .ok (.iload 4, 2) := by decide +kernel
theorem dX1_stepFrom_41 : decode cX1_stepFrom 41 = .ok (.ior, 1) := by decide +kernel
theorem dX1_stepFrom_42 : decode cX1_stepFrom 42 = .ok (.istore_n 2, 1) := by decide +kernel
theorem dX1_stepFrom_43 : decode cX1_stepFrom 43 = .ok (.iinc 3 1, 3) := by decide +kernel
theorem dX1_stepFrom_46 : decode cX1_stepFrom 46 = .ok (.goto (-42), 3) := by decide +kernel
theorem dX1_stepFrom_49 : decode cX1_stepFrom 49 = .ok (.iload_n 2, 1) := by decide +kernel
theorem dX1_stepFrom_50 : decode cX1_stepFrom 50 = .ok (.ireturn, 1) := by decide +kernel
set_option maxRecDepth 20000 in
theorem ggX1_locate_X0_heightOf : GoodIn wsX1_locate wsX0_heightOf := goodIn_r _ [6, 7, 8, 9, 10, 22, 23, 24, 25, 26, 27, 28] (by decide +kernel) (by decide +kernel)
set_option maxRecDepth 20000 in
theorem gX1_locate_X0_heightOf_n152 : GoodIn wsX1_locate (wsX0_heightOf) := ggX1_locate_X0_heightOf
theorem dX1_locate_0 : decode cX1_locate 0 = .ok (.iconst 1, 1) := by decide +kernel
theorem dX1_locate_1 : decode cX1_locate 1 = .ok (.istore 4, 2) := by decide +kernel
theorem dX1_locate_3 : decode cX1_locate 3 = .ok (.iconst 0, 1) := by decide +kernel
theorem dX1_locate_4 : decode cX1_locate 4 = .ok (.istore 5, 2) := by decide +kernel
theorem dX1_locate_6 : decode cX1_locate 6 = .ok (.iload 5, 2) := by decide +kernel
theorem dX1_locate_8 : decode cX1_locate 8 = .ok (.aload_n 0, 1) := by decide +kernel
theorem dX1_locate_9 : decode cX1_locate 9 = .ok (.getfield 65, 3) := by decide +kernel
theorem dX1_locate_12 : decode cX1_locate 12 = .ok (.if_icmp .ge 46, 3) := by decide +kernel
theorem dX1_locate_15 : decode cX1_locate 15 = .ok (.aload_n 0, 1) := by decide +kernel
theorem dX1_locate_16 : decode cX1_locate 16 = .ok (.getfield 20, 3) := by decide +kernel
theorem dX1_locate_19 : decode cX1_locate 19 = .ok (.iload 5, 2) := by decide +kernel
theorem dX1_locate_21 : decode cX1_locate 21 = .ok (.aaload, 1) := by decide +kernel
theorem dX1_locate_22 : decode cX1_locate 22 = .ok (.iload_n 1, 1) := by decide +kernel
theorem dX1_locate_23 : decode cX1_locate 23 = .ok (.i2l, 1) := by decide +kernel
theorem dX1_locate_24 : decode cX1_locate 24 = .ok (.iload_n 2, 1) := by decide +kernel
theorem dX1_locate_25 : decode cX1_locate 25 = .ok (.i2l, 1) := by decide +kernel
theorem dX1_locate_26 : decode cX1_locate 26 = .ok (.iload_n 3, 1) := by decide +kernel
theorem dX1_locate_27 : decode cX1_locate 27 = .ok (.i2l, 1) := by decide +kernel
theorem dX1_locate_28 : decode cX1_locate 28 = .ok (.invokevirtual 152, 3) := by decide +kernel
theorem dX1_locate_31 : decode cX1_locate 31 = .ok (.lstore 6, 2) := by decide +kernel
theorem dX1_locate_33 : decode cX1_locate 33 = .ok (.lload 6, 2) := by decide +kernel
theorem dX1_locate_35 : decode cX1_locate 35 = .ok (.lconst 0, 1) := by decide +kernel
theorem dX1_locate_36 : decode cX1_locate 36 = .ok (.lcmp, 1) := by decide +kernel
theorem dX1_locate_37 : decode cX1_locate 37 = .ok (.ifCond .le 5, 3) := by decide +kernel
theorem dX1_locate_40 : decode cX1_locate 40 = .ok (.iconst (-1), 1) := by decide +kernel
theorem dX1_locate_41 : decode cX1_locate 41 = .ok (.ireturn, 1) := by decide +kernel
theorem dX1_locate_42 : decode cX1_locate 42 = .ok (.lload 6, 2) := by decide +kernel
theorem dX1_locate_44 : decode cX1_locate 44 = .ok (.lconst 0, 1) := by decide +kernel
theorem dX1_locate_45 : decode cX1_locate 45 = .ok (.lcmp, 1) := by decide +kernel
theorem dX1_locate_46 : decode cX1_locate 46 = .ok (.ifCond .ne 6, 3) := by decide +kernel
theorem dX1_locate_49 : decode cX1_locate 49 = .ok (.iconst 0, 1) := by decide +kernel
theorem dX1_locate_50 : decode cX1_locate 50 = .ok (.istore 4, 2) := by decide +kernel
theorem dX1_locate_52 : decode cX1_locate 52 = .ok (.iinc 5 1, 3) := by decide +kernel
theorem dX1_locate_55 : decode cX1_locate 55 = .ok (.goto (-49), 3) := by decide +kernel
theorem dX1_locate_58 : decode cX1_locate 58 = .ok (.iload 4, 2) := by decide +kernel
theorem dX1_locate_60 : decode cX1_locate 60 = .ok (.ireturn, 1) := by decide +kernel
theorem dX2_init_0 : decode cX2_init 0 = .ok (.aload_n 0, 1) := by decide +kernel
theorem dX2_init_1 : decode cX2_init 1 = .ok (.invokespecial 3, 3) := by decide +kernel
theorem dX2_init_4 : decode cX2_init 4 = .ok (.aload_n 0, 1) := by decide +kernel
theorem dX2_init_5 : decode cX2_init 5 = .ok (.bipush 24, 2) := by decide +kernel
theorem dX2_init_7 : decode cX2_init 7 = .ok (.newarray .int, 2) := by decide +kernel
theorem dX2_init_9 : decode cX2_init 9 = .ok (.putfield 9, 3) := by decide +kernel
theorem dX2_init_12 : decode cX2_init 12 = .ok (.aload_n 0, 1) := by decide +kernel
theorem dX2_init_13 : decode cX2_init 13 = .ok (.bipush 24, 2) := by decide +kernel
theorem dX2_init_15 : decode cX2_init 15 = .ok (.newarray .int, 2) := by decide +kernel
theorem dX2_init_17 : decode cX2_init 17 = .ok (.putfield 15, 3) := by decide +kernel
theorem dX2_init_20 : decode cX2_init 20 = .ok (.aload_n 0, 1) := by decide +kernel
theorem dX2_init_21 : decode cX2_init 21 = .ok (.bipush 24, 2) := by decide +kernel
theorem dX2_init_23 : decode cX2_init 23 = .ok (.newarray .int, 2) := by decide +kernel
theorem dX2_init_25 : decode cX2_init 25 = .ok (.putfield 18, 3) := by decide +kernel
theorem dX2_init_28 : decode cX2_init 28 = .ok (.aload_n 0, 1) := by decide +kernel
theorem dX2_init_29 : decode cX2_init 29 = .ok (.iconst 0, 1) := by decide +kernel
theorem dX2_init_30 : decode cX2_init 30 = .ok (.putfield 21, 3) := by decide +kernel
theorem dX2_init_33 : decode cX2_init 33 = .ok (.return_, 1) := by decide +kernel
theorem dX2_isTaken_0 : decode cX2_isTaken 0 = .ok (.iconst 0, 1) := by decide +kernel
theorem dX2_isTaken_1 : decode cX2_isTaken 1 = .ok (.istore 4, 2) := by decide +kernel
theorem dX2_isTaken_3 : decode cX2_isTaken 3 = .ok (.iload 4, 2) := by decide +kernel
theorem dX2_isTaken_5 : decode cX2_isTaken 5 = .ok (.aload_n 0, 1) := by decide +kernel
theorem dX2_isTaken_6 : decode cX2_isTaken 6 = .ok (.getfield 21, 3) := by decide +kernel
theorem dX2_isTaken_9 : decode cX2_isTaken 9 = .ok (.if_icmp .ge 44, 3) := by decide +kernel
theorem dX2_isTaken_12 : decode cX2_isTaken 12 = .ok (.aload_n 0, 1) := by decide +kernel
theorem dX2_isTaken_13 : decode cX2_isTaken 13 = .ok (.getfield 9, 3) := by decide +kernel
theorem dX2_isTaken_16 : decode cX2_isTaken 16 = .ok (.iload 4, 2) := by decide +kernel
theorem dX2_isTaken_18 : decode cX2_isTaken 18 = .ok (.iaload, 1) := by decide +kernel
theorem dX2_isTaken_19 : decode cX2_isTaken 19 = .ok (.iload_n 1, 1) := by decide +kernel
theorem dX2_isTaken_20 : decode cX2_isTaken 20 = .ok (.if_icmp .ne 27, 3) := by decide +kernel
theorem dX2_isTaken_23 : decode cX2_isTaken 23 = .ok (.aload_n 0, 1) := by decide +kernel
theorem dX2_isTaken_24 : decode cX2_isTaken 24 = .ok (.getfield 15, 3) := by decide +kernel
theorem dX2_isTaken_27 : decode cX2_isTaken 27 = .ok (.iload 4, 2) := by decide +kernel
theorem dX2_isTaken_29 : decode cX2_isTaken 29 = .ok (.iaload, 1) := by decide +kernel
theorem dX2_isTaken_30 : decode cX2_isTaken 30 = .ok (.iload_n 2, 1) := by decide +kernel
theorem dX2_isTaken_31 : decode cX2_isTaken 31 = .ok (.if_icmp .ne 16, 3) := by decide +kernel
theorem dX2_isTaken_34 : decode cX2_isTaken 34 = .ok (.aload_n 0, 1) := by decide +kernel
theorem dX2_isTaken_35 : decode cX2_isTaken 35 = .ok (.getfield 18, 3) := by decide +kernel
theorem dX2_isTaken_38 : decode cX2_isTaken 38 = .ok (.iload 4, 2) := by decide +kernel
theorem dX2_isTaken_40 : decode cX2_isTaken 40 = .ok (.iaload, 1) := by decide +kernel
theorem dX2_isTaken_41 : decode cX2_isTaken 41 = .ok (.iload_n 3, 1) := by decide +kernel
theorem dX2_isTaken_42 : decode cX2_isTaken 42 = .ok (.if_icmp .ne 5, 3) := by decide +kernel
theorem dX2_isTaken_45 : decode cX2_isTaken 45 = .ok (.iconst 1, 1) := by decide +kernel
theorem dX2_isTaken_46 : decode cX2_isTaken 46 = .ok (.ireturn, 1) := by decide +kernel
theorem dX2_isTaken_47 : decode cX2_isTaken 47 = .ok (.iinc 4 1, 3) := by decide +kernel
theorem dX2_isTaken_50 : decode cX2_isTaken 50 = .ok (.goto (-47), 3) := by decide +kernel
theorem dX2_isTaken_53 : decode cX2_isTaken 53 = .ok (.iconst 0, 1) := by decide +kernel
theorem dX2_isTaken_54 : decode cX2_isTaken 54 = .ok (.ireturn, 1) := by decide +kernel
theorem dX2_append_0 : decode cX2_append 0 = .ok (.aload_n 0, 1) := by decide +kernel
theorem dX2_append_1 : decode cX2_append 1 = .ok (.getfield 21, 3) := by decide +kernel
theorem dX2_append_4 : decode cX2_append 4 = .ok (.bipush 24, 2) := by decide +kernel
theorem dX2_append_6 : decode cX2_append 6 = .ok (.if_icmp .lt 5, 3) := by decide +kernel
theorem dX2_append_9 : decode cX2_append 9 = .ok (.iconst (-1), 1) := by decide +kernel
theorem dX2_append_10 : decode cX2_append 10 = .ok (.ireturn, 1) := by decide +kernel
theorem dX2_append_11 : decode cX2_append 11 = .ok (.aload_n 0, 1) := by decide +kernel
theorem dX2_append_12 : decode cX2_append 12 = .ok (.getfield 9, 3) := by decide +kernel
theorem dX2_append_15 : decode cX2_append 15 = .ok (.aload_n 0, 1) := by decide +kernel
theorem dX2_append_16 : decode cX2_append 16 = .ok (.getfield 21, 3) := by decide +kernel
theorem dX2_append_19 : decode cX2_append 19 = .ok (.iload_n 1, 1) := by decide +kernel
theorem dX2_append_20 : decode cX2_append 20 = .ok (.iastore, 1) := by decide +kernel
theorem dX2_append_21 : decode cX2_append 21 = .ok (.aload_n 0, 1) := by decide +kernel
theorem dX2_append_22 : decode cX2_append 22 = .ok (.getfield 15, 3) := by decide +kernel
theorem dX2_append_25 : decode cX2_append 25 = .ok (.aload_n 0, 1) := by decide +kernel
theorem dX2_append_26 : decode cX2_append 26 = .ok (.getfield 21, 3) := by decide +kernel
theorem dX2_append_29 : decode cX2_append 29 = .ok (.iload_n 2, 1) := by decide +kernel
theorem dX2_append_30 : decode cX2_append 30 = .ok (.iastore, 1) := by decide +kernel
theorem dX2_append_31 : decode cX2_append 31 = .ok (.aload_n 0, 1) := by decide +kernel
theorem dX2_append_32 : decode cX2_append 32 = .ok (.getfield 18, 3) := by decide +kernel
theorem dX2_append_35 : decode cX2_append 35 = .ok (.aload_n 0, 1) := by decide +kernel
theorem dX2_append_36 : decode cX2_append 36 = .ok (.getfield 21, 3) := by decide +kernel
theorem dX2_append_39 : decode cX2_append 39 = .ok (.iload_n 3, 1) := by decide +kernel
theorem dX2_append_40 : decode cX2_append 40 = .ok (.iastore, 1) := by decide +kernel
theorem dX2_append_41 : decode cX2_append 41 = .ok (.aload_n 0, 1) := by decide +kernel
theorem dX2_append_42 : decode cX2_append 42 = .ok (.dup, 1) := by decide +kernel
theorem dX2_append_43 : decode cX2_append 43 = .ok (.getfield 21, 3) := by decide +kernel
theorem dX2_append_46 : decode cX2_append 46 = .ok (.iconst 1, 1) := by decide +kernel
theorem dX2_append_47 : decode cX2_append 47 = .ok (.iadd, 1) := by decide +kernel
theorem dX2_append_48 : decode cX2_append 48 = .ok (.putfield 21, 3) := by decide +kernel
theorem dX2_append_51 : decode cX2_append 51 = .ok (.aload_n 0, 1) := by decide +kernel
theorem dX2_append_52 : decode cX2_append 52 = .ok (.getfield 21, 3) := by decide +kernel
theorem dX2_append_55 : decode cX2_append 55 = .ok (.iconst 1, 1) := by decide +kernel
theorem dX2_append_56 : decode cX2_append 56 = .ok (.isub, 1) := by decide +kernel
theorem dX2_append_57 : decode cX2_append 57 = .ok (.ireturn, 1) := by decide +kernel
theorem dX2_remove_0 : decode cX2_remove 0 = .ok (.iload_n 1, 1) := by decide +kernel
theorem dX2_remove_1 : decode cX2_remove 1 = .ok (.ifCond .lt 11, 3) := by decide +kernel
theorem dX2_remove_4 : decode cX2_remove 4 = .ok (.iload_n 1, 1) := by decide +kernel
theorem dX2_remove_5 : decode cX2_remove 5 = .ok (.aload_n 0, 1) := by decide +kernel
theorem dX2_remove_6 : decode cX2_remove 6 = .ok (.getfield 21, 3) := by decide +kernel
theorem dX2_remove_9 : decode cX2_remove 9 = .ok (.if_icmp .lt 4, 3) := by decide +kernel
theorem dX2_remove_12 : decode cX2_remove 12 = .ok (.return_, 1) := by decide +kernel
theorem dX2_remove_13 : decode cX2_remove 13 = .ok (.iload_n 1, 1) := by decide +kernel
theorem dX2_remove_14 : decode cX2_remove 14 = .ok (.istore_n 2, 1) := by decide +kernel
theorem dX2_remove_15 : decode cX2_remove 15 = .ok (.iload_n 2, 1) := by decide +kernel
theorem dX2_remove_16 : decode cX2_remove 16 = .ok (.iconst 1, 1) := by decide +kernel
theorem dX2_remove_17 : decode cX2_remove 17 = .ok (.iadd, 1) := by decide +kernel
theorem dX2_remove_18 : decode cX2_remove 18 = .ok (.aload_n 0, 1) := by decide +kernel
theorem dX2_remove_19 : decode cX2_remove 19 = .ok (.getfield 21, 3) := by decide +kernel
theorem dX2_remove_22 : decode cX2_remove 22 = .ok (.if_icmp .ge 51, 3) := by decide +kernel
theorem dX2_remove_25 : decode cX2_remove 25 = .ok (.aload_n 0, 1) := by decide +kernel
theorem dX2_remove_26 : decode cX2_remove 26 = .ok (.getfield 9, 3) := by decide +kernel
theorem dX2_remove_29 : decode cX2_remove 29 = .ok (.iload_n 2, 1) := by decide +kernel
theorem dX2_remove_30 : decode cX2_remove 30 = .ok (.aload_n 0, 1) := by decide +kernel
theorem dX2_remove_31 : decode cX2_remove 31 = .ok (.getfield 9, 3) := by decide +kernel
theorem dX2_remove_34 : decode cX2_remove 34 = .ok (.iload_n 2, 1) := by decide +kernel
theorem dX2_remove_35 : decode cX2_remove 35 = .ok (.iconst 1, 1) := by decide +kernel
theorem dX2_remove_36 : decode cX2_remove 36 = .ok (.iadd, 1) := by decide +kernel
theorem dX2_remove_37 : decode cX2_remove 37 = .ok (.iaload, 1) := by decide +kernel
theorem dX2_remove_38 : decode cX2_remove 38 = .ok (.iastore, 1) := by decide +kernel
theorem dX2_remove_39 : decode cX2_remove 39 = .ok (.aload_n 0, 1) := by decide +kernel
theorem dX2_remove_40 : decode cX2_remove 40 = .ok (.getfield 15, 3) := by decide +kernel
theorem dX2_remove_43 : decode cX2_remove 43 = .ok (.iload_n 2, 1) := by decide +kernel
theorem dX2_remove_44 : decode cX2_remove 44 = .ok (.aload_n 0, 1) := by decide +kernel
theorem dX2_remove_45 : decode cX2_remove 45 = .ok (.getfield 15, 3) := by decide +kernel
theorem dX2_remove_48 : decode cX2_remove 48 = .ok (.iload_n 2, 1) := by decide +kernel
theorem dX2_remove_49 : decode cX2_remove 49 = .ok (.iconst 1, 1) := by decide +kernel
theorem dX2_remove_50 : decode cX2_remove 50 = .ok (.iadd, 1) := by decide +kernel
theorem dX2_remove_51 : decode cX2_remove 51 = .ok (.iaload, 1) := by decide +kernel
theorem dX2_remove_52 : decode cX2_remove 52 = .ok (.iastore, 1) := by decide +kernel
theorem dX2_remove_53 : decode cX2_remove 53 = .ok (.aload_n 0, 1) := by decide +kernel
theorem dX2_remove_54 : decode cX2_remove 54 = .ok (.getfield 18, 3) := by decide +kernel
theorem dX2_remove_57 : decode cX2_remove 57 = .ok (.iload_n 2, 1) := by decide +kernel
theorem dX2_remove_58 : decode cX2_remove 58 = .ok (.aload_n 0, 1) := by decide +kernel
theorem dX2_remove_59 : decode cX2_remove 59 = .ok (.getfield 18, 3) := by decide +kernel
theorem dX2_remove_62 : decode cX2_remove 62 = .ok (.iload_n 2, 1) := by decide +kernel
theorem dX2_remove_63 : decode cX2_remove 63 = .ok (.iconst 1, 1) := by decide +kernel
theorem dX2_remove_64 : decode cX2_remove 64 = .ok (.iadd, 1) := by decide +kernel
theorem dX2_remove_65 : decode cX2_remove 65 = .ok (.iaload, 1) := by decide +kernel
theorem dX2_remove_66 : decode cX2_remove 66 = .ok (.iastore, 1) := by decide +kernel
theorem dX2_remove_67 : decode cX2_remove 67 = .ok (.iinc 2 1, 3) := by decide +kernel
theorem dX2_remove_70 : decode cX2_remove 70 = .ok (.goto (-55), 3) := by decide +kernel
theorem dX2_remove_73 : decode cX2_remove 73 = .ok (.aload_n 0, 1) := by decide +kernel
theorem dX2_remove_74 : decode cX2_remove 74 = .ok (.dup, 1) := by decide +kernel
theorem dX2_remove_75 : decode cX2_remove 75 = .ok (.getfield 21, 3) := by decide +kernel
theorem dX2_remove_78 : decode cX2_remove 78 = .ok (.iconst 1, 1) := by decide +kernel
theorem dX2_remove_79 : decode cX2_remove 79 = .ok (.isub, 1) := by decide +kernel
theorem dX2_remove_80 : decode cX2_remove 80 = .ok (.putfield 21, 3) := by decide +kernel
theorem dX2_remove_83 : decode cX2_remove 83 = .ok (.return_, 1) := by decide +kernel
theorem dX2_coordinate_0 : decode cX2_coordinate 0 = .ok (.iload_n 2, 1) := by decide +kernel
theorem dX2_coordinate_1 : decode cX2_coordinate 1 = .ok (.ifCond .ne 10, 3) := by decide +kernel
theorem dX2_coordinate_4 : decode cX2_coordinate 4 = .ok (.aload_n 0, 1) := by decide +kernel
theorem dX2_coordinate_5 : decode cX2_coordinate 5 = .ok (.getfield 9, 3) := by decide +kernel
theorem dX2_coordinate_8 : decode cX2_coordinate 8 = .ok (.iload_n 1, 1) := by decide +kernel
theorem dX2_coordinate_9 : decode cX2_coordinate 9 = .ok (.iaload, 1) := by decide +kernel
theorem dX2_coordinate_10 : decode cX2_coordinate 10 = .ok (.ireturn, 1) := by decide +kernel
theorem dX2_coordinate_11 : decode cX2_coordinate 11 = .ok (.iload_n 2, 1) := by decide +kernel
theorem dX2_coordinate_12 : decode cX2_coordinate 12 = .ok (.iconst 1, 1) := by decide +kernel
theorem dX2_coordinate_13 : decode cX2_coordinate 13 = .ok (.if_icmp .ne 12, 3) := by decide +kernel
theorem dX2_coordinate_16 : decode cX2_coordinate 16 = .ok (.aload_n 0, 1) := by decide +kernel
theorem dX2_coordinate_17 : decode cX2_coordinate 17 = .ok (.getfield 15, 3) := by decide +kernel
theorem dX2_coordinate_20 : decode cX2_coordinate 20 = .ok (.iload_n 1, 1) := by decide +kernel
theorem dX2_coordinate_21 : decode cX2_coordinate 21 = .ok (.iaload, 1) := by decide +kernel
theorem dX2_coordinate_22 : decode cX2_coordinate 22 = .ok (.goto 9, 3) := by decide +kernel
theorem dX2_coordinate_25 : decode cX2_coordinate 25 = .ok (.aload_n 0, 1) := by decide +kernel
theorem dX2_coordinate_26 : decode cX2_coordinate 26 = .ok (.getfield 18, 3) := by decide +kernel
theorem dX2_coordinate_29 : decode cX2_coordinate 29 = .ok (.iload_n 1, 1) := by decide +kernel
theorem dX2_coordinate_30 : decode cX2_coordinate 30 = .ok (.iaload, 1) := by decide +kernel
theorem dX2_coordinate_31 : decode cX2_coordinate 31 = .ok (.ireturn, 1) := by decide +kernel
theorem dX2_copyFrom_0 : decode cX2_copyFrom 0 = .ok (.iconst 0, 1) := by decide +kernel
theorem dX2_copyFrom_1 : decode cX2_copyFrom 1 = .ok (.istore_n 2, 1) := by decide +kernel
theorem dX2_copyFrom_2 : decode cX2_copyFrom 2 = .ok (.iload_n 2, 1) := by decide +kernel
theorem dX2_copyFrom_3 : decode cX2_copyFrom 3 = .ok (.aload_n 1, 1) := by decide +kernel
theorem dX2_copyFrom_4 : decode cX2_copyFrom 4 = .ok (.getfield 21, 3) := by decide +kernel
theorem dX2_copyFrom_7 : decode cX2_copyFrom 7 = .ok (.if_icmp .ge 45, 3) := by decide +kernel
theorem dX2_copyFrom_10 : decode cX2_copyFrom 10 = .ok (.aload_n 0, 1) := by decide +kernel
theorem dX2_copyFrom_11 : decode cX2_copyFrom 11 = .ok (.getfield 9, 3) := by decide +kernel
theorem dX2_copyFrom_14 : decode cX2_copyFrom 14 = .ok (.iload_n 2, 1) := by decide +kernel
theorem dX2_copyFrom_15 : decode cX2_copyFrom 15 = .ok (.aload_n 1, 1) := by decide +kernel
theorem dX2_copyFrom_16 : decode cX2_copyFrom 16 = .ok (.getfield 9, 3) := by decide +kernel
theorem dX2_copyFrom_19 : decode cX2_copyFrom 19 = .ok (.iload_n 2, 1) := by decide +kernel
theorem dX2_copyFrom_20 : decode cX2_copyFrom 20 = .ok (.iaload, 1) := by decide +kernel
theorem dX2_copyFrom_21 : decode cX2_copyFrom 21 = .ok (.iastore, 1) := by decide +kernel
theorem dX2_copyFrom_22 : decode cX2_copyFrom 22 = .ok (.aload_n 0, 1) := by decide +kernel
theorem dX2_copyFrom_23 : decode cX2_copyFrom 23 = .ok (.getfield 15, 3) := by decide +kernel
theorem dX2_copyFrom_26 : decode cX2_copyFrom 26 = .ok (.iload_n 2, 1) := by decide +kernel
theorem dX2_copyFrom_27 : decode cX2_copyFrom 27 = .ok (.aload_n 1, 1) := by decide +kernel
theorem dX2_copyFrom_28 : decode cX2_copyFrom 28 = .ok (.getfield 15, 3) := by decide +kernel
theorem dX2_copyFrom_31 : decode cX2_copyFrom 31 = .ok (.iload_n 2, 1) := by decide +kernel
theorem dX2_copyFrom_32 : decode cX2_copyFrom 32 = .ok (.iaload, 1) := by decide +kernel
theorem dX2_copyFrom_33 : decode cX2_copyFrom 33 = .ok (.iastore, 1) := by decide +kernel
theorem dX2_copyFrom_34 : decode cX2_copyFrom 34 = .ok (.aload_n 0, 1) := by decide +kernel
theorem dX2_copyFrom_35 : decode cX2_copyFrom 35 = .ok (.getfield 18, 3) := by decide +kernel
theorem dX2_copyFrom_38 : decode cX2_copyFrom 38 = .ok (.iload_n 2, 1) := by decide +kernel
theorem dX2_copyFrom_39 : decode cX2_copyFrom 39 = .ok (.aload_n 1, 1) := by decide +kernel
theorem dX2_copyFrom_40 : decode cX2_copyFrom 40 = .ok (.getfield 18, 3) := by decide +kernel
theorem dX2_copyFrom_43 : decode cX2_copyFrom 43 = .ok (.iload_n 2, 1) := by decide +kernel
theorem dX2_copyFrom_44 : decode cX2_copyFrom 44 = .ok (.iaload, 1) := by decide +kernel
theorem dX2_copyFrom_45 : decode cX2_copyFrom 45 = .ok (.iastore, 1) := by decide +kernel
theorem dX2_copyFrom_46 : decode cX2_copyFrom 46 = .ok (.iinc 2 1, 3) := by decide +kernel
theorem dX2_copyFrom_49 : decode cX2_copyFrom 49 = .ok (.goto (-47), 3) := by decide +kernel
theorem dX2_copyFrom_52 : decode cX2_copyFrom 52 = .ok (.aload_n 0, 1) := by decide +kernel
theorem dX2_copyFrom_53 : decode cX2_copyFrom 53 = .ok (.aload_n 1, 1) := by decide +kernel
theorem dX2_copyFrom_54 : decode cX2_copyFrom 54 = .ok (.getfield 21, 3) := by decide +kernel
theorem dX2_copyFrom_57 : decode cX2_copyFrom 57 = .ok (.putfield 21, 3) := by decide +kernel
theorem dX2_copyFrom_60 : decode cX2_copyFrom 60 = .ok (.return_, 1) := by decide +kernel
set_option maxRecDepth 20000 in
theorem ggX3_init_X2_init : GoodIn wsX3_init wsX2_init := goodIn_r _ [14, 15, 2, 3, 16, 17, 18, 19, 20, 40, 41, 42, 43] (by decide +kernel) (by decide +kernel)
set_option maxRecDepth 20000 in
theorem gX3_init_X2_init_n11 : GoodIn wsX3_init (wsX2_init) := ggX3_init_X2_init
set_option maxRecDepth 20000 in
theorem ggX3_init_X1_init : GoodIn wsX3_init wsX1_init := goodIn_r _ [22, 23, 2, 3, 24, 5, 6, 25, 26, 27, 28, 29, 30, 16, 31, 32, 33, 34, 35, 13, 14, 15, 17, 18, 19, 20, 36, 37, 38, 39, 40, 41, 42, 43, 47, 48, 49, 50, 51, 52, 53, 54, 55, 56, 57, 58, 59, 60, 61, 62, 63, 64] (by decide +kernel) (by decide +kernel)
set_option maxRecDepth 20000 in
theorem gX3_init_X1_init_n18 : GoodIn wsX3_init (wsX1_init) := ggX3_init_X1_init
theorem dX3_init_0 : decode cX3_init 0 = .ok (.aload_n 0, 1) := by decide +kernel
theorem dX3_init_1 : decode cX3_init 1 = .ok (.invokespecial 3, 3) := by decide +kernel
theorem dX3_init_4 : decode cX3_init 4 = .ok (.aload_n 0, 1) := by decide +kernel
theorem dX3_init_5 : decode cX3_init 5 = .ok (.new 9, 3) := by decide +kernel
theorem dX3_init_8 : decode cX3_init 8 = .ok (.dup, 1) := by decide +kernel
theorem dX3_init_9 : decode cX3_init 9 = .ok (.invokespecial 11, 3) := by decide +kernel
theorem dX3_init_12 : decode cX3_init 12 = .ok (.putfield 12, 3) := by decide +kernel
theorem dX3_init_15 : decode cX3_init 15 = .ok (.aload_n 0, 1) := by decide +kernel
theorem dX3_init_16 : decode cX3_init 16 = .ok (.new 16, 3) := by decide +kernel
theorem dX3_init_19 : decode cX3_init 19 = .ok (.dup, 1) := by decide +kernel
theorem dX3_init_20 : decode cX3_init 20 = .ok (.invokespecial 18, 3) := by decide +kernel
theorem dX3_init_23 : decode cX3_init 23 = .ok (.putfield 19, 3) := by decide +kernel
theorem dX3_init_26 : decode cX3_init 26 = .ok (.aload_n 0, 1) := by decide +kernel
theorem dX3_init_27 : decode cX3_init 27 = .ok (.iconst 0, 1) := by decide +kernel
theorem dX3_init_28 : decode cX3_init 28 = .ok (.putfield 23, 3) := by decide +kernel
theorem dX3_init_31 : decode cX3_init 31 = .ok (.return_, 1) := by decide +kernel
set_option maxRecDepth 20000 in
theorem ggX3_point_X3_requireReach : GoodIn wsX3_point wsX3_requireReach := goodIn_ca (goodIn_r _ [9, 1, 2, 10, 11, 8, 12] (by decide +kernel) (by decide +kernel)) (goodIn_sub (fun _ h => List.mem_cons_of_mem _ (List.mem_append_left _ (List.mem_append_right _ h))) (by decide +kernel))
set_option maxRecDepth 20000 in
theorem gX3_point_X3_requireReach : GoodIn wsX3_point (va_wsS RX3 27 yX3_requireReach wsX3_requireReach) := goodIn_app (goodIn_of _ (by decide +kernel)) ggX3_point_X3_requireReach
set_option maxRecDepth 20000 in
theorem ggX3_point_X2_isTaken : GoodIn wsX3_point wsX2_isTaken := goodIn_r _ [16, 17, 18, 19, 20, 27, 28, 29, 30] (by decide +kernel) (by decide +kernel)
set_option maxRecDepth 20000 in
theorem gX3_point_X2_isTaken_n31 : GoodIn wsX3_point (wsX2_isTaken) := ggX3_point_X2_isTaken
set_option maxRecDepth 20000 in
theorem ggX3_point_X2_append : GoodIn wsX3_point wsX2_append := goodIn_r _ [23, 17, 18, 19, 20, 27, 28, 29, 30] (by decide +kernel) (by decide +kernel)
set_option maxRecDepth 20000 in
theorem gX3_point_X2_append_n50 : GoodIn wsX3_point (wsX2_append) := ggX3_point_X2_append
theorem dX3_point_0 : decode cX3_point 0 = .ok (.iload_n 1, 1) := by decide +kernel
theorem dX3_point_1 : decode cX3_point 1 = .ok (.iload_n 2, 1) := by decide +kernel
theorem dX3_point_2 : decode cX3_point 2 = .ok (.iload_n 3, 1) := by decide +kernel
theorem dX3_point_3 : decode cX3_point 3 = .ok (.sipush 512, 3) := by decide +kernel
theorem dX3_point_6 : decode cX3_point 6 = .ok (.invokestatic 27, 3) := by decide +kernel
theorem dX3_point_9 : decode cX3_point 9 = .ok (.aload_n 0, 1) := by decide +kernel
theorem dX3_point_10 : decode cX3_point 10 = .ok (.getfield 12, 3) := by decide +kernel
theorem dX3_point_13 : decode cX3_point 13 = .ok (.iload_n 1, 1) := by decide +kernel
theorem dX3_point_14 : decode cX3_point 14 = .ok (.iload_n 2, 1) := by decide +kernel
theorem dX3_point_15 : decode cX3_point 15 = .ok (.iload_n 3, 1) := by decide +kernel
theorem dX3_point_16 : decode cX3_point 16 = .ok (.invokevirtual 31, 3) := by decide +kernel
theorem dX3_point_19 : decode cX3_point 19 = .ok (.ifCond .eq 13, 3) := by decide +kernel
theorem dX3_point_22 : decode cX3_point 22 = .ok (.new 35, 3) := by decide +kernel
theorem dX3_point_25 : decode cX3_point 25 = .ok (.dup, 1) := by decide +kernel
theorem dX3_point_26 : decode cX3_point 26 = .ok (.ldc 37, 2) := by decide +kernel
theorem dX3_point_28 : decode cX3_point 28 = .ok (.invokespecial 39, 3) := by decide +kernel
theorem dX3_point_31 : decode cX3_point 31 = .ok (.athrow, 1) := by decide +kernel
theorem dX3_point_32 : decode cX3_point 32 = .ok (.aload_n 0, 1) := by decide +kernel
theorem dX3_point_33 : decode cX3_point 33 = .ok (.getfield 12, 3) := by decide +kernel
theorem dX3_point_36 : decode cX3_point 36 = .ok (.getfield 42, 3) := by decide +kernel
theorem dX3_point_39 : decode cX3_point 39 = .ok (.bipush 24, 2) := by decide +kernel
theorem dX3_point_41 : decode cX3_point 41 = .ok (.if_icmp .lt 13, 3) := by decide +kernel
theorem dX3_point_44 : decode cX3_point 44 = .ok (.new 45, 3) := by decide +kernel
theorem dX3_point_47 : decode cX3_point 47 = .ok (.dup, 1) := by decide +kernel
theorem dX3_point_48 : decode cX3_point 48 = .ok (.ldc 47, 2) := by decide +kernel
theorem dX3_point_50 : decode cX3_point 50 = .ok (.invokespecial 49, 3) := by decide +kernel
theorem dX3_point_53 : decode cX3_point 53 = .ok (.athrow, 1) := by decide +kernel
theorem dX3_point_54 : decode cX3_point 54 = .ok (.aload_n 0, 1) := by decide +kernel
theorem dX3_point_55 : decode cX3_point 55 = .ok (.getfield 12, 3) := by decide +kernel
theorem dX3_point_58 : decode cX3_point 58 = .ok (.iload_n 1, 1) := by decide +kernel
theorem dX3_point_59 : decode cX3_point 59 = .ok (.iload_n 2, 1) := by decide +kernel
theorem dX3_point_60 : decode cX3_point 60 = .ok (.iload_n 3, 1) := by decide +kernel
theorem dX3_point_61 : decode cX3_point 61 = .ok (.invokevirtual 50, 3) := by decide +kernel
theorem dX3_point_64 : decode cX3_point 64 = .ok (.ireturn, 1) := by decide +kernel
set_option maxRecDepth 20000 in
theorem ggX3_take_X3_requirePlace : GoodIn wsX3_take wsX3_requirePlace := goodIn_ca (goodIn_r _ [5, 6, 7] (by decide +kernel) (by decide +kernel)) (goodIn_sub (fun _ h => List.mem_cons_of_mem _ (List.mem_append_right _ h)) (by decide +kernel))
set_option maxRecDepth 20000 in
theorem gX3_take_X3_requirePlace : GoodIn wsX3_take (va_wsS RX3 54 yX3_requirePlace wsX3_requirePlace) := goodIn_app (goodIn_of _ (by decide +kernel)) ggX3_take_X3_requirePlace
set_option maxRecDepth 20000 in
theorem ggX3_take_X2_remove : GoodIn wsX3_take wsX2_remove := goodIn_r _ [11, 12, 13, 14, 15, 19, 20, 21, 22] (by decide +kernel) (by decide +kernel)
set_option maxRecDepth 20000 in
theorem gX3_take_X2_remove_n58 : GoodIn wsX3_take (wsX2_remove) := ggX3_take_X2_remove
theorem dX3_take_0 : decode cX3_take 0 = .ok (.iload_n 1, 1) := by decide +kernel
theorem dX3_take_1 : decode cX3_take 1 = .ok (.aload_n 0, 1) := by decide +kernel
theorem dX3_take_2 : decode cX3_take 2 = .ok (.getfield 12, 3) := by decide +kernel
theorem dX3_take_5 : decode cX3_take 5 = .ok (.getfield 42, 3) := by decide +kernel
theorem dX3_take_8 : decode cX3_take 8 = .ok (.invokestatic 54, 3) := by decide +kernel
theorem dX3_take_11 : decode cX3_take 11 = .ok (.aload_n 0, 1) := by decide +kernel
theorem dX3_take_12 : decode cX3_take 12 = .ok (.getfield 12, 3) := by decide +kernel
theorem dX3_take_15 : decode cX3_take 15 = .ok (.iload_n 1, 1) := by decide +kernel
theorem dX3_take_16 : decode cX3_take 16 = .ok (.invokevirtual 58, 3) := by decide +kernel
theorem dX3_take_19 : decode cX3_take 19 = .ok (.aload_n 0, 1) := by decide +kernel
theorem dX3_take_20 : decode cX3_take 20 = .ok (.getfield 12, 3) := by decide +kernel
theorem dX3_take_23 : decode cX3_take 23 = .ok (.getfield 42, 3) := by decide +kernel
theorem dX3_take_26 : decode cX3_take 26 = .ok (.ireturn, 1) := by decide +kernel
set_option maxRecDepth 20000 in
theorem ggX3_build_X1_wouldBeFlat : GoodIn wsX3_build wsX1_wouldBeFlat := goodIn_r _ [9, 10, 11, 12, 13, 14, 15, 16, 17, 18, 19, 20, 21, 22, 23, 24, 25, 26, 27, 28, 147, 148, 149, 150, 136, 137, 138, 139, 140, 141, 142, 143, 144, 145, 146, 151, 152, 153, 154, 155, 156, 157] (by decide +kernel) (by decide +kernel)
set_option maxRecDepth 20000 in
theorem gX3_build_X1_wouldBeFlat_n62 : GoodIn wsX3_build (wsX1_wouldBeFlat) := ggX3_build_X1_wouldBeFlat
set_option maxRecDepth 20000 in
theorem ggX3_build_X1_wrap : GoodIn wsX3_build wsX1_wrap := goodIn_r _ [31, 32, 33, 34, 35, 36, 37, 38, 39, 40, 41, 42, 43, 44, 45, 46, 7, 47, 48, 49, 50, 51, 10, 52, 53, 54, 55, 11, 12, 13, 14, 15, 16, 17, 18, 19, 20, 21, 56, 57, 58, 59, 25, 26, 27, 28, 60, 61, 62, 63, 64, 65, 66, 67, 68, 69, 70, 71, 72, 73, 74, 75, 76, 77, 78, 79, 80, 81, 82, 83, 84, 85, 86, 87, 88, 89, 90, 91, 92, 93, 94, 95, 96, 97, 98, 99, 100, 101, 102, 103, 104, 105, 106, 107, 108, 109, 110, 111, 112, 113, 114, 115, 116, 117, 118, 119, 120, 121, 122, 123, 124, 125, 126, 127, 128, 129, 130, 131, 132, 136, 137, 138, 139, 140, 141, 142, 143, 144, 145, 146, 147, 148, 149, 150, 151, 152, 153, 154, 155, 156, 157] (by decide +kernel) (by decide +kernel)
set_option maxRecDepth 20000 in
theorem gX3_build_X1_wrap_n68 : GoodIn wsX3_build (wsX1_wrap) := ggX3_build_X1_wrap
theorem dX3_build_0 : decode cX3_build 0 = .ok (.aload_n 0, 1) := by decide +kernel
theorem dX3_build_1 : decode cX3_build 1 = .ok (.getfield 19, 3) := by decide +kernel
theorem dX3_build_4 : decode cX3_build 4 = .ok (.aload_n 0, 1) := by decide +kernel
theorem dX3_build_5 : decode cX3_build 5 = .ok (.getfield 12, 3) := by decide +kernel
theorem dX3_build_8 : decode cX3_build 8 = .ok (.invokevirtual 62, 3) := by decide +kernel
theorem dX3_build_11 : decode cX3_build 11 = .ok (.ifCond .eq 13, 3) := by decide +kernel
theorem dX3_build_14 : decode cX3_build 14 = .ok (.new 45, 3) := by decide +kernel
theorem dX3_build_17 : decode cX3_build 17 = .ok (.dup, 1) := by decide +kernel
theorem dX3_build_18 : decode cX3_build 18 = .ok (.ldc 66, 2) := by decide +kernel
theorem dX3_build_20 : decode cX3_build 20 = .ok (.invokespecial 49, 3) := by decide +kernel
theorem dX3_build_23 : decode cX3_build 23 = .ok (.athrow, 1) := by decide +kernel
theorem dX3_build_24 : decode cX3_build 24 = .ok (.aload_n 0, 1) := by decide +kernel
theorem dX3_build_25 : decode cX3_build 25 = .ok (.getfield 19, 3) := by decide +kernel
theorem dX3_build_28 : decode cX3_build 28 = .ok (.aload_n 0, 1) := by decide +kernel
theorem dX3_build_29 : decode cX3_build 29 = .ok (.getfield 12, 3) := by decide +kernel
theorem dX3_build_32 : decode cX3_build 32 = .ok (.invokevirtual 68, 3) := by decide +kernel
theorem dX3_build_35 : decode cX3_build 35 = .ok (.aload_n 0, 1) := by decide +kernel
theorem dX3_build_36 : decode cX3_build 36 = .ok (.dup, 1) := by decide +kernel
theorem dX3_build_37 : decode cX3_build 37 = .ok (.getfield 23, 3) := by decide +kernel
theorem dX3_build_40 : decode cX3_build 40 = .ok (.iconst 1, 1) := by decide +kernel
theorem dX3_build_41 : decode cX3_build 41 = .ok (.iadd, 1) := by decide +kernel
theorem dX3_build_42 : decode cX3_build 42 = .ok (.putfield 23, 3) := by decide +kernel
theorem dX3_build_45 : decode cX3_build 45 = .ok (.aload_n 0, 1) := by decide +kernel
theorem dX3_build_46 : decode cX3_build 46 = .ok (.getfield 19, 3) := by decide +kernel
theorem dX3_build_49 : decode cX3_build 49 = .ok (.getfield 72, 3) := by decide +kernel
theorem dX3_build_52 : decode cX3_build 52 = .ok (.ireturn, 1) := by decide +kernel
set_option maxRecDepth 20000 in
theorem ggX3_of_X3_requirePlace : GoodIn wsX3_of wsX3_requirePlace := goodIn_ca (goodIn_r _ [5, 6, 7] (by decide +kernel) (by decide +kernel)) (goodIn_sub (fun _ h => List.mem_cons_of_mem _ (List.mem_append_right _ h)) (by decide +kernel))
set_option maxRecDepth 20000 in
theorem gX3_of_X3_requirePlace : GoodIn wsX3_of (va_wsS RX3 54 yX3_requirePlace wsX3_requirePlace) := goodIn_app (goodIn_of _ (by decide +kernel)) ggX3_of_X3_requirePlace
set_option maxRecDepth 20000 in
theorem ggX3_of_X2_coordinate : GoodIn wsX3_of wsX2_coordinate := goodIn_r _ [11, 12, 13, 14, 18, 19, 20, 21] (by decide +kernel) (by decide +kernel)
set_option maxRecDepth 20000 in
theorem gX3_of_X2_coordinate_n75 : GoodIn wsX3_of (wsX2_coordinate) := ggX3_of_X2_coordinate
theorem dX3_of_0 : decode cX3_of 0 = .ok (.iload_n 1, 1) := by decide +kernel
theorem dX3_of_1 : decode cX3_of 1 = .ok (.aload_n 0, 1) := by decide +kernel
theorem dX3_of_2 : decode cX3_of 2 = .ok (.getfield 12, 3) := by decide +kernel
theorem dX3_of_5 : decode cX3_of 5 = .ok (.getfield 42, 3) := by decide +kernel
theorem dX3_of_8 : decode cX3_of 8 = .ok (.invokestatic 54, 3) := by decide +kernel
theorem dX3_of_11 : decode cX3_of 11 = .ok (.iload_n 2, 1) := by decide +kernel
theorem dX3_of_12 : decode cX3_of 12 = .ok (.iconst 3, 1) := by decide +kernel
theorem dX3_of_13 : decode cX3_of 13 = .ok (.invokestatic 54, 3) := by decide +kernel
theorem dX3_of_16 : decode cX3_of 16 = .ok (.aload_n 0, 1) := by decide +kernel
theorem dX3_of_17 : decode cX3_of 17 = .ok (.getfield 12, 3) := by decide +kernel
theorem dX3_of_20 : decode cX3_of 20 = .ok (.iload_n 1, 1) := by decide +kernel
theorem dX3_of_21 : decode cX3_of 21 = .ok (.iload_n 2, 1) := by decide +kernel
theorem dX3_of_22 : decode cX3_of 22 = .ok (.invokevirtual 75, 3) := by decide +kernel
theorem dX3_of_25 : decode cX3_of 25 = .ok (.ireturn, 1) := by decide +kernel
set_option maxRecDepth 20000 in
theorem ggX3_face_X3_requireHull : GoodIn wsX3_face wsX3_requireHull := goodIn_ca (goodIn_r _ [6, 7, 8, 1, 14, 15, 16, 17, 18, 19, 20, 21, 22, 23, 24, 25, 26, 27] (by decide +kernel) (by decide +kernel)) (goodIn_sub (fun _ h => List.mem_cons_of_mem _ (List.mem_append_left _ (List.mem_append_right _ h))) (by decide +kernel))
set_option maxRecDepth 20000 in
theorem gX3_face_X3_requireHull : GoodIn wsX3_face (wsV RX3 79 RX3 yX3_requireHull wsX3_requireHull) := goodIn_app (goodIn_of _ (by decide +kernel)) ggX3_face_X3_requireHull
set_option maxRecDepth 20000 in
theorem ggX3_face_X3_requirePlace : GoodIn wsX3_face wsX3_requirePlace := goodIn_ca (goodIn_r _ [11, 12, 13] (by decide +kernel) (by decide +kernel)) (goodIn_sub (fun _ h => List.mem_cons_of_mem _ (List.mem_append_right _ h)) (by decide +kernel))
set_option maxRecDepth 20000 in
theorem gX3_face_X3_requirePlace : GoodIn wsX3_face (va_wsS RX3 54 yX3_requirePlace wsX3_requirePlace) := goodIn_app (goodIn_of _ (by decide +kernel)) ggX3_face_X3_requirePlace
theorem dX3_face_0 : decode cX3_face 0 = .ok (.aload_n 0, 1) := by decide +kernel
theorem dX3_face_1 : decode cX3_face 1 = .ok (.invokevirtual 79, 3) := by decide +kernel
theorem dX3_face_4 : decode cX3_face 4 = .ok (.iload_n 1, 1) := by decide +kernel
theorem dX3_face_5 : decode cX3_face 5 = .ok (.aload_n 0, 1) := by decide +kernel
theorem dX3_face_6 : decode cX3_face 6 = .ok (.getfield 19, 3) := by decide +kernel
theorem dX3_face_9 : decode cX3_face 9 = .ok (.getfield 72, 3) := by decide +kernel
theorem dX3_face_12 : decode cX3_face 12 = .ok (.invokestatic 54, 3) := by decide +kernel
theorem dX3_face_15 : decode cX3_face 15 = .ok (.iload_n 2, 1) := by decide +kernel
theorem dX3_face_16 : decode cX3_face 16 = .ok (.iconst 4, 1) := by decide +kernel
theorem dX3_face_17 : decode cX3_face 17 = .ok (.invokestatic 54, 3) := by decide +kernel
theorem dX3_face_20 : decode cX3_face 20 = .ok (.aload_n 0, 1) := by decide +kernel
theorem dX3_face_21 : decode cX3_face 21 = .ok (.getfield 19, 3) := by decide +kernel
theorem dX3_face_24 : decode cX3_face 24 = .ok (.getfield 82, 3) := by decide +kernel
theorem dX3_face_27 : decode cX3_face 27 = .ok (.iload_n 1, 1) := by decide +kernel
theorem dX3_face_28 : decode cX3_face 28 = .ok (.aaload, 1) := by decide +kernel
theorem dX3_face_29 : decode cX3_face 29 = .ok (.astore_n 3, 1) := by decide +kernel
theorem dX3_face_30 : decode cX3_face 30 = .ok (.iload_n 2, 1) := by decide +kernel
theorem dX3_face_31 : decode cX3_face 31 = .ok (.tableswitch 42 0 2 #[25, 30, 36], 25) := by decide +kernel
theorem dX3_face_56 : decode cX3_face 56 = .ok (.aload_n 3, 1) := by decide +kernel
theorem dX3_face_57 : decode cX3_face 57 = .ok (.getfield 86, 3) := by decide +kernel
theorem dX3_face_60 : decode cX3_face 60 = .ok (.ireturn, 1) := by decide +kernel
theorem dX3_face_61 : decode cX3_face 61 = .ok (.aload_n 3, 1) := by decide +kernel
theorem dX3_face_62 : decode cX3_face 62 = .ok (.getfield 89, 3) := by decide +kernel
theorem dX3_face_65 : decode cX3_face 65 = .ok (.l2i, 1) := by decide +kernel
theorem dX3_face_66 : decode cX3_face 66 = .ok (.ireturn, 1) := by decide +kernel
theorem dX3_face_67 : decode cX3_face 67 = .ok (.aload_n 3, 1) := by decide +kernel
theorem dX3_face_68 : decode cX3_face 68 = .ok (.getfield 93, 3) := by decide +kernel
theorem dX3_face_71 : decode cX3_face 71 = .ok (.l2i, 1) := by decide +kernel
theorem dX3_face_72 : decode cX3_face 72 = .ok (.ireturn, 1) := by decide +kernel
theorem dX3_face_73 : decode cX3_face 73 = .ok (.aload_n 3, 1) := by decide +kernel
theorem dX3_face_74 : decode cX3_face 74 = .ok (.getfield 96, 3) := by decide +kernel
theorem dX3_face_77 : decode cX3_face 77 = .ok (.l2i, 1) := by decide +kernel
theorem dX3_face_78 : decode cX3_face 78 = .ok (.ireturn, 1) := by decide +kernel
set_option maxRecDepth 20000 in
theorem ggX3_offset_X3_requireHull : GoodIn wsX3_offset wsX3_requireHull := goodIn_ca (goodIn_r _ [6, 7, 8, 1, 14, 15, 16, 17, 18, 19, 20, 21, 22, 23, 24, 25, 26, 27] (by decide +kernel) (by decide +kernel)) (goodIn_sub (fun _ h => List.mem_cons_of_mem _ (List.mem_append_left _ (List.mem_append_right _ h))) (by decide +kernel))
set_option maxRecDepth 20000 in
theorem gX3_offset_X3_requireHull : GoodIn wsX3_offset (wsV RX3 79 RX3 yX3_requireHull wsX3_requireHull) := goodIn_app (goodIn_of _ (by decide +kernel)) ggX3_offset_X3_requireHull
set_option maxRecDepth 20000 in
theorem ggX3_offset_X3_requirePlace : GoodIn wsX3_offset wsX3_requirePlace := goodIn_ca (goodIn_r _ [11, 12, 13] (by decide +kernel) (by decide +kernel)) (goodIn_sub (fun _ h => List.mem_cons_of_mem _ (List.mem_append_right _ h)) (by decide +kernel))
set_option maxRecDepth 20000 in
theorem gX3_offset_X3_requirePlace : GoodIn wsX3_offset (va_wsS RX3 54 yX3_requirePlace wsX3_requirePlace) := goodIn_app (goodIn_of _ (by decide +kernel)) ggX3_offset_X3_requirePlace
theorem dX3_offset_0 : decode cX3_offset 0 = .ok (.aload_n 0, 1) := by decide +kernel
theorem dX3_offset_1 : decode cX3_offset 1 = .ok (.invokevirtual 79, 3) := by decide +kernel
theorem dX3_offset_4 : decode cX3_offset 4 = .ok (.iload_n 1, 1) := by decide +kernel
theorem dX3_offset_5 : decode cX3_offset 5 = .ok (.aload_n 0, 1) := by decide +kernel
theorem dX3_offset_6 : decode cX3_offset 6 = .ok (.getfield 19, 3) := by decide +kernel
theorem dX3_offset_9 : decode cX3_offset 9 = .ok (.getfield 72, 3) := by decide +kernel
theorem dX3_offset_12 : decode cX3_offset 12 = .ok (.invokestatic 54, 3) := by decide +kernel
theorem dX3_offset_15 : decode cX3_offset 15 = .ok (.aload_n 0, 1) := by decide +kernel
theorem dX3_offset_16 : decode cX3_offset 16 = .ok (.getfield 19, 3) := by decide +kernel
theorem dX3_offset_19 : decode cX3_offset 19 = .ok (.getfield 82, 3) := by decide +kernel
theorem dX3_offset_22 : decode cX3_offset 22 = .ok (.iload_n 1, 1) := by decide +kernel
theorem dX3_offset_23 : decode cX3_offset 23 = .ok (.aaload, 1) := by decide +kernel
theorem dX3_offset_24 : decode cX3_offset 24 = .ok (.getfield 99, 3) := by decide +kernel
theorem dX3_offset_27 : decode cX3_offset 27 = .ok (.lreturn, 1) := by decide +kernel
set_option maxRecDepth 20000 in
theorem ggX3_corner_X3_requireHull : GoodIn wsX3_corner wsX3_requireHull := goodIn_ca (goodIn_r _ [6, 7, 8, 1, 14, 15, 16, 17, 18, 19, 20, 21, 22, 23, 24, 25, 26, 27] (by decide +kernel) (by decide +kernel)) (goodIn_sub (fun _ h => List.mem_cons_of_mem _ (List.mem_append_left _ (List.mem_append_right _ h))) (by decide +kernel))
set_option maxRecDepth 20000 in
theorem gX3_corner_X3_requireHull : GoodIn wsX3_corner (wsV RX3 79 RX3 yX3_requireHull wsX3_requireHull) := goodIn_app (goodIn_of _ (by decide +kernel)) ggX3_corner_X3_requireHull
set_option maxRecDepth 20000 in
theorem ggX3_corner_X3_requirePlace : GoodIn wsX3_corner wsX3_requirePlace := goodIn_ca (goodIn_r _ [11, 12, 13] (by decide +kernel) (by decide +kernel)) (goodIn_sub (fun _ h => List.mem_cons_of_mem _ (List.mem_append_right _ h)) (by decide +kernel))
set_option maxRecDepth 20000 in
theorem gX3_corner_X3_requirePlace : GoodIn wsX3_corner (va_wsS RX3 54 yX3_requirePlace wsX3_requirePlace) := goodIn_app (goodIn_of _ (by decide +kernel)) ggX3_corner_X3_requirePlace
theorem dX3_corner_0 : decode cX3_corner 0 = .ok (.aload_n 0, 1) := by decide +kernel
theorem dX3_corner_1 : decode cX3_corner 1 = .ok (.invokevirtual 79, 3) := by decide +kernel
theorem dX3_corner_4 : decode cX3_corner 4 = .ok (.iload_n 1, 1) := by decide +kernel
theorem dX3_corner_5 : decode cX3_corner 5 = .ok (.aload_n 0, 1) := by decide +kernel
theorem dX3_corner_6 : decode cX3_corner 6 = .ok (.getfield 19, 3) := by decide +kernel
theorem dX3_corner_9 : decode cX3_corner 9 = .ok (.getfield 72, 3) := by decide +kernel
theorem dX3_corner_12 : decode cX3_corner 12 = .ok (.invokestatic 54, 3) := by decide +kernel
theorem dX3_corner_15 : decode cX3_corner 15 = .ok (.iload_n 2, 1) := by decide +kernel
theorem dX3_corner_16 : decode cX3_corner 16 = .ok (.aload_n 0, 1) := by decide +kernel
theorem dX3_corner_17 : decode cX3_corner 17 = .ok (.getfield 19, 3) := by decide +kernel
theorem dX3_corner_20 : decode cX3_corner 20 = .ok (.getfield 82, 3) := by decide +kernel
theorem dX3_corner_23 : decode cX3_corner 23 = .ok (.iload_n 1, 1) := by decide +kernel
theorem dX3_corner_24 : decode cX3_corner 24 = .ok (.aaload, 1) := by decide +kernel
theorem dX3_corner_25 : decode cX3_corner 25 = .ok (.getfield 86, 3) := by decide +kernel
theorem dX3_corner_28 : decode cX3_corner 28 = .ok (.invokestatic 54, 3) := by decide +kernel
theorem dX3_corner_31 : decode cX3_corner 31 = .ok (.aload_n 0, 1) := by decide +kernel
theorem dX3_corner_32 : decode cX3_corner 32 = .ok (.getfield 19, 3) := by decide +kernel
theorem dX3_corner_35 : decode cX3_corner 35 = .ok (.getfield 82, 3) := by decide +kernel
theorem dX3_corner_38 : decode cX3_corner 38 = .ok (.iload_n 1, 1) := by decide +kernel
theorem dX3_corner_39 : decode cX3_corner 39 = .ok (.aaload, 1) := by decide +kernel
theorem dX3_corner_40 : decode cX3_corner 40 = .ok (.getfield 102, 3) := by decide +kernel
theorem dX3_corner_43 : decode cX3_corner 43 = .ok (.iload_n 2, 1) := by decide +kernel
theorem dX3_corner_44 : decode cX3_corner 44 = .ok (.iaload, 1) := by decide +kernel
theorem dX3_corner_45 : decode cX3_corner 45 = .ok (.ireturn, 1) := by decide +kernel
set_option maxRecDepth 20000 in
theorem ggX3_edge_X3_requireHull : GoodIn wsX3_edge wsX3_requireHull := goodIn_ca (goodIn_r _ [6, 7, 8, 1, 17, 18, 19, 20, 21, 22, 23, 24, 25, 26, 27, 28, 29, 30] (by decide +kernel) (by decide +kernel)) (goodIn_sub (fun _ h => List.mem_cons_of_mem _ (List.mem_append_left _ (List.mem_append_right _ h))) (by decide +kernel))
set_option maxRecDepth 20000 in
theorem gX3_edge_X3_requireHull : GoodIn wsX3_edge (wsV RX3 79 RX3 yX3_requireHull wsX3_requireHull) := goodIn_app (goodIn_of _ (by decide +kernel)) ggX3_edge_X3_requireHull
set_option maxRecDepth 20000 in
theorem ggX3_edge_X3_requirePlace : GoodIn wsX3_edge wsX3_requirePlace := goodIn_ca (goodIn_r _ [11, 12, 13] (by decide +kernel) (by decide +kernel)) (goodIn_sub (fun _ h => List.mem_cons_of_mem _ (List.mem_append_right _ h)) (by decide +kernel))
set_option maxRecDepth 20000 in
theorem gX3_edge_X3_requirePlace : GoodIn wsX3_edge (va_wsS RX3 54 yX3_requirePlace wsX3_requirePlace) := goodIn_app (goodIn_of _ (by decide +kernel)) ggX3_edge_X3_requirePlace
set_option maxRecDepth 20000 in
theorem ggX3_edge_X3_way : GoodIn wsX3_edge wsX3_way := goodIn_r _ [16] (by decide +kernel) (by decide +kernel)
set_option maxRecDepth 20000 in
theorem gX3_edge_X3_way : GoodIn wsX3_edge (va_wsS RX3 118 yX3_way wsX3_way) := goodIn_app (goodIn_of _ (by decide +kernel)) ggX3_edge_X3_way
theorem dX3_edge_0 : decode cX3_edge 0 = .ok (.aload_n 0, 1) := by decide +kernel
theorem dX3_edge_1 : decode cX3_edge 1 = .ok (.invokevirtual 79, 3) := by decide +kernel
theorem dX3_edge_4 : decode cX3_edge 4 = .ok (.iload_n 1, 1) := by decide +kernel
theorem dX3_edge_5 : decode cX3_edge 5 = .ok (.aload_n 0, 1) := by decide +kernel
theorem dX3_edge_6 : decode cX3_edge 6 = .ok (.getfield 19, 3) := by decide +kernel
theorem dX3_edge_9 : decode cX3_edge 9 = .ok (.getfield 106, 3) := by decide +kernel
theorem dX3_edge_12 : decode cX3_edge 12 = .ok (.invokestatic 54, 3) := by decide +kernel
theorem dX3_edge_15 : decode cX3_edge 15 = .ok (.iload_n 2, 1) := by decide +kernel
theorem dX3_edge_16 : decode cX3_edge 16 = .ok (.iconst 4, 1) := by decide +kernel
theorem dX3_edge_17 : decode cX3_edge 17 = .ok (.invokestatic 54, 3) := by decide +kernel
theorem dX3_edge_20 : decode cX3_edge 20 = .ok (.aload_n 0, 1) := by decide +kernel
theorem dX3_edge_21 : decode cX3_edge 21 = .ok (.getfield 19, 3) := by decide +kernel
theorem dX3_edge_24 : decode cX3_edge 24 = .ok (.getfield 109, 3) := by decide +kernel
theorem dX3_edge_27 : decode cX3_edge 27 = .ok (.iload_n 1, 1) := by decide +kernel
theorem dX3_edge_28 : decode cX3_edge 28 = .ok (.iaload, 1) := by decide +kernel
theorem dX3_edge_29 : decode cX3_edge 29 = .ok (.istore_n 3, 1) := by decide +kernel
theorem dX3_edge_30 : decode cX3_edge 30 = .ok (.aload_n 0, 1) := by decide +kernel
theorem dX3_edge_31 : decode cX3_edge 31 = .ok (.getfield 19, 3) := by decide +kernel
theorem dX3_edge_34 : decode cX3_edge 34 = .ok (.getfield 112, 3) := by decide +kernel
theorem dX3_edge_37 : decode cX3_edge 37 = .ok (.iload_n 1, 1) := by decide +kernel
theorem dX3_edge_38 : decode cX3_edge 38 = .ok (.iaload, 1) := by decide +kernel
theorem dX3_edge_39 : decode cX3_edge 39 = .ok (.istore 4, 2) := by decide +kernel
theorem dX3_edge_41 : decode cX3_edge 41 = .ok (.iload_n 2, 1) := by decide +kernel
theorem dX3_edge_42 : decode cX3_edge 42 = .ok (.tableswitch 46 0 2 #[26, 28, 31], 26) := by decide +kernel
theorem dX3_edge_68 : decode cX3_edge 68 = .ok (.iload_n 3, 1) := by decide +kernel
theorem dX3_edge_69 : decode cX3_edge 69 = .ok (.ireturn, 1) := by decide +kernel
theorem dX3_edge_70 : decode cX3_edge 70 = .ok (.iload 4, 2) := by decide +kernel
theorem dX3_edge_72 : decode cX3_edge 72 = .ok (.ireturn, 1) := by decide +kernel
theorem dX3_edge_73 : decode cX3_edge 73 = .ok (.aload_n 0, 1) := by decide +kernel
theorem dX3_edge_74 : decode cX3_edge 74 = .ok (.getfield 19, 3) := by decide +kernel
theorem dX3_edge_77 : decode cX3_edge 77 = .ok (.getfield 115, 3) := by decide +kernel
theorem dX3_edge_80 : decode cX3_edge 80 = .ok (.iload_n 3, 1) := by decide +kernel
theorem dX3_edge_81 : decode cX3_edge 81 = .ok (.iload 4, 2) := by decide +kernel
theorem dX3_edge_83 : decode cX3_edge 83 = .ok (.invokestatic 118, 3) := by decide +kernel
theorem dX3_edge_86 : decode cX3_edge 86 = .ok (.iaload, 1) := by decide +kernel
theorem dX3_edge_87 : decode cX3_edge 87 = .ok (.ireturn, 1) := by decide +kernel
theorem dX3_edge_88 : decode cX3_edge 88 = .ok (.aload_n 0, 1) := by decide +kernel
theorem dX3_edge_89 : decode cX3_edge 89 = .ok (.getfield 19, 3) := by decide +kernel
theorem dX3_edge_92 : decode cX3_edge 92 = .ok (.getfield 115, 3) := by decide +kernel
theorem dX3_edge_95 : decode cX3_edge 95 = .ok (.iload 4, 2) := by decide +kernel
theorem dX3_edge_97 : decode cX3_edge 97 = .ok (.iload_n 3, 1) := by decide +kernel
theorem dX3_edge_98 : decode cX3_edge 98 = .ok (.invokestatic 118, 3) := by decide +kernel
theorem dX3_edge_101 : decode cX3_edge 101 = .ok (.iaload, 1) := by decide +kernel
theorem dX3_edge_102 : decode cX3_edge 102 = .ok (.ireturn, 1) := by decide +kernel
set_option maxRecDepth 20000 in
theorem ggX3_support_X3_requireHull : GoodIn wsX3_support wsX3_requireHull := goodIn_ca (goodIn_r _ [7, 8, 9, 2, 26, 27, 28, 29, 30, 31, 32, 33, 34, 35, 36, 37, 38, 39] (by decide +kernel) (by decide +kernel)) (goodIn_sub (fun _ h => List.mem_cons_of_mem _ (List.mem_append_left _ (List.mem_append_right _ h))) (by decide +kernel))
set_option maxRecDepth 20000 in
theorem gX3_support_X3_requireHull : GoodIn wsX3_support (wsV RX3 79 RX3 yX3_requireHull wsX3_requireHull) := goodIn_app (goodIn_of _ (by decide +kernel)) ggX3_support_X3_requireHull
set_option maxRecDepth 20000 in
theorem ggX3_support_X3_requireReach : GoodIn wsX3_support wsX3_requireReach := goodIn_ca (goodIn_r _ [12, 13, 14, 15, 16, 6, 17] (by decide +kernel) (by decide +kernel)) (goodIn_sub (fun _ h => List.mem_cons_of_mem _ (List.mem_append_right _ h)) (by decide +kernel))
set_option maxRecDepth 20000 in
theorem gX3_support_X3_requireReach : GoodIn wsX3_support (va_wsS RX3 27 yX3_requireReach wsX3_requireReach) := goodIn_app (goodIn_of _ (by decide +kernel)) ggX3_support_X3_requireReach
set_option maxRecDepth 20000 in
theorem ggX3_support_X1_furthest : GoodIn wsX3_support wsX1_furthest := goodIn_r _ [21, 22, 23, 24, 6, 25, 29, 30, 31, 32, 33, 34, 35, 36, 37, 38, 39, 40, 41, 42, 43] (by decide +kernel) (by decide +kernel)
set_option maxRecDepth 20000 in
theorem gX3_support_X1_furthest_n122 : GoodIn wsX3_support (wsX1_furthest) := ggX3_support_X1_furthest
theorem dX3_support_0 : decode cX3_support 0 = .ok (.aload_n 0, 1) := by decide +kernel
theorem dX3_support_1 : decode cX3_support 1 = .ok (.invokevirtual 79, 3) := by decide +kernel
theorem dX3_support_4 : decode cX3_support 4 = .ok (.iload_n 1, 1) := by decide +kernel
theorem dX3_support_5 : decode cX3_support 5 = .ok (.iload_n 2, 1) := by decide +kernel
theorem dX3_support_6 : decode cX3_support 6 = .ok (.iload_n 3, 1) := by decide +kernel
theorem dX3_support_7 : decode cX3_support 7 = .ok (.ldc 121, 2) := by decide +kernel
theorem dX3_support_9 : decode cX3_support 9 = .ok (.invokestatic 27, 3) := by decide +kernel
theorem dX3_support_12 : decode cX3_support 12 = .ok (.aload_n 0, 1) := by decide +kernel
theorem dX3_support_13 : decode cX3_support 13 = .ok (.getfield 19, 3) := by decide +kernel
theorem dX3_support_16 : decode cX3_support 16 = .ok (.iload_n 1, 1) := by decide +kernel
theorem dX3_support_17 : decode cX3_support 17 = .ok (.i2l, 1) := by decide +kernel
theorem dX3_support_18 : decode cX3_support 18 = .ok (.iload_n 2, 1) := by decide +kernel
theorem dX3_support_19 : decode cX3_support 19 = .ok (.i2l, 1) := by decide +kernel
theorem dX3_support_20 : decode cX3_support 20 = .ok (.iload_n 3, 1) := by decide +kernel
theorem dX3_support_21 : decode cX3_support 21 = .ok (.i2l, 1) := by decide +kernel
theorem dX3_support_22 : decode cX3_support 22 = .ok (.invokevirtual 122, 3) := by decide +kernel
theorem dX3_support_25 : decode cX3_support 25 = .ok (.ireturn, 1) := by decide +kernel
set_option maxRecDepth 20000 in
theorem ggX3_steps_X3_requireHull : GoodIn wsX3_steps wsX3_requireHull := goodIn_ca (goodIn_r _ [6, 7, 8, 1, 32, 33, 34, 35, 36, 37, 38, 39, 40, 41, 42, 43, 44, 45] (by decide +kernel) (by decide +kernel)) (goodIn_sub (fun _ h => List.mem_cons_of_mem _ (List.mem_append_left _ (List.mem_append_right _ h))) (by decide +kernel))
set_option maxRecDepth 20000 in
theorem gX3_steps_X3_requireHull : GoodIn wsX3_steps (wsV RX3 79 RX3 yX3_requireHull wsX3_requireHull) := goodIn_app (goodIn_of _ (by decide +kernel)) ggX3_steps_X3_requireHull
set_option maxRecDepth 20000 in
theorem ggX3_steps_X3_requireCorner : GoodIn wsX3_steps wsX3_requireCorner := goodIn_ca (goodIn_r _ [12, 13, 14, 1, 15, 16, 5, 17, 18, 19, 20, 32, 33, 34, 35, 36, 37, 38, 39, 40, 41, 42, 43, 44, 45] (by decide +kernel) (by decide +kernel)) (goodIn_sub (fun _ h => List.mem_cons_of_mem _ (List.mem_append_right _ h)) (by decide +kernel))
set_option maxRecDepth 20000 in
theorem gX3_steps_X3_requireCorner : GoodIn wsX3_steps (wsV RX3 126 RX3 yX3_requireCorner wsX3_requireCorner) := goodIn_app (goodIn_of _ (by decide +kernel)) ggX3_steps_X3_requireCorner
set_option maxRecDepth 20000 in
theorem ggX3_steps_X1_walk : GoodIn wsX3_steps wsX1_walk := goodIn_r _ [24, 19, 5, 20, 25, 26, 27, 22, 28, 29, 30, 31, 35, 36, 37, 38, 39, 40, 41, 42, 43, 44, 45] (by decide +kernel) (by decide +kernel)
set_option maxRecDepth 20000 in
theorem gX3_steps_X1_walk_n129 : GoodIn wsX3_steps (wsX1_walk) := ggX3_steps_X1_walk
theorem dX3_steps_0 : decode cX3_steps 0 = .ok (.aload_n 0, 1) := by decide +kernel
theorem dX3_steps_1 : decode cX3_steps 1 = .ok (.invokevirtual 79, 3) := by decide +kernel
theorem dX3_steps_4 : decode cX3_steps 4 = .ok (.aload_n 0, 1) := by decide +kernel
theorem dX3_steps_5 : decode cX3_steps 5 = .ok (.iload_n 1, 1) := by decide +kernel
theorem dX3_steps_6 : decode cX3_steps 6 = .ok (.invokevirtual 126, 3) := by decide +kernel
theorem dX3_steps_9 : decode cX3_steps 9 = .ok (.aload_n 0, 1) := by decide +kernel
theorem dX3_steps_10 : decode cX3_steps 10 = .ok (.iload_n 2, 1) := by decide +kernel
theorem dX3_steps_11 : decode cX3_steps 11 = .ok (.invokevirtual 126, 3) := by decide +kernel
theorem dX3_steps_14 : decode cX3_steps 14 = .ok (.aload_n 0, 1) := by decide +kernel
theorem dX3_steps_15 : decode cX3_steps 15 = .ok (.getfield 19, 3) := by decide +kernel
theorem dX3_steps_18 : decode cX3_steps 18 = .ok (.iload_n 1, 1) := by decide +kernel
theorem dX3_steps_19 : decode cX3_steps 19 = .ok (.iload_n 2, 1) := by decide +kernel
theorem dX3_steps_20 : decode cX3_steps 20 = .ok (.invokevirtual 129, 3) := by decide +kernel
theorem dX3_steps_23 : decode cX3_steps 23 = .ok (.ireturn, 1) := by decide +kernel
set_option maxRecDepth 20000 in
theorem ggX3_side_X3_requireHull : GoodIn wsX3_side wsX3_requireHull := goodIn_ca (goodIn_r _ [7, 8, 9, 2, 32, 33, 34, 35, 36, 37, 38, 39, 40, 41, 42, 43, 44, 45] (by decide +kernel) (by decide +kernel)) (goodIn_sub (fun _ h => List.mem_cons_of_mem _ (List.mem_append_left _ (List.mem_append_right _ h))) (by decide +kernel))
set_option maxRecDepth 20000 in
theorem gX3_side_X3_requireHull : GoodIn wsX3_side (wsV RX3 79 RX3 yX3_requireHull wsX3_requireHull) := goodIn_app (goodIn_of _ (by decide +kernel)) ggX3_side_X3_requireHull
set_option maxRecDepth 20000 in
theorem ggX3_side_X3_requireReach : GoodIn wsX3_side wsX3_requireReach := goodIn_ca (goodIn_r _ [12, 13, 14, 15, 16, 6, 17] (by decide +kernel) (by decide +kernel)) (goodIn_sub (fun _ h => List.mem_cons_of_mem _ (List.mem_append_right _ h)) (by decide +kernel))
set_option maxRecDepth 20000 in
theorem gX3_side_X3_requireReach : GoodIn wsX3_side (va_wsS RX3 27 yX3_requireReach wsX3_requireReach) := goodIn_app (goodIn_of _ (by decide +kernel)) ggX3_side_X3_requireReach
set_option maxRecDepth 20000 in
theorem ggX3_side_X1_locate : GoodIn wsX3_side wsX1_locate := goodIn_r _ [21, 22, 23, 24, 25, 26, 27, 28, 29, 30, 31, 35, 36, 37, 38, 39, 40, 41, 42, 43, 44, 45, 46, 47, 48, 49, 50, 51, 52] (by decide +kernel) (by decide +kernel)
set_option maxRecDepth 20000 in
theorem gX3_side_X1_locate_n132 : GoodIn wsX3_side (wsX1_locate) := ggX3_side_X1_locate
theorem dX3_side_0 : decode cX3_side 0 = .ok (.aload_n 0, 1) := by decide +kernel
theorem dX3_side_1 : decode cX3_side 1 = .ok (.invokevirtual 79, 3) := by decide +kernel
theorem dX3_side_4 : decode cX3_side 4 = .ok (.iload_n 1, 1) := by decide +kernel
theorem dX3_side_5 : decode cX3_side 5 = .ok (.iload_n 2, 1) := by decide +kernel
theorem dX3_side_6 : decode cX3_side 6 = .ok (.iload_n 3, 1) := by decide +kernel
theorem dX3_side_7 : decode cX3_side 7 = .ok (.ldc 121, 2) := by decide +kernel
theorem dX3_side_9 : decode cX3_side 9 = .ok (.invokestatic 27, 3) := by decide +kernel
theorem dX3_side_12 : decode cX3_side 12 = .ok (.aload_n 0, 1) := by decide +kernel
theorem dX3_side_13 : decode cX3_side 13 = .ok (.getfield 19, 3) := by decide +kernel
theorem dX3_side_16 : decode cX3_side 16 = .ok (.iload_n 1, 1) := by decide +kernel
theorem dX3_side_17 : decode cX3_side 17 = .ok (.iload_n 2, 1) := by decide +kernel
theorem dX3_side_18 : decode cX3_side 18 = .ok (.iload_n 3, 1) := by decide +kernel
theorem dX3_side_19 : decode cX3_side 19 = .ok (.invokevirtual 132, 3) := by decide +kernel
theorem dX3_side_22 : decode cX3_side 22 = .ok (.ireturn, 1) := by decide +kernel
set_option maxRecDepth 20000 in
theorem ggX3_volume_X3_requireHull : GoodIn wsX3_volume wsX3_requireHull := goodIn_ca (goodIn_r _ [6, 7, 8, 1, 9, 10, 11, 12, 13, 14, 15, 16, 17, 18, 19, 20, 21, 22] (by decide +kernel) (by decide +kernel)) (goodIn_sub (fun _ h => List.mem_cons_of_mem _ (List.mem_append_right _ h)) (by decide +kernel))
set_option maxRecDepth 20000 in
theorem gX3_volume_X3_requireHull : GoodIn wsX3_volume (wsV RX3 79 RX3 yX3_requireHull wsX3_requireHull) := goodIn_app (goodIn_of _ (by decide +kernel)) ggX3_volume_X3_requireHull
theorem dX3_volume_0 : decode cX3_volume 0 = .ok (.aload_n 0, 1) := by decide +kernel
theorem dX3_volume_1 : decode cX3_volume 1 = .ok (.invokevirtual 79, 3) := by decide +kernel
theorem dX3_volume_4 : decode cX3_volume 4 = .ok (.aload_n 0, 1) := by decide +kernel
theorem dX3_volume_5 : decode cX3_volume 5 = .ok (.getfield 19, 3) := by decide +kernel
theorem dX3_volume_8 : decode cX3_volume 8 = .ok (.getfield 135, 3) := by decide +kernel
theorem dX3_volume_11 : decode cX3_volume 11 = .ok (.lreturn, 1) := by decide +kernel
set_option maxRecDepth 20000 in
theorem ggX3_centre_X3_requireHull : GoodIn wsX3_centre wsX3_requireHull := goodIn_ca (goodIn_r _ [6, 7, 8, 1, 14, 15, 16, 17, 18, 19, 20, 21, 22, 23, 24, 25, 26, 27] (by decide +kernel) (by decide +kernel)) (goodIn_sub (fun _ h => List.mem_cons_of_mem _ (List.mem_append_left _ (List.mem_append_right _ h))) (by decide +kernel))
set_option maxRecDepth 20000 in
theorem gX3_centre_X3_requireHull : GoodIn wsX3_centre (wsV RX3 79 RX3 yX3_requireHull wsX3_requireHull) := goodIn_app (goodIn_of _ (by decide +kernel)) ggX3_centre_X3_requireHull
set_option maxRecDepth 20000 in
theorem ggX3_centre_X3_requirePlace : GoodIn wsX3_centre wsX3_requirePlace := goodIn_ca (goodIn_r _ [11, 12, 13] (by decide +kernel) (by decide +kernel)) (goodIn_sub (fun _ h => List.mem_cons_of_mem _ (List.mem_append_right _ h)) (by decide +kernel))
set_option maxRecDepth 20000 in
theorem gX3_centre_X3_requirePlace : GoodIn wsX3_centre (va_wsS RX3 54 yX3_requirePlace wsX3_requirePlace) := goodIn_app (goodIn_of _ (by decide +kernel)) ggX3_centre_X3_requirePlace
theorem dX3_centre_0 : decode cX3_centre 0 = .ok (.aload_n 0, 1) := by decide +kernel
theorem dX3_centre_1 : decode cX3_centre 1 = .ok (.invokevirtual 79, 3) := by decide +kernel
theorem dX3_centre_4 : decode cX3_centre 4 = .ok (.iload_n 1, 1) := by decide +kernel
theorem dX3_centre_5 : decode cX3_centre 5 = .ok (.iconst 3, 1) := by decide +kernel
theorem dX3_centre_6 : decode cX3_centre 6 = .ok (.invokestatic 54, 3) := by decide +kernel
theorem dX3_centre_9 : decode cX3_centre 9 = .ok (.aload_n 0, 1) := by decide +kernel
theorem dX3_centre_10 : decode cX3_centre 10 = .ok (.getfield 19, 3) := by decide +kernel
theorem dX3_centre_13 : decode cX3_centre 13 = .ok (.getfield 138, 3) := by decide +kernel
theorem dX3_centre_16 : decode cX3_centre 16 = .ok (.iload_n 1, 1) := by decide +kernel
theorem dX3_centre_17 : decode cX3_centre 17 = .ok (.laload, 1) := by decide +kernel
theorem dX3_centre_18 : decode cX3_centre 18 = .ok (.lreturn, 1) := by decide +kernel
set_option maxRecDepth 20000 in
theorem ggX3_middle_X3_requireHull : GoodIn wsX3_middle wsX3_requireHull := goodIn_ca (goodIn_r _ [7, 8, 9, 2, 15, 16, 17, 18, 19, 20, 21, 22, 23, 24, 25, 26, 27, 28] (by decide +kernel) (by decide +kernel)) (goodIn_sub (fun _ h => List.mem_cons_of_mem _ (List.mem_append_left _ (List.mem_append_right _ h))) (by decide +kernel))
set_option maxRecDepth 20000 in
theorem gX3_middle_X3_requireHull : GoodIn wsX3_middle (wsV RX3 79 RX3 yX3_requireHull wsX3_requireHull) := goodIn_app (goodIn_of _ (by decide +kernel)) ggX3_middle_X3_requireHull
set_option maxRecDepth 20000 in
theorem ggX3_middle_X3_requirePlace : GoodIn wsX3_middle wsX3_requirePlace := goodIn_ca (goodIn_r _ [12, 13, 14] (by decide +kernel) (by decide +kernel)) (goodIn_sub (fun _ h => List.mem_cons_of_mem _ (List.mem_append_right _ h)) (by decide +kernel))
set_option maxRecDepth 20000 in
theorem gX3_middle_X3_requirePlace : GoodIn wsX3_middle (va_wsS RX3 54 yX3_requirePlace wsX3_requirePlace) := goodIn_app (goodIn_of _ (by decide +kernel)) ggX3_middle_X3_requirePlace
theorem dX3_middle_0 : decode cX3_middle 0 = .ok (.aload_n 0, 1) := by decide +kernel
theorem dX3_middle_1 : decode cX3_middle 1 = .ok (.invokevirtual 79, 3) := by decide +kernel
theorem dX3_middle_4 : decode cX3_middle 4 = .ok (.iload_n 1, 1) := by decide +kernel
theorem dX3_middle_5 : decode cX3_middle 5 = .ok (.iconst 3, 1) := by decide +kernel
theorem dX3_middle_6 : decode cX3_middle 6 = .ok (.invokestatic 54, 3) := by decide +kernel
theorem dX3_middle_9 : decode cX3_middle 9 = .ok (.ldc2_w 142, 3) := by decide +kernel
theorem dX3_middle_12 : decode cX3_middle 12 = .ok (.aload_n 0, 1) := by decide +kernel
theorem dX3_middle_13 : decode cX3_middle 13 = .ok (.getfield 19, 3) := by decide +kernel
theorem dX3_middle_16 : decode cX3_middle 16 = .ok (.getfield 135, 3) := by decide +kernel
theorem dX3_middle_19 : decode cX3_middle 19 = .ok (.l2d, 1) := by decide +kernel
theorem dX3_middle_20 : decode cX3_middle 20 = .ok (.dmul, 1) := by decide +kernel
theorem dX3_middle_21 : decode cX3_middle 21 = .ok (.dstore_n 2, 1) := by decide +kernel
theorem dX3_middle_22 : decode cX3_middle 22 = .ok (.dload_n 2, 1) := by decide +kernel
theorem dX3_middle_23 : decode cX3_middle 23 = .ok (.dconst 0, 1) := by decide +kernel
theorem dX3_middle_24 : decode cX3_middle 24 = .ok (.dcmp .l, 1) := by decide +kernel
theorem dX3_middle_25 : decode cX3_middle 25 = .ok (.ifCond .le 18, 3) := by decide +kernel
theorem dX3_middle_28 : decode cX3_middle 28 = .ok (.aload_n 0, 1) := by decide +kernel
theorem dX3_middle_29 : decode cX3_middle 29 = .ok (.getfield 19, 3) := by decide +kernel
theorem dX3_middle_32 : decode cX3_middle 32 = .ok (.getfield 138, 3) := by decide +kernel
theorem dX3_middle_35 : decode cX3_middle 35 = .ok (.iload_n 1, 1) := by decide +kernel
theorem dX3_middle_36 : decode cX3_middle 36 = .ok (.laload, 1) := by decide +kernel
theorem dX3_middle_37 : decode cX3_middle 37 = .ok (.l2d, 1) := by decide +kernel
theorem dX3_middle_38 : decode cX3_middle 38 = .ok (.dload_n 2, 1) := by decide +kernel
theorem dX3_middle_39 : decode cX3_middle 39 = .ok (.ddiv, 1) := by decide +kernel
theorem dX3_middle_40 : decode cX3_middle 40 = .ok (.goto 4, 3) := by decide +kernel
theorem dX3_middle_43 : decode cX3_middle 43 = .ok (.dconst 0, 1) := by decide +kernel
theorem dX3_middle_44 : decode cX3_middle 44 = .ok (.dreturn, 1) := by decide +kernel
set_option maxRecDepth 20000 in
theorem ggX3_count_J6_bitCount_0f7a4 : GoodIn wsX3_count wsJ6_bitCount_0f7a4 := goodIn_r _ [9, 10, 11, 12] (by decide +kernel) (by decide +kernel)
set_option maxRecDepth 20000 in
theorem gX3_count_J6_bitCount_0f7a4 : GoodIn wsX3_count (va_wsS RX3 147 yJ6_bitCount_0f7a4 wsJ6_bitCount_0f7a4) := goodIn_app (goodIn_of _ (by decide +kernel)) ggX3_count_J6_bitCount_0f7a4
theorem dX3_count_0 : decode cX3_count 0 = .ok (.iload_n 1, 1) := by decide +kernel
theorem dX3_count_1 : decode cX3_count 1 = .ok (.tableswitch 75 0 4 #[35, 43, 51, 59, 70], 35) := by decide +kernel
theorem dX3_count_36 : decode cX3_count 36 = .ok (.aload_n 0, 1) := by decide +kernel
theorem dX3_count_37 : decode cX3_count 37 = .ok (.getfield 12, 3) := by decide +kernel
theorem dX3_count_40 : decode cX3_count 40 = .ok (.getfield 42, 3) := by decide +kernel
theorem dX3_count_43 : decode cX3_count 43 = .ok (.ireturn, 1) := by decide +kernel
theorem dX3_count_44 : decode cX3_count 44 = .ok (.aload_n 0, 1) := by decide +kernel
theorem dX3_count_45 : decode cX3_count 45 = .ok (.getfield 19, 3) := by decide +kernel
theorem dX3_count_48 : decode cX3_count 48 = .ok (.getfield 72, 3) := by decide +kernel
theorem dX3_count_51 : decode cX3_count 51 = .ok (.ireturn, 1) := by decide +kernel
theorem dX3_count_52 : decode cX3_count 52 = .ok (.aload_n 0, 1) := by decide +kernel
theorem dX3_count_53 : decode cX3_count 53 = .ok (.getfield 19, 3) := by decide +kernel
theorem dX3_count_56 : decode cX3_count 56 = .ok (.getfield 106, 3) := by decide +kernel
theorem dX3_count_59 : decode cX3_count 59 = .ok (.ireturn, 1) := by decide +kernel
theorem dX3_count_60 : decode cX3_count 60 = .ok (.aload_n 0, 1) := by decide +kernel
theorem dX3_count_61 : decode cX3_count 61 = .ok (.getfield 19, 3) := by decide +kernel
theorem dX3_count_64 : decode cX3_count 64 = .ok (.getfield 144, 3) := by decide +kernel
theorem dX3_count_67 : decode cX3_count 67 = .ok (.invokestatic 147, 3) := by decide +kernel
theorem dX3_count_70 : decode cX3_count 70 = .ok (.ireturn, 1) := by decide +kernel
theorem dX3_count_71 : decode cX3_count 71 = .ok (.aload_n 0, 1) := by decide +kernel
theorem dX3_count_72 : decode cX3_count 72 = .ok (.getfield 23, 3) := by decide +kernel
theorem dX3_count_75 : decode cX3_count 75 = .ok (.ireturn, 1) := by decide +kernel
theorem dX3_count_76 : decode cX3_count 76 = .ok (.new 153, 3) := by decide +kernel
theorem dX3_count_79 : decode cX3_count 79 = .ok (.dup, 1) := by decide +kernel
theorem dX3_count_80 : decode cX3_count 80 = .ok (.ldc 155, 2) := by decide +kernel
theorem dX3_count_82 : decode cX3_count 82 = .ok (.invokespecial 157, 3) := by decide +kernel
theorem dX3_count_85 : decode cX3_count 85 = .ok (.athrow, 1) := by decide +kernel
theorem dX3_requireHull_0 : decode cX3_requireHull 0 = .ok (.aload_n 0, 1) := by decide +kernel
theorem dX3_requireHull_1 : decode cX3_requireHull 1 = .ok (.getfield 19, 3) := by decide +kernel
theorem dX3_requireHull_4 : decode cX3_requireHull 4 = .ok (.getfield 72, 3) := by decide +kernel
theorem dX3_requireHull_7 : decode cX3_requireHull 7 = .ok (.ifCond .ne 13, 3) := by decide +kernel
theorem dX3_requireHull_10 : decode cX3_requireHull 10 = .ok (.new 45, 3) := by decide +kernel
theorem dX3_requireHull_13 : decode cX3_requireHull 13 = .ok (.dup, 1) := by decide +kernel
theorem dX3_requireHull_14 : decode cX3_requireHull 14 = .ok (.ldc 158, 2) := by decide +kernel
theorem dX3_requireHull_16 : decode cX3_requireHull 16 = .ok (.invokespecial 49, 3) := by decide +kernel
theorem dX3_requireHull_19 : decode cX3_requireHull 19 = .ok (.athrow, 1) := by decide +kernel
theorem dX3_requireHull_20 : decode cX3_requireHull 20 = .ok (.return_, 1) := by decide +kernel
set_option maxRecDepth 20000 in
theorem ggX3_requireCorner_X3_requirePlace : GoodIn wsX3_requireCorner wsX3_requirePlace := goodIn_ca (goodIn_r _ [7, 1, 2] (by decide +kernel) (by decide +kernel)) (goodIn_sub (fun _ h => List.mem_cons_of_mem _ (List.mem_append_right _ h)) (by decide +kernel))
set_option maxRecDepth 20000 in
theorem gX3_requireCorner_X3_requirePlace : GoodIn wsX3_requireCorner (va_wsS RX3 54 yX3_requirePlace wsX3_requirePlace) := goodIn_app (goodIn_of _ (by decide +kernel)) ggX3_requireCorner_X3_requirePlace
set_option maxRecDepth 20000 in
theorem ggX3_requireCorner_X3_holds : GoodIn wsX3_requireCorner wsX3_holds := goodIn_r _ [10] (by decide +kernel) (by decide +kernel)
set_option maxRecDepth 20000 in
theorem gX3_requireCorner_X3_holds : GoodIn wsX3_requireCorner (va_wsS RX3 160 yX3_holds wsX3_holds) := goodIn_app (goodIn_of _ (by decide +kernel)) ggX3_requireCorner_X3_holds
theorem dX3_requireCorner_0 : decode cX3_requireCorner 0 = .ok (.iload_n 1, 1) := by decide +kernel
theorem dX3_requireCorner_1 : decode cX3_requireCorner 1 = .ok (.bipush 24, 2) := by decide +kernel
theorem dX3_requireCorner_3 : decode cX3_requireCorner 3 = .ok (.invokestatic 54, 3) := by decide +kernel
theorem dX3_requireCorner_6 : decode cX3_requireCorner 6 = .ok (.aload_n 0, 1) := by decide +kernel
theorem dX3_requireCorner_7 : decode cX3_requireCorner 7 = .ok (.getfield 19, 3) := by decide +kernel
theorem dX3_requireCorner_10 : decode cX3_requireCorner 10 = .ok (.getfield 144, 3) := by decide +kernel
theorem dX3_requireCorner_13 : decode cX3_requireCorner 13 = .ok (.iload_n 1, 1) := by decide +kernel
theorem dX3_requireCorner_14 : decode cX3_requireCorner 14 = .ok (.invokestatic 160, 3) := by decide +kernel
theorem dX3_requireCorner_17 : decode cX3_requireCorner 17 = .ok (.ifCond .ne 13, 3) := by decide +kernel
theorem dX3_requireCorner_20 : decode cX3_requireCorner 20 = .ok (.new 153, 3) := by decide +kernel
theorem dX3_requireCorner_23 : decode cX3_requireCorner 23 = .ok (.dup, 1) := by decide +kernel
theorem dX3_requireCorner_24 : decode cX3_requireCorner 24 = .ok (.ldc 164, 2) := by decide +kernel
theorem dX3_requireCorner_26 : decode cX3_requireCorner 26 = .ok (.invokespecial 157, 3) := by decide +kernel
theorem dX3_requireCorner_29 : decode cX3_requireCorner 29 = .ok (.athrow, 1) := by decide +kernel
theorem dX3_requireCorner_30 : decode cX3_requireCorner 30 = .ok (.return_, 1) := by decide +kernel
theorem dX3_requirePlace_0 : decode cX3_requirePlace 0 = .ok (.iload_n 0, 1) := by decide +kernel
theorem dX3_requirePlace_1 : decode cX3_requirePlace 1 = .ok (.ifCond .lt 8, 3) := by decide +kernel
theorem dX3_requirePlace_4 : decode cX3_requirePlace 4 = .ok (.iload_n 0, 1) := by decide +kernel
theorem dX3_requirePlace_5 : decode cX3_requirePlace 5 = .ok (.iload_n 1, 1) := by decide +kernel
theorem dX3_requirePlace_6 : decode cX3_requirePlace 6 = .ok (.if_icmp .lt 13, 3) := by decide +kernel
theorem dX3_requirePlace_9 : decode cX3_requirePlace 9 = .ok (.new 153, 3) := by decide +kernel
theorem dX3_requirePlace_12 : decode cX3_requirePlace 12 = .ok (.dup, 1) := by decide +kernel
theorem dX3_requirePlace_13 : decode cX3_requirePlace 13 = .ok (.ldc 166, 2) := by decide +kernel
theorem dX3_requirePlace_15 : decode cX3_requirePlace 15 = .ok (.invokespecial 157, 3) := by decide +kernel
theorem dX3_requirePlace_18 : decode cX3_requirePlace 18 = .ok (.athrow, 1) := by decide +kernel
theorem dX3_requirePlace_19 : decode cX3_requirePlace 19 = .ok (.return_, 1) := by decide +kernel
set_option maxRecDepth 20000 in
theorem ggX3_requireReach_X3_isWithin : GoodIn wsX3_requireReach wsX3_isWithin := goodIn_r _ [6] (by decide +kernel) (by decide +kernel)
set_option maxRecDepth 20000 in
theorem gX3_requireReach_X3_isWithin : GoodIn wsX3_requireReach (va_wsS RX3 168 yX3_isWithin wsX3_isWithin) := goodIn_app (goodIn_of _ (by decide +kernel)) ggX3_requireReach_X3_isWithin
theorem dX3_requireReach_0 : decode cX3_requireReach 0 = .ok (.iload_n 0, 1) := by decide +kernel
theorem dX3_requireReach_1 : decode cX3_requireReach 1 = .ok (.iload_n 3, 1) := by decide +kernel
theorem dX3_requireReach_2 : decode cX3_requireReach 2 = .ok (.invokestatic 168, 3) := by decide +kernel
theorem dX3_requireReach_5 : decode cX3_requireReach 5 = .ok (.ifCond .eq 19, 3) := by decide +kernel
theorem dX3_requireReach_8 : decode cX3_requireReach 8 = .ok (.iload_n 1, 1) := by decide +kernel
theorem dX3_requireReach_9 : decode cX3_requireReach 9 = .ok (.iload_n 3, 1) := by decide +kernel
theorem dX3_requireReach_10 : decode cX3_requireReach 10 = .ok (.invokestatic 168, 3) := by decide +kernel
theorem dX3_requireReach_13 : decode cX3_requireReach 13 = .ok (.ifCond .eq 11, 3) := by decide +kernel
theorem dX3_requireReach_16 : decode cX3_requireReach 16 = .ok (.iload_n 2, 1) := by decide +kernel
theorem dX3_requireReach_17 : decode cX3_requireReach 17 = .ok (.iload_n 3, 1) := by decide +kernel
theorem dX3_requireReach_18 : decode cX3_requireReach 18 = .ok (.invokestatic 168, 3) := by decide +kernel
theorem dX3_requireReach_21 : decode cX3_requireReach 21 = .ok (.ifCond .ne 13, 3) := by decide +kernel
theorem dX3_requireReach_24 : decode cX3_requireReach 24 = .ok (.new 35, 3) := by decide +kernel
theorem dX3_requireReach_27 : decode cX3_requireReach 27 = .ok (.dup, 1) := by decide +kernel
theorem dX3_requireReach_28 : decode cX3_requireReach 28 = .ok (.ldc 171, 2) := by decide +kernel
theorem dX3_requireReach_30 : decode cX3_requireReach 30 = .ok (.invokespecial 39, 3) := by decide +kernel
theorem dX3_requireReach_33 : decode cX3_requireReach 33 = .ok (.athrow, 1) := by decide +kernel
theorem dX3_requireReach_34 : decode cX3_requireReach 34 = .ok (.return_, 1) := by decide +kernel
theorem dX3_isWithin_0 : decode cX3_isWithin 0 = .ok (.iload_n 0, 1) := by decide +kernel
theorem dX3_isWithin_1 : decode cX3_isWithin 1 = .ok (.iload_n 1, 1) := by decide +kernel
theorem dX3_isWithin_2 : decode cX3_isWithin 2 = .ok (.ineg, 1) := by decide +kernel
theorem dX3_isWithin_3 : decode cX3_isWithin 3 = .ok (.if_icmp .lt 12, 3) := by decide +kernel
theorem dX3_isWithin_6 : decode cX3_isWithin 6 = .ok (.iload_n 0, 1) := by decide +kernel
theorem dX3_isWithin_7 : decode cX3_isWithin 7 = .ok (.iload_n 1, 1) := by decide +kernel
theorem dX3_isWithin_8 : decode cX3_isWithin 8 = .ok (.if_icmp .gt 7, 3) := by decide +kernel
theorem dX3_isWithin_11 : decode cX3_isWithin 11 = .ok (.iconst 1, 1) := by decide +kernel
theorem dX3_isWithin_12 : decode cX3_isWithin 12 = .ok (.goto 4, 3) := by decide +kernel
theorem dX3_isWithin_15 : decode cX3_isWithin 15 = .ok (.iconst 0, 1) := by decide +kernel
theorem dX3_isWithin_16 : decode cX3_isWithin 16 = .ok (.ireturn, 1) := by decide +kernel
theorem dX3_holds_0 : decode cX3_holds 0 = .ok (.iload_n 0, 1) := by decide +kernel
theorem dX3_holds_1 : decode cX3_holds 1 = .ok (.iconst 1, 1) := by decide +kernel
theorem dX3_holds_2 : decode cX3_holds 2 = .ok (.iload_n 1, 1) := by decide +kernel
theorem dX3_holds_3 : decode cX3_holds 3 = .ok (.ishl, 1) := by decide +kernel
theorem dX3_holds_4 : decode cX3_holds 4 = .ok (.iand, 1) := by decide +kernel
theorem dX3_holds_5 : decode cX3_holds 5 = .ok (.ifCond .eq 7, 3) := by decide +kernel
theorem dX3_holds_8 : decode cX3_holds 8 = .ok (.iconst 1, 1) := by decide +kernel
theorem dX3_holds_9 : decode cX3_holds 9 = .ok (.goto 4, 3) := by decide +kernel
theorem dX3_holds_12 : decode cX3_holds 12 = .ok (.iconst 0, 1) := by decide +kernel
theorem dX3_holds_13 : decode cX3_holds 13 = .ok (.ireturn, 1) := by decide +kernel
theorem dX3_way_0 : decode cX3_way 0 = .ok (.iload_n 0, 1) := by decide +kernel
theorem dX3_way_1 : decode cX3_way 1 = .ok (.bipush 24, 2) := by decide +kernel
theorem dX3_way_3 : decode cX3_way 3 = .ok (.imul, 1) := by decide +kernel
theorem dX3_way_4 : decode cX3_way 4 = .ok (.iload_n 1, 1) := by decide +kernel
theorem dX3_way_5 : decode cX3_way 5 = .ok (.iadd, 1) := by decide +kernel
theorem dX3_way_6 : decode cX3_way 6 = .ok (.ireturn, 1) := by decide +kernel
theorem dX3_across_0 : decode cX3_across 0 = .ok (.aload_n 0, 1) := by decide +kernel
theorem dX3_across_1 : decode cX3_across 1 = .ok (.iload_n 3, 1) := by decide +kernel
theorem dX3_across_2 : decode cX3_across 2 = .ok (.iaload, 1) := by decide +kernel
theorem dX3_across_3 : decode cX3_across 3 = .ok (.aload_n 0, 1) := by decide +kernel
theorem dX3_across_4 : decode cX3_across 4 = .ok (.iload_n 2, 1) := by decide +kernel
theorem dX3_across_5 : decode cX3_across 5 = .ok (.iaload, 1) := by decide +kernel
theorem dX3_across_6 : decode cX3_across 6 = .ok (.isub, 1) := by decide +kernel
theorem dX3_across_7 : decode cX3_across 7 = .ok (.i2l, 1) := by decide +kernel
theorem dX3_across_8 : decode cX3_across 8 = .ok (.aload_n 1, 1) := by decide +kernel
theorem dX3_across_9 : decode cX3_across 9 = .ok (.iload 4, 2) := by decide +kernel
theorem dX3_across_11 : decode cX3_across 11 = .ok (.iaload, 1) := by decide +kernel
theorem dX3_across_12 : decode cX3_across 12 = .ok (.aload_n 1, 1) := by decide +kernel
theorem dX3_across_13 : decode cX3_across 13 = .ok (.iload_n 2, 1) := by decide +kernel
theorem dX3_across_14 : decode cX3_across 14 = .ok (.iaload, 1) := by decide +kernel
theorem dX3_across_15 : decode cX3_across 15 = .ok (.isub, 1) := by decide +kernel
theorem dX3_across_16 : decode cX3_across 16 = .ok (.i2l, 1) := by decide +kernel
theorem dX3_across_17 : decode cX3_across 17 = .ok (.lmul, 1) := by decide +kernel
theorem dX3_across_18 : decode cX3_across 18 = .ok (.aload_n 1, 1) := by decide +kernel
theorem dX3_across_19 : decode cX3_across 19 = .ok (.iload_n 3, 1) := by decide +kernel
theorem dX3_across_20 : decode cX3_across 20 = .ok (.iaload, 1) := by decide +kernel
theorem dX3_across_21 : decode cX3_across 21 = .ok (.aload_n 1, 1) := by decide +kernel
theorem dX3_across_22 : decode cX3_across 22 = .ok (.iload_n 2, 1) := by decide +kernel
theorem dX3_across_23 : decode cX3_across 23 = .ok (.iaload, 1) := by decide +kernel
theorem dX3_across_24 : decode cX3_across 24 = .ok (.isub, 1) := by decide +kernel
theorem dX3_across_25 : decode cX3_across 25 = .ok (.i2l, 1) := by decide +kernel
theorem dX3_across_26 : decode cX3_across 26 = .ok (.aload_n 0, 1) := by decide +kernel
theorem dX3_across_27 : decode cX3_across 27 = .ok (.iload 4, 2) := by decide +kernel
theorem dX3_across_29 : decode cX3_across 29 = .ok (.iaload, 1) := by decide +kernel
theorem dX3_across_30 : decode cX3_across 30 = .ok (.aload_n 0, 1) := by decide +kernel
theorem dX3_across_31 : decode cX3_across 31 = .ok (.iload_n 2, 1) := by decide +kernel
theorem dX3_across_32 : decode cX3_across 32 = .ok (.iaload, 1) := by decide +kernel
theorem dX3_across_33 : decode cX3_across 33 = .ok (.isub, 1) := by decide +kernel
theorem dX3_across_34 : decode cX3_across 34 = .ok (.i2l, 1) := by decide +kernel
theorem dX3_across_35 : decode cX3_across 35 = .ok (.lmul, 1) := by decide +kernel
theorem dX3_across_36 : decode cX3_across 36 = .ok (.lsub, 1) := by decide +kernel
theorem dX3_across_37 : decode cX3_across 37 = .ok (.lreturn, 1) := by decide +kernel
theorem dX3_commonFactor_0 : decode cX3_commonFactor 0 = .ok (.iconst 0, 1) := by decide +kernel
theorem dX3_commonFactor_1 : decode cX3_commonFactor 1 = .ok (.istore 4, 2) := by decide +kernel
theorem dX3_commonFactor_3 : decode cX3_commonFactor 3 = .ok (.iload 4, 2) := by decide +kernel
theorem dX3_commonFactor_5 : decode cX3_commonFactor 5 = .ok (.bipush 64, 2) := by decide +kernel
theorem dX3_commonFactor_7 : decode cX3_commonFactor 7 = .ok (.if_icmp .ge 25, 3) := by decide +kernel
theorem dX3_commonFactor_10 : decode cX3_commonFactor 10 = .ok (.lload_n 2, 1) := by decide +kernel
theorem dX3_commonFactor_11 : decode cX3_commonFactor 11 = .ok (.lconst 0, 1) := by decide +kernel
theorem dX3_commonFactor_12 : decode cX3_commonFactor 12 = .ok (.lcmp, 1) := by decide +kernel
theorem dX3_commonFactor_13 : decode cX3_commonFactor 13 = .ok (.ifCond .eq 19, 3) := by decide +kernel
theorem dX3_commonFactor_16 : decode cX3_commonFactor 16 = .ok (.lload_n 0, 1) := by decide +kernel
theorem dX3_commonFactor_17 : decode cX3_commonFactor 17 = .ok (.lload_n 2, 1) := by decide +kernel
theorem dX3_commonFactor_18 : decode cX3_commonFactor 18 = .ok (.lrem, 1) := by decide +kernel
theorem dX3_commonFactor_19 : decode cX3_commonFactor 19 = .ok (.lstore 5, 2) := by decide +kernel
theorem dX3_commonFactor_21 : decode cX3_commonFactor 21 = .ok (.lload_n 2, 1) := by decide +kernel
theorem dX3_commonFactor_22 : decode cX3_commonFactor 22 = .ok (.lstore_n 0, 1) := by decide +kernel
theorem dX3_commonFactor_23 : decode cX3_commonFactor 23 = .ok (.lload 5, 2) := by decide +kernel
theorem dX3_commonFactor_25 : decode cX3_commonFactor 25 = .ok (.lstore_n 2, 1) := by decide +kernel
theorem dX3_commonFactor_26 : decode cX3_commonFactor 26 = .ok (.iinc 4 1, 3) := by decide +kernel
theorem dX3_commonFactor_29 : decode cX3_commonFactor 29 = .ok (.goto (-26), 3) := by decide +kernel
theorem dX3_commonFactor_32 : decode cX3_commonFactor 32 = .ok (.lload_n 0, 1) := by decide +kernel
theorem dX3_commonFactor_33 : decode cX3_commonFactor 33 = .ok (.lconst 0, 1) := by decide +kernel
theorem dX3_commonFactor_34 : decode cX3_commonFactor 34 = .ok (.lcmp, 1) := by decide +kernel
theorem dX3_commonFactor_35 : decode cX3_commonFactor 35 = .ok (.ifCond .ge 8, 3) := by decide +kernel
theorem dX3_commonFactor_38 : decode cX3_commonFactor 38 = .ok (.lload_n 0, 1) := by decide +kernel
theorem dX3_commonFactor_39 : decode cX3_commonFactor 39 = .ok (.lneg, 1) := by decide +kernel
theorem dX3_commonFactor_40 : decode cX3_commonFactor 40 = .ok (.goto 4, 3) := by decide +kernel
theorem dX3_commonFactor_43 : decode cX3_commonFactor 43 = .ok (.lload_n 0, 1) := by decide +kernel
theorem dX3_commonFactor_44 : decode cX3_commonFactor 44 = .ok (.lreturn, 1) := by decide +kernel
theorem dX4_init_0 : decode cX4_init 0 = .ok (.aload_n 0, 1) := by decide +kernel
theorem dX4_init_1 : decode cX4_init 1 = .ok (.invokespecial 1, 3) := by decide +kernel
theorem dX4_init_4 : decode cX4_init 4 = .ok (.aload_n 0, 1) := by decide +kernel
theorem dX4_init_5 : decode cX4_init 5 = .ok (.bipush 24, 2) := by decide +kernel
theorem dX4_init_7 : decode cX4_init 7 = .ok (.newarray .int, 2) := by decide +kernel
theorem dX4_init_9 : decode cX4_init 9 = .ok (.putfield 7, 3) := by decide +kernel
theorem dX4_init_12 : decode cX4_init 12 = .ok (.aload_n 0, 1) := by decide +kernel
theorem dX4_init_13 : decode cX4_init 13 = .ok (.bipush 24, 2) := by decide +kernel
theorem dX4_init_15 : decode cX4_init 15 = .ok (.newarray .int, 2) := by decide +kernel
theorem dX4_init_17 : decode cX4_init 17 = .ok (.putfield 13, 3) := by decide +kernel
theorem dX4_init_20 : decode cX4_init 20 = .ok (.aload_n 0, 1) := by decide +kernel
theorem dX4_init_21 : decode cX4_init 21 = .ok (.bipush 24, 2) := by decide +kernel
theorem dX4_init_23 : decode cX4_init 23 = .ok (.newarray .int, 2) := by decide +kernel
theorem dX4_init_25 : decode cX4_init 25 = .ok (.putfield 16, 3) := by decide +kernel
theorem dX4_init_28 : decode cX4_init 28 = .ok (.aload_n 0, 1) := by decide +kernel
theorem dX4_init_29 : decode cX4_init 29 = .ok (.bipush 24, 2) := by decide +kernel
theorem dX4_init_31 : decode cX4_init 31 = .ok (.newarray .long, 2) := by decide +kernel
theorem dX4_init_33 : decode cX4_init 33 = .ok (.putfield 19, 3) := by decide +kernel
theorem dX4_init_36 : decode cX4_init 36 = .ok (.aload_n 0, 1) := by decide +kernel
theorem dX4_init_37 : decode cX4_init 37 = .ok (.bipush 24, 2) := by decide +kernel
theorem dX4_init_39 : decode cX4_init 39 = .ok (.newarray .long, 2) := by decide +kernel
theorem dX4_init_41 : decode cX4_init 41 = .ok (.putfield 23, 3) := by decide +kernel
theorem dX4_init_44 : decode cX4_init 44 = .ok (.aload_n 0, 1) := by decide +kernel
theorem dX4_init_45 : decode cX4_init 45 = .ok (.bipush 24, 2) := by decide +kernel
theorem dX4_init_47 : decode cX4_init 47 = .ok (.newarray .long, 2) := by decide +kernel
theorem dX4_init_49 : decode cX4_init 49 = .ok (.putfield 26, 3) := by decide +kernel
theorem dX4_init_52 : decode cX4_init 52 = .ok (.aload_n 0, 1) := by decide +kernel
theorem dX4_init_53 : decode cX4_init 53 = .ok (.bipush 64, 2) := by decide +kernel
theorem dX4_init_55 : decode cX4_init 55 = .ok (.newarray .long, 2) := by decide +kernel
theorem dX4_init_57 : decode cX4_init 57 = .ok (.putfield 29, 3) := by decide +kernel
theorem dX4_init_60 : decode cX4_init 60 = .ok (.aload_n 0, 1) := by decide +kernel
theorem dX4_init_61 : decode cX4_init 61 = .ok (.bipush 64, 2) := by decide +kernel
theorem dX4_init_63 : decode cX4_init 63 = .ok (.newarray .long, 2) := by decide +kernel
theorem dX4_init_65 : decode cX4_init 65 = .ok (.putfield 32, 3) := by decide +kernel
theorem dX4_init_68 : decode cX4_init 68 = .ok (.aload_n 0, 1) := by decide +kernel
theorem dX4_init_69 : decode cX4_init 69 = .ok (.bipush 64, 2) := by decide +kernel
theorem dX4_init_71 : decode cX4_init 71 = .ok (.newarray .long, 2) := by decide +kernel
theorem dX4_init_73 : decode cX4_init 73 = .ok (.putfield 35, 3) := by decide +kernel
theorem dX4_init_76 : decode cX4_init 76 = .ok (.aload_n 0, 1) := by decide +kernel
theorem dX4_init_77 : decode cX4_init 77 = .ok (.bipush 64, 2) := by decide +kernel
theorem dX4_init_79 : decode cX4_init 79 = .ok (.newarray .long, 2) := by decide +kernel
theorem dX4_init_81 : decode cX4_init 81 = .ok (.putfield 38, 3) := by decide +kernel
theorem dX4_init_84 : decode cX4_init 84 = .ok (.aload_n 0, 1) := by decide +kernel
theorem dX4_init_85 : decode cX4_init 85 = .ok (.bipush 64, 2) := by decide +kernel
theorem dX4_init_87 : decode cX4_init 87 = .ok (.newarray .int, 2) := by decide +kernel
theorem dX4_init_89 : decode cX4_init 89 = .ok (.putfield 41, 3) := by decide +kernel
theorem dX4_init_92 : decode cX4_init 92 = .ok (.aload_n 0, 1) := by decide +kernel
theorem dX4_init_93 : decode cX4_init 93 = .ok (.sipush 1536, 3) := by decide +kernel
theorem dX4_init_96 : decode cX4_init 96 = .ok (.newarray .int, 2) := by decide +kernel
theorem dX4_init_98 : decode cX4_init 98 = .ok (.putfield 44, 3) := by decide +kernel
theorem dX4_init_101 : decode cX4_init 101 = .ok (.aload_n 0, 1) := by decide +kernel
theorem dX4_init_102 : decode cX4_init 102 = .ok (.bipush 64, 2) := by decide +kernel
theorem dX4_init_104 : decode cX4_init 104 = .ok (.newarray .int, 2) := by decide +kernel
theorem dX4_init_106 : decode cX4_init 106 = .ok (.putfield 47, 3) := by decide +kernel
theorem dX4_init_109 : decode cX4_init 109 = .ok (.aload_n 0, 1) := by decide +kernel
theorem dX4_init_110 : decode cX4_init 110 = .ok (.sipush 128, 3) := by decide +kernel
theorem dX4_init_113 : decode cX4_init 113 = .ok (.newarray .int, 2) := by decide +kernel
theorem dX4_init_115 : decode cX4_init 115 = .ok (.putfield 50, 3) := by decide +kernel
theorem dX4_init_118 : decode cX4_init 118 = .ok (.aload_n 0, 1) := by decide +kernel
theorem dX4_init_119 : decode cX4_init 119 = .ok (.sipush 128, 3) := by decide +kernel
theorem dX4_init_122 : decode cX4_init 122 = .ok (.newarray .int, 2) := by decide +kernel
theorem dX4_init_124 : decode cX4_init 124 = .ok (.putfield 53, 3) := by decide +kernel
theorem dX4_init_127 : decode cX4_init 127 = .ok (.aload_n 0, 1) := by decide +kernel
theorem dX4_init_128 : decode cX4_init 128 = .ok (.sipush 128, 3) := by decide +kernel
theorem dX4_init_131 : decode cX4_init 131 = .ok (.newarray .int, 2) := by decide +kernel
theorem dX4_init_133 : decode cX4_init 133 = .ok (.putfield 56, 3) := by decide +kernel
theorem dX4_init_136 : decode cX4_init 136 = .ok (.aload_n 0, 1) := by decide +kernel
theorem dX4_init_137 : decode cX4_init 137 = .ok (.bipush 24, 2) := by decide +kernel
theorem dX4_init_139 : decode cX4_init 139 = .ok (.newarray .int, 2) := by decide +kernel
theorem dX4_init_141 : decode cX4_init 141 = .ok (.putfield 59, 3) := by decide +kernel
theorem dX4_init_144 : decode cX4_init 144 = .ok (.return_, 1) := by decide +kernel
theorem dX4_thrown_0 : decode cX4_thrown 0 = .ok (.aload_n 0, 1) := by decide +kernel
theorem dX4_thrown_1 : decode cX4_thrown 1 = .ok (.getfield 62, 3) := by decide +kernel
theorem dX4_thrown_4 : decode cX4_thrown 4 = .ok (.ireturn, 1) := by decide +kernel
theorem dX4_goes_0 : decode cX4_goes 0 = .ok (.aload_n 0, 1) := by decide +kernel
theorem dX4_goes_1 : decode cX4_goes 1 = .ok (.iload_n 1, 1) := by decide +kernel
theorem dX4_goes_2 : decode cX4_goes 2 = .ok (.ifCond .ne 7, 3) := by decide +kernel
theorem dX4_goes_5 : decode cX4_goes 5 = .ok (.iconst 1, 1) := by decide +kernel
theorem dX4_goes_6 : decode cX4_goes 6 = .ok (.goto 12, 3) := by decide +kernel
theorem dX4_goes_9 : decode cX4_goes 9 = .ok (.iload_n 2, 1) := by decide +kernel
theorem dX4_goes_10 : decode cX4_goes 10 = .ok (.ifCond .ne 7, 3) := by decide +kernel
theorem dX4_goes_13 : decode cX4_goes 13 = .ok (.iconst 2, 1) := by decide +kernel
theorem dX4_goes_14 : decode cX4_goes 14 = .ok (.goto 4, 3) := by decide +kernel
theorem dX4_goes_17 : decode cX4_goes 17 = .ok (.iconst 0, 1) := by decide +kernel
theorem dX4_goes_18 : decode cX4_goes 18 = .ok (.putfield 62, 3) := by decide +kernel
theorem dX4_goes_21 : decode cX4_goes 21 = .ok (.aload_n 0, 1) := by decide +kernel
theorem dX4_goes_22 : decode cX4_goes 22 = .ok (.getfield 62, 3) := by decide +kernel
theorem dX4_goes_25 : decode cX4_goes 25 = .ok (.ifCond .ne 7, 3) := by decide +kernel
theorem dX4_goes_28 : decode cX4_goes 28 = .ok (.iconst 1, 1) := by decide +kernel
theorem dX4_goes_29 : decode cX4_goes 29 = .ok (.goto 4, 3) := by decide +kernel
theorem dX4_goes_32 : decode cX4_goes 32 = .ok (.iconst 0, 1) := by decide +kernel
theorem dX4_goes_33 : decode cX4_goes 33 = .ok (.ireturn, 1) := by decide +kernel
theorem dX4_within_0 : decode cX4_within 0 = .ok (.iload_n 0, 1) := by decide +kernel
theorem dX4_within_1 : decode cX4_within 1 = .ok (.iload_n 1, 1) := by decide +kernel
theorem dX4_within_2 : decode cX4_within 2 = .ok (.ineg, 1) := by decide +kernel
theorem dX4_within_3 : decode cX4_within 3 = .ok (.if_icmp .lt 12, 3) := by decide +kernel
theorem dX4_within_6 : decode cX4_within 6 = .ok (.iload_n 0, 1) := by decide +kernel
theorem dX4_within_7 : decode cX4_within 7 = .ok (.iload_n 1, 1) := by decide +kernel
theorem dX4_within_8 : decode cX4_within 8 = .ok (.if_icmp .gt 7, 3) := by decide +kernel
theorem dX4_within_11 : decode cX4_within 11 = .ok (.iconst 1, 1) := by decide +kernel
theorem dX4_within_12 : decode cX4_within 12 = .ok (.goto 4, 3) := by decide +kernel
theorem dX4_within_15 : decode cX4_within 15 = .ok (.iconst 0, 1) := by decide +kernel
theorem dX4_within_16 : decode cX4_within 16 = .ok (.ireturn, 1) := by decide +kernel
theorem dX4_taken_0 : decode cX4_taken 0 = .ok (.iconst 0, 1) := by decide +kernel
theorem dX4_taken_1 : decode cX4_taken 1 = .ok (.istore 4, 2) := by decide +kernel
theorem dX4_taken_3 : decode cX4_taken 3 = .ok (.iconst 0, 1) := by decide +kernel
theorem dX4_taken_4 : decode cX4_taken 4 = .ok (.istore 5, 2) := by decide +kernel
theorem dX4_taken_6 : decode cX4_taken 6 = .ok (.iload 5, 2) := by decide +kernel
theorem dX4_taken_8 : decode cX4_taken 8 = .ok (.aload_n 0, 1) := by decide +kernel
theorem dX4_taken_9 : decode cX4_taken 9 = .ok (.getfield 66, 3) := by decide +kernel
theorem dX4_taken_12 : decode cX4_taken 12 = .ok (.if_icmp .ge 54, 3) := by decide +kernel
theorem dX4_taken_15 : decode cX4_taken 15 = .ok (.iload 4, 2) := by decide +kernel
theorem dX4_taken_17 : decode cX4_taken 17 = .ok (.ifCond .ne 36, 3) := by decide +kernel
theorem dX4_taken_20 : decode cX4_taken 20 = .ok (.aload_n 0, 1) := by decide +kernel
theorem dX4_taken_21 : decode cX4_taken 21 = .ok (.getfield 7, 3) := by decide +kernel
theorem dX4_taken_24 : decode cX4_taken 24 = .ok (.iload 5, 2) := by decide +kernel
theorem dX4_taken_26 : decode cX4_taken 26 = .ok (.iaload, 1) := by decide +kernel
theorem dX4_taken_27 : decode cX4_taken 27 = .ok (.iload_n 1, 1) := by decide +kernel
theorem dX4_taken_28 : decode cX4_taken 28 = .ok (.if_icmp .ne 29, 3) := by decide +kernel
theorem dX4_taken_31 : decode cX4_taken 31 = .ok (.aload_n 0, 1) := by decide +kernel
theorem dX4_taken_32 : decode cX4_taken 32 = .ok (.getfield 13, 3) := by decide +kernel
theorem dX4_taken_35 : decode cX4_taken 35 = .ok (.iload 5, 2) := by decide +kernel
theorem dX4_taken_37 : decode cX4_taken 37 = .ok (.iaload, 1) := by decide +kernel
theorem dX4_taken_38 : decode cX4_taken 38 = .ok (.iload_n 2, 1) := by decide +kernel
theorem dX4_taken_39 : decode cX4_taken 39 = .ok (.if_icmp .ne 18, 3) := by decide +kernel
theorem dX4_taken_42 : decode cX4_taken 42 = .ok (.aload_n 0, 1) := by decide +kernel
theorem dX4_taken_43 : decode cX4_taken 43 = .ok (.getfield 16, 3) := by decide +kernel
theorem dX4_taken_46 : decode cX4_taken 46 = .ok (.iload 5, 2) := by decide +kernel
theorem dX4_taken_48 : decode cX4_taken 48 = .ok (.iaload, 1) := by decide +kernel
theorem dX4_taken_49 : decode cX4_taken 49 = .ok (.iload_n 3, 1) := by decide +kernel
theorem dX4_taken_50 : decode cX4_taken 50 = .ok (.if_icmp .ne 7, 3) := by decide +kernel
theorem dX4_taken_53 : decode cX4_taken 53 = .ok (.iconst 1, 1) := by decide +kernel
theorem dX4_taken_54 : decode cX4_taken 54 = .ok (.goto 4, 3) := by decide +kernel
theorem dX4_taken_57 : decode cX4_taken 57 = .ok (.iconst 0, 1) := by decide +kernel
theorem dX4_taken_58 : decode cX4_taken 58 = .ok (.istore 4, 2) := by decide +kernel
theorem dX4_taken_60 : decode cX4_taken 60 = .ok (.iinc 5 1, 3) := by decide +kernel
theorem dX4_taken_63 : decode cX4_taken 63 = .ok (.goto (-57), 3) := by decide +kernel
theorem dX4_taken_66 : decode cX4_taken 66 = .ok (.iload 4, 2) := by decide +kernel
theorem dX4_taken_68 : decode cX4_taken 68 = .ok (.ireturn, 1) := by decide +kernel
set_option maxRecDepth 20000 in
theorem ggX4_point_X4_within : GoodIn wsX4_point wsX4_within := goodIn_r _ [8] (by decide +kernel) (by decide +kernel)
set_option maxRecDepth 20000 in
theorem gX4_point_X4_within : GoodIn wsX4_point (va_wsS RX4 69 yX4_within wsX4_within) := goodIn_app (goodIn_of _ (by decide +kernel)) ggX4_point_X4_within
set_option maxRecDepth 20000 in
theorem ggX4_point_X4_taken : GoodIn wsX4_point wsX4_taken := goodIn_r _ [12, 1, 2, 3, 4, 18, 19, 20, 21, 22, 23, 24, 25, 26, 27, 28, 29, 30, 31, 32, 33, 34, 35, 36, 37, 38, 39, 40, 41, 42, 43, 44] (by decide +kernel) (by decide +kernel)
set_option maxRecDepth 20000 in
theorem gX4_point_X4_taken : GoodIn wsX4_point (wsV RX4 73 RX4 yX4_taken wsX4_taken) := goodIn_app (goodIn_of _ (by decide +kernel)) ggX4_point_X4_taken
set_option maxRecDepth 20000 in
theorem ggX4_point_X4_goes : GoodIn wsX4_point wsX4_goes := goodIn_r _ [16, 17, 18, 19, 20, 21, 22, 23, 24, 25, 26, 27, 28, 29, 30, 31, 32, 33, 34, 35, 36, 37, 38, 39, 40, 41, 42, 43, 44] (by decide +kernel) (by decide +kernel)
set_option maxRecDepth 20000 in
theorem gX4_point_X4_goes : GoodIn wsX4_point (wsV RX4 77 RX4 yX4_goes wsX4_goes) := goodIn_app (goodIn_of _ (by decide +kernel)) ggX4_point_X4_goes
theorem dX4_point_0 : decode cX4_point 0 = .ok (.iload_n 1, 1) := by decide +kernel
theorem dX4_point_1 : decode cX4_point 1 = .ok (.sipush 512, 3) := by decide +kernel
theorem dX4_point_4 : decode cX4_point 4 = .ok (.invokestatic 69, 3) := by decide +kernel
theorem dX4_point_7 : decode cX4_point 7 = .ok (.ifCond .eq 37, 3) := by decide +kernel
theorem dX4_point_10 : decode cX4_point 10 = .ok (.iload_n 2, 1) := by decide +kernel
theorem dX4_point_11 : decode cX4_point 11 = .ok (.sipush 512, 3) := by decide +kernel
theorem dX4_point_14 : decode cX4_point 14 = .ok (.invokestatic 69, 3) := by decide +kernel
theorem dX4_point_17 : decode cX4_point 17 = .ok (.ifCond .eq 27, 3) := by decide +kernel
theorem dX4_point_20 : decode cX4_point 20 = .ok (.iload_n 3, 1) := by decide +kernel
theorem dX4_point_21 : decode cX4_point 21 = .ok (.sipush 512, 3) := by decide +kernel
theorem dX4_point_24 : decode cX4_point 24 = .ok (.invokestatic 69, 3) := by decide +kernel
theorem dX4_point_27 : decode cX4_point 27 = .ok (.ifCond .eq 17, 3) := by decide +kernel
theorem dX4_point_30 : decode cX4_point 30 = .ok (.aload_n 0, 1) := by decide +kernel
theorem dX4_point_31 : decode cX4_point 31 = .ok (.iload_n 1, 1) := by decide +kernel
theorem dX4_point_32 : decode cX4_point 32 = .ok (.iload_n 2, 1) := by decide +kernel
theorem dX4_point_33 : decode cX4_point 33 = .ok (.iload_n 3, 1) := by decide +kernel
theorem dX4_point_34 : decode cX4_point 34 = .ok (.invokevirtual 73, 3) := by decide +kernel
theorem dX4_point_37 : decode cX4_point 37 = .ok (.ifCond .ne 7, 3) := by decide +kernel
theorem dX4_point_40 : decode cX4_point 40 = .ok (.iconst 1, 1) := by decide +kernel
theorem dX4_point_41 : decode cX4_point 41 = .ok (.goto 4, 3) := by decide +kernel
theorem dX4_point_44 : decode cX4_point 44 = .ok (.iconst 0, 1) := by decide +kernel
theorem dX4_point_45 : decode cX4_point 45 = .ok (.istore 4, 2) := by decide +kernel
theorem dX4_point_47 : decode cX4_point 47 = .ok (.aload_n 0, 1) := by decide +kernel
theorem dX4_point_48 : decode cX4_point 48 = .ok (.iload 4, 2) := by decide +kernel
theorem dX4_point_50 : decode cX4_point 50 = .ok (.aload_n 0, 1) := by decide +kernel
theorem dX4_point_51 : decode cX4_point 51 = .ok (.getfield 66, 3) := by decide +kernel
theorem dX4_point_54 : decode cX4_point 54 = .ok (.bipush 24, 2) := by decide +kernel
theorem dX4_point_56 : decode cX4_point 56 = .ok (.if_icmp .ge 7, 3) := by decide +kernel
theorem dX4_point_59 : decode cX4_point 59 = .ok (.iconst 1, 1) := by decide +kernel
theorem dX4_point_60 : decode cX4_point 60 = .ok (.goto 4, 3) := by decide +kernel
theorem dX4_point_63 : decode cX4_point 63 = .ok (.iconst 0, 1) := by decide +kernel
theorem dX4_point_64 : decode cX4_point 64 = .ok (.invokevirtual 77, 3) := by decide +kernel
theorem dX4_point_67 : decode cX4_point 67 = .ok (.ifCond .ne 5, 3) := by decide +kernel
theorem dX4_point_70 : decode cX4_point 70 = .ok (.iconst 0, 1) := by decide +kernel
theorem dX4_point_71 : decode cX4_point 71 = .ok (.ireturn, 1) := by decide +kernel
theorem dX4_point_72 : decode cX4_point 72 = .ok (.aload_n 0, 1) := by decide +kernel
theorem dX4_point_73 : decode cX4_point 73 = .ok (.getfield 7, 3) := by decide +kernel
theorem dX4_point_76 : decode cX4_point 76 = .ok (.aload_n 0, 1) := by decide +kernel
theorem dX4_point_77 : decode cX4_point 77 = .ok (.getfield 66, 3) := by decide +kernel
theorem dX4_point_80 : decode cX4_point 80 = .ok (.iload_n 1, 1) := by decide +kernel
theorem dX4_point_81 : decode cX4_point 81 = .ok (.iastore, 1) := by decide +kernel
theorem dX4_point_82 : decode cX4_point 82 = .ok (.aload_n 0, 1) := by decide +kernel
theorem dX4_point_83 : decode cX4_point 83 = .ok (.getfield 13, 3) := by decide +kernel
theorem dX4_point_86 : decode cX4_point 86 = .ok (.aload_n 0, 1) := by decide +kernel
theorem dX4_point_87 : decode cX4_point 87 = .ok (.getfield 66, 3) := by decide +kernel
theorem dX4_point_90 : decode cX4_point 90 = .ok (.iload_n 2, 1) := by decide +kernel
theorem dX4_point_91 : decode cX4_point 91 = .ok (.iastore, 1) := by decide +kernel
theorem dX4_point_92 : decode cX4_point 92 = .ok (.aload_n 0, 1) := by decide +kernel
theorem dX4_point_93 : decode cX4_point 93 = .ok (.getfield 16, 3) := by decide +kernel
theorem dX4_point_96 : decode cX4_point 96 = .ok (.aload_n 0, 1) := by decide +kernel
theorem dX4_point_97 : decode cX4_point 97 = .ok (.getfield 66, 3) := by decide +kernel
theorem dX4_point_100 : decode cX4_point 100 = .ok (.iload_n 3, 1) := by decide +kernel
theorem dX4_point_101 : decode cX4_point 101 = .ok (.iastore, 1) := by decide +kernel
theorem dX4_point_102 : decode cX4_point 102 = .ok (.aload_n 0, 1) := by decide +kernel
theorem dX4_point_103 : decode cX4_point 103 = .ok (.dup, 1) := by decide +kernel
theorem dX4_point_104 : decode cX4_point 104 = .ok (.getfield 66, 3) := by decide +kernel
theorem dX4_point_107 : decode cX4_point 107 = .ok (.iconst 1, 1) := by decide +kernel
theorem dX4_point_108 : decode cX4_point 108 = .ok (.iadd, 1) := by decide +kernel
theorem dX4_point_109 : decode cX4_point 109 = .ok (.putfield 66, 3) := by decide +kernel
theorem dX4_point_112 : decode cX4_point 112 = .ok (.aload_n 0, 1) := by decide +kernel
theorem dX4_point_113 : decode cX4_point 113 = .ok (.getfield 66, 3) := by decide +kernel
theorem dX4_point_116 : decode cX4_point 116 = .ok (.iconst 1, 1) := by decide +kernel
theorem dX4_point_117 : decode cX4_point 117 = .ok (.isub, 1) := by decide +kernel
theorem dX4_point_118 : decode cX4_point 118 = .ok (.ireturn, 1) := by decide +kernel
set_option maxRecDepth 20000 in
theorem ggX4_take_X4_goes : GoodIn wsX4_take wsX4_goes := goodIn_r _ [9, 10, 11, 12, 13, 14, 15, 16, 17, 18, 19, 20, 21, 22, 23, 24, 25, 26, 27, 28, 29, 30, 31, 32, 33, 34, 35, 36, 37] (by decide +kernel) (by decide +kernel)
set_option maxRecDepth 20000 in
theorem gX4_take_X4_goes : GoodIn wsX4_take (wsV RX4 77 RX4 yX4_goes wsX4_goes) := goodIn_app (goodIn_of _ (by decide +kernel)) ggX4_take_X4_goes
theorem dX4_take_0 : decode cX4_take 0 = .ok (.aload_n 0, 1) := by decide +kernel
theorem dX4_take_1 : decode cX4_take 1 = .ok (.iload_n 1, 1) := by decide +kernel
theorem dX4_take_2 : decode cX4_take 2 = .ok (.ifCond .lt 15, 3) := by decide +kernel
theorem dX4_take_5 : decode cX4_take 5 = .ok (.iload_n 1, 1) := by decide +kernel
theorem dX4_take_6 : decode cX4_take 6 = .ok (.aload_n 0, 1) := by decide +kernel
theorem dX4_take_7 : decode cX4_take 7 = .ok (.getfield 66, 3) := by decide +kernel
theorem dX4_take_10 : decode cX4_take 10 = .ok (.if_icmp .ge 7, 3) := by decide +kernel
theorem dX4_take_13 : decode cX4_take 13 = .ok (.iconst 1, 1) := by decide +kernel
theorem dX4_take_14 : decode cX4_take 14 = .ok (.goto 4, 3) := by decide +kernel
theorem dX4_take_17 : decode cX4_take 17 = .ok (.iconst 0, 1) := by decide +kernel
theorem dX4_take_18 : decode cX4_take 18 = .ok (.iconst 1, 1) := by decide +kernel
theorem dX4_take_19 : decode cX4_take 19 = .ok (.invokevirtual 77, 3) := by decide +kernel
theorem dX4_take_22 : decode cX4_take 22 = .ok (.ifCond .ne 5, 3) := by decide +kernel
theorem dX4_take_25 : decode cX4_take 25 = .ok (.iconst 0, 1) := by decide +kernel
theorem dX4_take_26 : decode cX4_take 26 = .ok (.ireturn, 1) := by decide +kernel
theorem dX4_take_27 : decode cX4_take 27 = .ok (.iload_n 1, 1) := by decide +kernel
theorem dX4_take_28 : decode cX4_take 28 = .ok (.istore_n 2, 1) := by decide +kernel
theorem dX4_take_29 : decode cX4_take 29 = .ok (.iload_n 2, 1) := by decide +kernel
theorem dX4_take_30 : decode cX4_take 30 = .ok (.iconst 1, 1) := by decide +kernel
theorem dX4_take_31 : decode cX4_take 31 = .ok (.iadd, 1) := by decide +kernel
theorem dX4_take_32 : decode cX4_take 32 = .ok (.aload_n 0, 1) := by decide +kernel
theorem dX4_take_33 : decode cX4_take 33 = .ok (.getfield 66, 3) := by decide +kernel
theorem dX4_take_36 : decode cX4_take 36 = .ok (.if_icmp .ge 51, 3) := by decide +kernel
theorem dX4_take_39 : decode cX4_take 39 = .ok (.aload_n 0, 1) := by decide +kernel
theorem dX4_take_40 : decode cX4_take 40 = .ok (.getfield 7, 3) := by decide +kernel
theorem dX4_take_43 : decode cX4_take 43 = .ok (.iload_n 2, 1) := by decide +kernel
theorem dX4_take_44 : decode cX4_take 44 = .ok (.aload_n 0, 1) := by decide +kernel
theorem dX4_take_45 : decode cX4_take 45 = .ok (.getfield 7, 3) := by decide +kernel
theorem dX4_take_48 : decode cX4_take 48 = .ok (.iload_n 2, 1) := by decide +kernel
theorem dX4_take_49 : decode cX4_take 49 = .ok (.iconst 1, 1) := by decide +kernel
theorem dX4_take_50 : decode cX4_take 50 = .ok (.iadd, 1) := by decide +kernel
theorem dX4_take_51 : decode cX4_take 51 = .ok (.iaload, 1) := by decide +kernel
theorem dX4_take_52 : decode cX4_take 52 = .ok (.iastore, 1) := by decide +kernel
theorem dX4_take_53 : decode cX4_take 53 = .ok (.aload_n 0, 1) := by decide +kernel
theorem dX4_take_54 : decode cX4_take 54 = .ok (.getfield 13, 3) := by decide +kernel
theorem dX4_take_57 : decode cX4_take 57 = .ok (.iload_n 2, 1) := by decide +kernel
theorem dX4_take_58 : decode cX4_take 58 = .ok (.aload_n 0, 1) := by decide +kernel
theorem dX4_take_59 : decode cX4_take 59 = .ok (.getfield 13, 3) := by decide +kernel
theorem dX4_take_62 : decode cX4_take 62 = .ok (.iload_n 2, 1) := by decide +kernel
theorem dX4_take_63 : decode cX4_take 63 = .ok (.iconst 1, 1) := by decide +kernel
theorem dX4_take_64 : decode cX4_take 64 = .ok (.iadd, 1) := by decide +kernel
theorem dX4_take_65 : decode cX4_take 65 = .ok (.iaload, 1) := by decide +kernel
theorem dX4_take_66 : decode cX4_take 66 = .ok (.iastore, 1) := by decide +kernel
theorem dX4_take_67 : decode cX4_take 67 = .ok (.aload_n 0, 1) := by decide +kernel
theorem dX4_take_68 : decode cX4_take 68 = .ok (.getfield 16, 3) := by decide +kernel
theorem dX4_take_71 : decode cX4_take 71 = .ok (.iload_n 2, 1) := by decide +kernel
theorem dX4_take_72 : decode cX4_take 72 = .ok (.aload_n 0, 1) := by decide +kernel
theorem dX4_take_73 : decode cX4_take 73 = .ok (.getfield 16, 3) := by decide +kernel
theorem dX4_take_76 : decode cX4_take 76 = .ok (.iload_n 2, 1) := by decide +kernel
theorem dX4_take_77 : decode cX4_take 77 = .ok (.iconst 1, 1) := by decide +kernel
theorem dX4_take_78 : decode cX4_take 78 = .ok (.iadd, 1) := by decide +kernel
theorem dX4_take_79 : decode cX4_take 79 = .ok (.iaload, 1) := by decide +kernel
theorem dX4_take_80 : decode cX4_take 80 = .ok (.iastore, 1) := by decide +kernel
theorem dX4_take_81 : decode cX4_take 81 = .ok (.iinc 2 1, 3) := by decide +kernel
theorem dX4_take_84 : decode cX4_take 84 = .ok (.goto (-55), 3) := by decide +kernel
theorem dX4_take_87 : decode cX4_take 87 = .ok (.aload_n 0, 1) := by decide +kernel
theorem dX4_take_88 : decode cX4_take 88 = .ok (.dup, 1) := by decide +kernel
theorem dX4_take_89 : decode cX4_take 89 = .ok (.getfield 66, 3) := by decide +kernel
theorem dX4_take_92 : decode cX4_take 92 = .ok (.iconst 1, 1) := by decide +kernel
theorem dX4_take_93 : decode cX4_take 93 = .ok (.isub, 1) := by decide +kernel
theorem dX4_take_94 : decode cX4_take 94 = .ok (.putfield 66, 3) := by decide +kernel
theorem dX4_take_97 : decode cX4_take 97 = .ok (.aload_n 0, 1) := by decide +kernel
theorem dX4_take_98 : decode cX4_take 98 = .ok (.getfield 66, 3) := by decide +kernel
theorem dX4_take_101 : decode cX4_take 101 = .ok (.ireturn, 1) := by decide +kernel
theorem dX4_across_0 : decode cX4_across 0 = .ok (.aload_n 0, 1) := by decide +kernel
theorem dX4_across_1 : decode cX4_across 1 = .ok (.getfield 19, 3) := by decide +kernel
theorem dX4_across_4 : decode cX4_across 4 = .ok (.iload_n 2, 1) := by decide +kernel
theorem dX4_across_5 : decode cX4_across 5 = .ok (.laload, 1) := by decide +kernel
theorem dX4_across_6 : decode cX4_across 6 = .ok (.aload_n 0, 1) := by decide +kernel
theorem dX4_across_7 : decode cX4_across 7 = .ok (.getfield 19, 3) := by decide +kernel
theorem dX4_across_10 : decode cX4_across 10 = .ok (.iload_n 1, 1) := by decide +kernel
theorem dX4_across_11 : decode cX4_across 11 = .ok (.laload, 1) := by decide +kernel
theorem dX4_across_12 : decode cX4_across 12 = .ok (.lsub, 1) := by decide +kernel
theorem dX4_across_13 : decode cX4_across 13 = .ok (.lstore 4, 2) := by decide +kernel
theorem dX4_across_15 : decode cX4_across 15 = .ok (.aload_n 0, 1) := by decide +kernel
theorem dX4_across_16 : decode cX4_across 16 = .ok (.getfield 23, 3) := by decide +kernel
theorem dX4_across_19 : decode cX4_across 19 = .ok (.iload_n 2, 1) := by decide +kernel
theorem dX4_across_20 : decode cX4_across 20 = .ok (.laload, 1) := by decide +kernel
theorem dX4_across_21 : decode cX4_across 21 = .ok (.aload_n 0, 1) := by decide +kernel
theorem dX4_across_22 : decode cX4_across 22 = .ok (.getfield 23, 3) := by decide +kernel
theorem dX4_across_25 : decode cX4_across 25 = .ok (.iload_n 1, 1) := by decide +kernel
theorem dX4_across_26 : decode cX4_across 26 = .ok (.laload, 1) := by decide +kernel
theorem dX4_across_27 : decode cX4_across 27 = .ok (.lsub, 1) := by decide +kernel
theorem dX4_across_28 : decode cX4_across 28 = .ok (.lstore 6, 2) := by decide +kernel
theorem dX4_across_30 : decode cX4_across 30 = .ok (.aload_n 0, 1) := by decide +kernel
theorem dX4_across_31 : decode cX4_across 31 = .ok (.getfield 26, 3) := by decide +kernel
theorem dX4_across_34 : decode cX4_across 34 = .ok (.iload_n 2, 1) := by decide +kernel
theorem dX4_across_35 : decode cX4_across 35 = .ok (.laload, 1) := by decide +kernel
theorem dX4_across_36 : decode cX4_across 36 = .ok (.aload_n 0, 1) := by decide +kernel
theorem dX4_across_37 : decode cX4_across 37 = .ok (.getfield 26, 3) := by decide +kernel
theorem dX4_across_40 : decode cX4_across 40 = .ok (.iload_n 1, 1) := by decide +kernel
theorem dX4_across_41 : decode cX4_across 41 = .ok (.laload, 1) := by decide +kernel
theorem dX4_across_42 : decode cX4_across 42 = .ok (.lsub, 1) := by decide +kernel
theorem dX4_across_43 : decode cX4_across 43 = .ok (.lstore 8, 2) := by decide +kernel
theorem dX4_across_45 : decode cX4_across 45 = .ok (.aload_n 0, 1) := by decide +kernel
theorem dX4_across_46 : decode cX4_across 46 = .ok (.getfield 19, 3) := by decide +kernel
theorem dX4_across_49 : decode cX4_across 49 = .ok (.iload_n 3, 1) := by decide +kernel
theorem dX4_across_50 : decode cX4_across 50 = .ok (.laload, 1) := by decide +kernel
theorem dX4_across_51 : decode cX4_across 51 = .ok (.aload_n 0, 1) := by decide +kernel
theorem dX4_across_52 : decode cX4_across 52 = .ok (.getfield 19, 3) := by decide +kernel
theorem dX4_across_55 : decode cX4_across 55 = .ok (.iload_n 1, 1) := by decide +kernel
theorem dX4_across_56 : decode cX4_across 56 = .ok (.laload, 1) := by decide +kernel
theorem dX4_across_57 : decode cX4_across 57 = .ok (.lsub, 1) := by decide +kernel
theorem dX4_across_58 : decode cX4_across 58 = .ok (.lstore 10, 2) := by decide +kernel
theorem dX4_across_60 : decode cX4_across 60 = .ok (.aload_n 0, 1) := by decide +kernel
theorem dX4_across_61 : decode cX4_across 61 = .ok (.getfield 23, 3) := by decide +kernel
theorem dX4_across_64 : decode cX4_across 64 = .ok (.iload_n 3, 1) := by decide +kernel
theorem dX4_across_65 : decode cX4_across 65 = .ok (.laload, 1) := by decide +kernel
theorem dX4_across_66 : decode cX4_across 66 = .ok (.aload_n 0, 1) := by decide +kernel
theorem dX4_across_67 : decode cX4_across 67 = .ok (.getfield 23, 3) := by decide +kernel
theorem dX4_across_70 : decode cX4_across 70 = .ok (.iload_n 1, 1) := by decide +kernel
theorem dX4_across_71 : decode cX4_across 71 = .ok (.laload, 1) := by decide +kernel
theorem dX4_across_72 : decode cX4_across 72 = .ok (.lsub, 1) := by decide +kernel
theorem dX4_across_73 : decode cX4_across 73 = .ok (.lstore 12, 2) := by decide +kernel
theorem dX4_across_75 : decode cX4_across 75 = .ok (.aload_n 0, 1) := by decide +kernel
theorem dX4_across_76 : decode cX4_across 76 = .ok (.getfield 26, 3) := by decide +kernel
theorem dX4_across_79 : decode cX4_across 79 = .ok (.iload_n 3, 1) := by decide +kernel
theorem dX4_across_80 : decode cX4_across 80 = .ok (.laload, 1) := by decide +kernel
theorem dX4_across_81 : decode cX4_across 81 = .ok (.aload_n 0, 1) := by decide +kernel
theorem dX4_across_82 : decode cX4_across 82 = .ok (.getfield 26, 3) := by decide +kernel
theorem dX4_across_85 : decode cX4_across 85 = .ok (.iload_n 1, 1) := by decide +kernel
theorem dX4_across_86 : decode cX4_across 86 = .ok (.laload, 1) := by decide +kernel
theorem dX4_across_87 : decode cX4_across 87 = .ok (.lsub, 1) := by decide +kernel
theorem dX4_across_88 : decode cX4_across 88 = .ok (.lstore 14, 2) := by decide +kernel
theorem dX4_across_90 : decode cX4_across 90 = .ok (.aload_n 0, 1) := by decide +kernel
theorem dX4_across_91 : decode cX4_across 91 = .ok (.lload 6, 2) := by decide +kernel
theorem dX4_across_93 : decode cX4_across 93 = .ok (.lload 14, 2) := by decide +kernel
theorem dX4_across_95 : decode cX4_across 95 = .ok (.lmul, 1) := by decide +kernel
theorem dX4_across_96 : decode cX4_across 96 = .ok (.lload 8, 2) := by decide +kernel
theorem dX4_across_98 : decode cX4_across 98 = .ok (.lload 12, 2) := by decide +kernel
theorem dX4_across_100 : decode cX4_across 100 = .ok (.lmul, 1) := by decide +kernel
theorem dX4_across_101 : decode cX4_across 101 = .ok (.lsub, 1) := by decide +kernel
theorem dX4_across_102 : decode cX4_across 102 = .ok (.putfield 81, 3) := by decide +kernel
theorem dX4_across_105 : decode cX4_across 105 = .ok (.aload_n 0, 1) := by decide +kernel
theorem dX4_across_106 : decode cX4_across 106 = .ok (.lload 8, 2) := by decide +kernel
theorem dX4_across_108 : decode cX4_across 108 = .ok (.lload 10, 2) := by decide +kernel
theorem dX4_across_110 : decode cX4_across 110 = .ok (.lmul, 1) := by decide +kernel
theorem dX4_across_111 : decode cX4_across 111 = .ok (.lload 4, 2) := by decide +kernel
theorem dX4_across_113 : decode cX4_across 113 = .ok (.lload 14, 2) := by decide +kernel
theorem dX4_across_115 : decode cX4_across 115 = .ok (.lmul, 1) := by decide +kernel
theorem dX4_across_116 : decode cX4_across 116 = .ok (.lsub, 1) := by decide +kernel
theorem dX4_across_117 : decode cX4_across 117 = .ok (.putfield 85, 3) := by decide +kernel
theorem dX4_across_120 : decode cX4_across 120 = .ok (.aload_n 0, 1) := by decide +kernel
theorem dX4_across_121 : decode cX4_across 121 = .ok (.lload 4, 2) := by decide +kernel
theorem dX4_across_123 : decode cX4_across 123 = .ok (.lload 12, 2) := by decide +kernel
theorem dX4_across_125 : decode cX4_across 125 = .ok (.lmul, 1) := by decide +kernel
theorem dX4_across_126 : decode cX4_across 126 = .ok (.lload 6, 2) := by decide +kernel
theorem dX4_across_128 : decode cX4_across 128 = .ok (.lload 10, 2) := by decide +kernel
theorem dX4_across_130 : decode cX4_across 130 = .ok (.lmul, 1) := by decide +kernel
theorem dX4_across_131 : decode cX4_across 131 = .ok (.lsub, 1) := by decide +kernel
theorem dX4_across_132 : decode cX4_across 132 = .ok (.putfield 88, 3) := by decide +kernel
theorem dX4_across_135 : decode cX4_across 135 = .ok (.return_, 1) := by decide +kernel
theorem dX4_above_0 : decode cX4_above 0 = .ok (.aload_n 0, 1) := by decide +kernel
theorem dX4_above_1 : decode cX4_above 1 = .ok (.getfield 81, 3) := by decide +kernel
theorem dX4_above_4 : decode cX4_above 4 = .ok (.aload_n 0, 1) := by decide +kernel
theorem dX4_above_5 : decode cX4_above 5 = .ok (.getfield 19, 3) := by decide +kernel
theorem dX4_above_8 : decode cX4_above 8 = .ok (.iload_n 2, 1) := by decide +kernel
theorem dX4_above_9 : decode cX4_above 9 = .ok (.laload, 1) := by decide +kernel
theorem dX4_above_10 : decode cX4_above 10 = .ok (.aload_n 0, 1) := by decide +kernel
theorem dX4_above_11 : decode cX4_above 11 = .ok (.getfield 19, 3) := by decide +kernel
theorem dX4_above_14 : decode cX4_above 14 = .ok (.iload_n 1, 1) := by decide +kernel
theorem dX4_above_15 : decode cX4_above 15 = .ok (.laload, 1) := by decide +kernel
theorem dX4_above_16 : decode cX4_above 16 = .ok (.lsub, 1) := by decide +kernel
theorem dX4_above_17 : decode cX4_above 17 = .ok (.lmul, 1) := by decide +kernel
theorem dX4_above_18 : decode cX4_above 18 = .ok (.aload_n 0, 1) := by decide +kernel
theorem dX4_above_19 : decode cX4_above 19 = .ok (.getfield 85, 3) := by decide +kernel
theorem dX4_above_22 : decode cX4_above 22 = .ok (.aload_n 0, 1) := by decide +kernel
theorem dX4_above_23 : decode cX4_above 23 = .ok (.getfield 23, 3) := by decide +kernel
theorem dX4_above_26 : decode cX4_above 26 = .ok (.iload_n 2, 1) := by decide +kernel
theorem dX4_above_27 : decode cX4_above 27 = .ok (.laload, 1) := by decide +kernel
theorem dX4_above_28 : decode cX4_above 28 = .ok (.aload_n 0, 1) := by decide +kernel
theorem dX4_above_29 : decode cX4_above 29 = .ok (.getfield 23, 3) := by decide +kernel
theorem dX4_above_32 : decode cX4_above 32 = .ok (.iload_n 1, 1) := by decide +kernel
theorem dX4_above_33 : decode cX4_above 33 = .ok (.laload, 1) := by decide +kernel
theorem dX4_above_34 : decode cX4_above 34 = .ok (.lsub, 1) := by decide +kernel
theorem dX4_above_35 : decode cX4_above 35 = .ok (.lmul, 1) := by decide +kernel
theorem dX4_above_36 : decode cX4_above 36 = .ok (.ladd, 1) := by decide +kernel
theorem dX4_above_37 : decode cX4_above 37 = .ok (.aload_n 0, 1) := by decide +kernel
theorem dX4_above_38 : decode cX4_above 38 = .ok (.getfield 88, 3) := by decide +kernel
theorem dX4_above_41 : decode cX4_above 41 = .ok (.aload_n 0, 1) := by decide +kernel
theorem dX4_above_42 : decode cX4_above 42 = .ok (.getfield 26, 3) := by decide +kernel
theorem dX4_above_45 : decode cX4_above 45 = .ok (.iload_n 2, 1) := by decide +kernel
theorem dX4_above_46 : decode cX4_above 46 = .ok (.laload, 1) := by decide +kernel
theorem dX4_above_47 : decode cX4_above 47 = .ok (.aload_n 0, 1) := by decide +kernel
theorem dX4_above_48 : decode cX4_above 48 = .ok (.getfield 26, 3) := by decide +kernel
theorem dX4_above_51 : decode cX4_above 51 = .ok (.iload_n 1, 1) := by decide +kernel
theorem dX4_above_52 : decode cX4_above 52 = .ok (.laload, 1) := by decide +kernel
theorem dX4_above_53 : decode cX4_above 53 = .ok (.lsub, 1) := by decide +kernel
theorem dX4_above_54 : decode cX4_above 54 = .ok (.lmul, 1) := by decide +kernel
theorem dX4_above_55 : decode cX4_above 55 = .ok (.ladd, 1) := by decide +kernel
theorem dX4_above_56 : decode cX4_above 56 = .ok (.lreturn, 1) := by decide +kernel
theorem dX4_common_0 : decode cX4_common 0 = .ok (.lload_n 0, 1) := by decide +kernel
theorem dX4_common_1 : decode cX4_common 1 = .ok (.lconst 0, 1) := by decide +kernel
theorem dX4_common_2 : decode cX4_common 2 = .ok (.lcmp, 1) := by decide +kernel
theorem dX4_common_3 : decode cX4_common 3 = .ok (.ifCond .ge 9, 3) := by decide +kernel
theorem dX4_common_6 : decode cX4_common 6 = .ok (.lconst 0, 1) := by decide +kernel
theorem dX4_common_7 : decode cX4_common 7 = .ok (.lload_n 0, 1) := by decide +kernel
theorem dX4_common_8 : decode cX4_common 8 = .ok (.lsub, 1) := by decide +kernel
theorem dX4_common_9 : decode cX4_common 9 = .ok (.goto 4, 3) := by decide +kernel
theorem dX4_common_12 : decode cX4_common 12 = .ok (.lload_n 0, 1) := by decide +kernel
theorem dX4_common_13 : decode cX4_common 13 = .ok (.lstore 4, 2) := by decide +kernel
theorem dX4_common_15 : decode cX4_common 15 = .ok (.lload_n 2, 1) := by decide +kernel
theorem dX4_common_16 : decode cX4_common 16 = .ok (.lconst 0, 1) := by decide +kernel
theorem dX4_common_17 : decode cX4_common 17 = .ok (.lcmp, 1) := by decide +kernel
theorem dX4_common_18 : decode cX4_common 18 = .ok (.ifCond .ge 9, 3) := by decide +kernel
theorem dX4_common_21 : decode cX4_common 21 = .ok (.lconst 0, 1) := by decide +kernel
theorem dX4_common_22 : decode cX4_common 22 = .ok (.lload_n 2, 1) := by decide +kernel
theorem dX4_common_23 : decode cX4_common 23 = .ok (.lsub, 1) := by decide +kernel
theorem dX4_common_24 : decode cX4_common 24 = .ok (.goto 4, 3) := by decide +kernel
theorem dX4_common_27 : decode cX4_common 27 = .ok (.lload_n 2, 1) := by decide +kernel
theorem dX4_common_28 : decode cX4_common 28 = .ok (.lstore 6, 2) := by decide +kernel
theorem dX4_common_30 : decode cX4_common 30 = .ok (.iconst 0, 1) := by decide +kernel
theorem dX4_common_31 : decode cX4_common 31 = .ok (.istore 8, 2) := by decide +kernel
theorem dX4_common_33 : decode cX4_common 33 = .ok (.iload 8, 2) := by decide +kernel
theorem dX4_common_35 : decode cX4_common 35 = .ok (.bipush 64, 2) := by decide +kernel
theorem dX4_common_37 : decode cX4_common 37 = .ok (.if_icmp .ge 31, 3) := by decide +kernel
theorem dX4_common_40 : decode cX4_common 40 = .ok (.lload 6, 2) := by decide +kernel
theorem dX4_common_42 : decode cX4_common 42 = .ok (.lconst 0, 1) := by decide +kernel
theorem dX4_common_43 : decode cX4_common 43 = .ok (.lcmp, 1) := by decide +kernel
theorem dX4_common_44 : decode cX4_common 44 = .ok (.ifCond .le 24, 3) := by decide +kernel
theorem dX4_common_47 : decode cX4_common 47 = .ok (.lload 4, 2) := by decide +kernel
theorem dX4_common_49 : decode cX4_common 49 = .ok (.lload 6, 2) := by decide +kernel
theorem dX4_common_51 : decode cX4_common 51 = .ok (.lrem, 1) := by decide +kernel
theorem dX4_common_52 : decode cX4_common 52 = .ok (.lstore 9, 2) := by decide +kernel
theorem dX4_common_54 : decode cX4_common 54 = .ok (.lload 6, 2) := by decide +kernel
theorem dX4_common_56 : decode cX4_common 56 = .ok (.lstore 4, 2) := by decide +kernel
theorem dX4_common_58 : decode cX4_common 58 = .ok (.lload 9, 2) := by decide +kernel
theorem dX4_common_60 : decode cX4_common 60 = .ok (.lstore 6, 2) := by decide +kernel
theorem dX4_common_62 : decode cX4_common 62 = .ok (.iinc 8 1, 3) := by decide +kernel
theorem dX4_common_65 : decode cX4_common 65 = .ok (.goto (-32), 3) := by decide +kernel
theorem dX4_common_68 : decode cX4_common 68 = .ok (.lload 4, 2) := by decide +kernel
theorem dX4_common_70 : decode cX4_common 70 = .ok (.lreturn, 1) := by decide +kernel
theorem dX4_knownFace_0 : decode cX4_knownFace 0 = .ok (.iconst 0, 1) := by decide +kernel
theorem dX4_knownFace_1 : decode cX4_knownFace 1 = .ok (.istore_n 3, 1) := by decide +kernel
theorem dX4_knownFace_2 : decode cX4_knownFace 2 = .ok (.iconst 0, 1) := by decide +kernel
theorem dX4_knownFace_3 : decode cX4_knownFace 3 = .ok (.istore 4, 2) := by decide +kernel
theorem dX4_knownFace_5 : decode cX4_knownFace 5 = .ok (.iload 4, 2) := by decide +kernel
theorem dX4_knownFace_7 : decode cX4_knownFace 7 = .ok (.aload_n 0, 1) := by decide +kernel
theorem dX4_knownFace_8 : decode cX4_knownFace 8 = .ok (.getfield 91, 3) := by decide +kernel
theorem dX4_knownFace_11 : decode cX4_knownFace 11 = .ok (.if_icmp .ge 76, 3) := by decide +kernel
theorem dX4_knownFace_14 : decode cX4_knownFace 14 = .ok (.iload_n 3, 1) := by decide +kernel
theorem dX4_knownFace_15 : decode cX4_knownFace 15 = .ok (.ifCond .ne 60, 3) := by decide +kernel
theorem dX4_knownFace_18 : decode cX4_knownFace 18 = .ok (.aload_n 0, 1) := by decide +kernel
theorem dX4_knownFace_19 : decode cX4_knownFace 19 = .ok (.getfield 29, 3) := by decide +kernel
theorem dX4_knownFace_22 : decode cX4_knownFace 22 = .ok (.iload 4, 2) := by decide +kernel
theorem dX4_knownFace_24 : decode cX4_knownFace 24 = .ok (.laload, 1) := by decide +kernel
theorem dX4_knownFace_25 : decode cX4_knownFace 25 = .ok (.aload_n 0, 1) := by decide +kernel
theorem dX4_knownFace_26 : decode cX4_knownFace 26 = .ok (.getfield 81, 3) := by decide +kernel
theorem dX4_knownFace_29 : decode cX4_knownFace 29 = .ok (.lcmp, 1) := by decide +kernel
theorem dX4_knownFace_30 : decode cX4_knownFace 30 = .ok (.ifCond .ne 49, 3) := by decide +kernel
theorem dX4_knownFace_33 : decode cX4_knownFace 33 = .ok (.aload_n 0, 1) := by decide +kernel
theorem dX4_knownFace_34 : decode cX4_knownFace 34 = .ok (.getfield 32, 3) := by decide +kernel
theorem dX4_knownFace_37 : decode cX4_knownFace 37 = .ok (.iload 4, 2) := by decide +kernel
theorem dX4_knownFace_39 : decode cX4_knownFace 39 = .ok (.laload, 1) := by decide +kernel
theorem dX4_knownFace_40 : decode cX4_knownFace 40 = .ok (.aload_n 0, 1) := by decide +kernel
theorem dX4_knownFace_41 : decode cX4_knownFace 41 = .ok (.getfield 85, 3) := by decide +kernel
theorem dX4_knownFace_44 : decode cX4_knownFace 44 = .ok (.lcmp, 1) := by decide +kernel
theorem dX4_knownFace_45 : decode cX4_knownFace 45 = .ok (.ifCond .ne 34, 3) := by decide +kernel
theorem dX4_knownFace_48 : decode cX4_knownFace 48 = .ok (.aload_n 0, 1) := by decide +kernel
theorem dX4_knownFace_49 : decode cX4_knownFace 49 = .ok (.getfield 35, 3) := by decide +kernel
theorem dX4_knownFace_52 : decode cX4_knownFace 52 = .ok (.iload 4, 2) := by decide +kernel
theorem dX4_knownFace_54 : decode cX4_knownFace 54 = .ok (.laload, 1) := by decide +kernel
theorem dX4_knownFace_55 : decode cX4_knownFace 55 = .ok (.aload_n 0, 1) := by decide +kernel
theorem dX4_knownFace_56 : decode cX4_knownFace 56 = .ok (.getfield 88, 3) := by decide +kernel
theorem dX4_knownFace_59 : decode cX4_knownFace 59 = .ok (.lcmp, 1) := by decide +kernel
theorem dX4_knownFace_60 : decode cX4_knownFace 60 = .ok (.ifCond .ne 19, 3) := by decide +kernel
theorem dX4_knownFace_63 : decode cX4_knownFace 63 = .ok (.aload_n 0, 1) := by decide +kernel
theorem dX4_knownFace_64 : decode cX4_knownFace 64 = .ok (.getfield 38, 3) := by decide +kernel
theorem dX4_knownFace_67 : decode cX4_knownFace 67 = .ok (.iload 4, 2) := by decide +kernel
theorem dX4_knownFace_69 : decode cX4_knownFace 69 = .ok (.laload, 1) := by decide +kernel
theorem dX4_knownFace_70 : decode cX4_knownFace 70 = .ok (.lload_n 1, 1) := by decide +kernel
theorem dX4_knownFace_71 : decode cX4_knownFace 71 = .ok (.lcmp, 1) := by decide +kernel
theorem dX4_knownFace_72 : decode cX4_knownFace 72 = .ok (.ifCond .ne 7, 3) := by decide +kernel
theorem dX4_knownFace_75 : decode cX4_knownFace 75 = .ok (.iconst 1, 1) := by decide +kernel
theorem dX4_knownFace_76 : decode cX4_knownFace 76 = .ok (.goto 4, 3) := by decide +kernel
theorem dX4_knownFace_79 : decode cX4_knownFace 79 = .ok (.iconst 0, 1) := by decide +kernel
theorem dX4_knownFace_80 : decode cX4_knownFace 80 = .ok (.istore_n 3, 1) := by decide +kernel
theorem dX4_knownFace_81 : decode cX4_knownFace 81 = .ok (.iinc 4 1, 3) := by decide +kernel
theorem dX4_knownFace_84 : decode cX4_knownFace 84 = .ok (.goto (-79), 3) := by decide +kernel
theorem dX4_knownFace_87 : decode cX4_knownFace 87 = .ok (.iload_n 3, 1) := by decide +kernel
theorem dX4_knownFace_88 : decode cX4_knownFace 88 = .ok (.ireturn, 1) := by decide +kernel
set_option maxRecDepth 20000 in
theorem ggX4_tries_X4_across : GoodIn wsX4_tries wsX4_across := goodIn_r _ [13, 6, 7, 8, 1, 2, 3, 34, 35, 36, 37, 38, 39, 40, 41, 42, 43, 44, 45, 46, 47, 48, 49, 50, 51, 52, 53, 54, 55, 56, 57, 58, 59, 60] (by decide +kernel) (by decide +kernel)
set_option maxRecDepth 20000 in
theorem gX4_tries_X4_across : GoodIn wsX4_tries (wsV RX4 94 RX4 yX4_across wsX4_across) := goodIn_app (goodIn_of _ (by decide +kernel)) ggX4_tries_X4_across
set_option maxRecDepth 20000 in
theorem ggX4_tries_X4_above : GoodIn wsX4_tries wsX4_above := goodIn_r _ [17, 1, 6, 2, 7, 3, 8, 34, 35, 36, 37, 38, 39, 40, 41, 42, 43, 44, 45, 46, 47, 48, 49, 50, 51, 52, 53, 54, 55, 56, 57, 58, 59, 60] (by decide +kernel) (by decide +kernel)
set_option maxRecDepth 20000 in
theorem gX4_tries_X4_above : GoodIn wsX4_tries (wsV RX4 101 RX4 yX4_above wsX4_above) := goodIn_app (goodIn_of _ (by decide +kernel)) ggX4_tries_X4_above
set_option maxRecDepth 20000 in
theorem ggX4_tries_X4_common : GoodIn wsX4_tries wsX4_common := goodIn_r _ [20] (by decide +kernel) (by decide +kernel)
set_option maxRecDepth 20000 in
theorem gX4_tries_X4_common : GoodIn wsX4_tries (va_wsS RX4 107 yX4_common wsX4_common) := goodIn_app (goodIn_of _ (by decide +kernel)) ggX4_tries_X4_common
set_option maxRecDepth 20000 in
theorem ggX4_tries_X4_addFace : GoodIn wsX4_tries wsX4_addFace := goodIn_r _ [24, 25, 26, 1, 27, 2, 28, 3, 29, 30, 31, 32, 12, 33, 34, 35, 36, 37, 38, 39, 40, 41, 42, 43, 44, 45, 46, 47, 48, 49, 50, 51, 52, 53, 54, 55, 56, 57, 58, 59, 60] (by decide +kernel) (by decide +kernel)
set_option maxRecDepth 20000 in
theorem gX4_tries_X4_addFace : GoodIn wsX4_tries (wsV RX4 111 RX4 yX4_addFace wsX4_addFace) := goodIn_app (goodIn_of _ (by decide +kernel)) ggX4_tries_X4_addFace
theorem dX4_tries_0 : decode cX4_tries 0 = .ok (.aload_n 0, 1) := by decide +kernel
theorem dX4_tries_1 : decode cX4_tries 1 = .ok (.iload_n 1, 1) := by decide +kernel
theorem dX4_tries_2 : decode cX4_tries 2 = .ok (.iload_n 2, 1) := by decide +kernel
theorem dX4_tries_3 : decode cX4_tries 3 = .ok (.iload_n 3, 1) := by decide +kernel
theorem dX4_tries_4 : decode cX4_tries 4 = .ok (.invokevirtual 94, 3) := by decide +kernel
theorem dX4_tries_7 : decode cX4_tries 7 = .ok (.aload_n 0, 1) := by decide +kernel
theorem dX4_tries_8 : decode cX4_tries 8 = .ok (.getfield 81, 3) := by decide +kernel
theorem dX4_tries_11 : decode cX4_tries 11 = .ok (.lconst 0, 1) := by decide +kernel
theorem dX4_tries_12 : decode cX4_tries 12 = .ok (.lcmp, 1) := by decide +kernel
theorem dX4_tries_13 : decode cX4_tries 13 = .ok (.ifCond .ne 23, 3) := by decide +kernel
theorem dX4_tries_16 : decode cX4_tries 16 = .ok (.aload_n 0, 1) := by decide +kernel
theorem dX4_tries_17 : decode cX4_tries 17 = .ok (.getfield 85, 3) := by decide +kernel
theorem dX4_tries_20 : decode cX4_tries 20 = .ok (.lconst 0, 1) := by decide +kernel
theorem dX4_tries_21 : decode cX4_tries 21 = .ok (.lcmp, 1) := by decide +kernel
theorem dX4_tries_22 : decode cX4_tries 22 = .ok (.ifCond .ne 14, 3) := by decide +kernel
theorem dX4_tries_25 : decode cX4_tries 25 = .ok (.aload_n 0, 1) := by decide +kernel
theorem dX4_tries_26 : decode cX4_tries 26 = .ok (.getfield 88, 3) := by decide +kernel
theorem dX4_tries_29 : decode cX4_tries 29 = .ok (.lconst 0, 1) := by decide +kernel
theorem dX4_tries_30 : decode cX4_tries 30 = .ok (.lcmp, 1) := by decide +kernel
theorem dX4_tries_31 : decode cX4_tries 31 = .ok (.ifCond .ne 5, 3) := by decide +kernel
theorem dX4_tries_34 : decode cX4_tries 34 = .ok (.iconst 0, 1) := by decide +kernel
theorem dX4_tries_35 : decode cX4_tries 35 = .ok (.ireturn, 1) := by decide +kernel
theorem dX4_tries_36 : decode cX4_tries 36 = .ok (.iconst 0, 1) := by decide +kernel
theorem dX4_tries_37 : decode cX4_tries 37 = .ok (.istore 4, 2) := by decide +kernel
theorem dX4_tries_39 : decode cX4_tries 39 = .ok (.iconst 0, 1) := by decide +kernel
theorem dX4_tries_40 : decode cX4_tries 40 = .ok (.istore 5, 2) := by decide +kernel
theorem dX4_tries_42 : decode cX4_tries 42 = .ok (.iconst 0, 1) := by decide +kernel
theorem dX4_tries_43 : decode cX4_tries 43 = .ok (.istore 6, 2) := by decide +kernel
theorem dX4_tries_45 : decode cX4_tries 45 = .ok (.iload 6, 2) := by decide +kernel
theorem dX4_tries_47 : decode cX4_tries 47 = .ok (.aload_n 0, 1) := by decide +kernel
theorem dX4_tries_48 : decode cX4_tries 48 = .ok (.getfield 98, 3) := by decide +kernel
theorem dX4_tries_51 : decode cX4_tries 51 = .ok (.if_icmp .ge 54, 3) := by decide +kernel
theorem dX4_tries_54 : decode cX4_tries 54 = .ok (.aload_n 0, 1) := by decide +kernel
theorem dX4_tries_55 : decode cX4_tries 55 = .ok (.iload_n 1, 1) := by decide +kernel
theorem dX4_tries_56 : decode cX4_tries 56 = .ok (.iload 6, 2) := by decide +kernel
theorem dX4_tries_58 : decode cX4_tries 58 = .ok (.invokevirtual 101, 3) := by decide +kernel
theorem dX4_tries_61 : decode cX4_tries 61 = .ok (.lstore 7, 2) := by decide +kernel
theorem dX4_tries_63 : decode cX4_tries 63 = .ok (.lload 7, 2) := by decide +kernel
theorem dX4_tries_65 : decode cX4_tries 65 = .ok (.lconst 0, 1) := by decide +kernel
theorem dX4_tries_66 : decode cX4_tries 66 = .ok (.lcmp, 1) := by decide +kernel
theorem dX4_tries_67 : decode cX4_tries 67 = .ok (.ifCond .le 10, 3) := by decide +kernel
theorem dX4_tries_70 : decode cX4_tries 70 = .ok (.iload 4, 2) := by decide +kernel
theorem dX4_tries_72 : decode cX4_tries 72 = .ok (.iconst 1, 1) := by decide +kernel
theorem dX4_tries_73 : decode cX4_tries 73 = .ok (.iadd, 1) := by decide +kernel
theorem dX4_tries_74 : decode cX4_tries 74 = .ok (.goto 5, 3) := by decide +kernel
theorem dX4_tries_77 : decode cX4_tries 77 = .ok (.iload 4, 2) := by decide +kernel
theorem dX4_tries_79 : decode cX4_tries 79 = .ok (.istore 4, 2) := by decide +kernel
theorem dX4_tries_81 : decode cX4_tries 81 = .ok (.lload 7, 2) := by decide +kernel
theorem dX4_tries_83 : decode cX4_tries 83 = .ok (.lconst 0, 1) := by decide +kernel
theorem dX4_tries_84 : decode cX4_tries 84 = .ok (.lcmp, 1) := by decide +kernel
theorem dX4_tries_85 : decode cX4_tries 85 = .ok (.ifCond .ge 10, 3) := by decide +kernel
theorem dX4_tries_88 : decode cX4_tries 88 = .ok (.iload 5, 2) := by decide +kernel
theorem dX4_tries_90 : decode cX4_tries 90 = .ok (.iconst 1, 1) := by decide +kernel
theorem dX4_tries_91 : decode cX4_tries 91 = .ok (.iadd, 1) := by decide +kernel
theorem dX4_tries_92 : decode cX4_tries 92 = .ok (.goto 5, 3) := by decide +kernel
theorem dX4_tries_95 : decode cX4_tries 95 = .ok (.iload 5, 2) := by decide +kernel
theorem dX4_tries_97 : decode cX4_tries 97 = .ok (.istore 5, 2) := by decide +kernel
theorem dX4_tries_99 : decode cX4_tries 99 = .ok (.iinc 6 1, 3) := by decide +kernel
theorem dX4_tries_102 : decode cX4_tries 102 = .ok (.goto (-57), 3) := by decide +kernel
theorem dX4_tries_105 : decode cX4_tries 105 = .ok (.iload 4, 2) := by decide +kernel
theorem dX4_tries_107 : decode cX4_tries 107 = .ok (.ifCond .ne 10, 3) := by decide +kernel
theorem dX4_tries_110 : decode cX4_tries 110 = .ok (.iload 5, 2) := by decide +kernel
theorem dX4_tries_112 : decode cX4_tries 112 = .ok (.ifCond .ne 5, 3) := by decide +kernel
theorem dX4_tries_115 : decode cX4_tries 115 = .ok (.iconst 1, 1) := by decide +kernel
theorem dX4_tries_116 : decode cX4_tries 116 = .ok (.ireturn, 1) := by decide +kernel
theorem dX4_tries_117 : decode cX4_tries 117 = .ok (.iload 4, 2) := by decide +kernel
theorem dX4_tries_119 : decode cX4_tries 119 = .ok (.ifCond .eq 8, 3) := by decide +kernel
theorem dX4_tries_122 : decode cX4_tries 122 = .ok (.iload 5, 2) := by decide +kernel
theorem dX4_tries_124 : decode cX4_tries 124 = .ok (.ifCond .ne 112, 3) := by decide +kernel
theorem dX4_tries_127 : decode cX4_tries 127 = .ok (.iload 4, 2) := by decide +kernel
theorem dX4_tries_129 : decode cX4_tries 129 = .ok (.ifCond .ne 7, 3) := by decide +kernel
theorem dX4_tries_132 : decode cX4_tries 132 = .ok (.lconst 1, 1) := by decide +kernel
theorem dX4_tries_133 : decode cX4_tries 133 = .ok (.goto 6, 3) := by decide +kernel
theorem dX4_tries_136 : decode cX4_tries 136 = .ok (.ldc2_w 105, 3) := by decide +kernel
theorem dX4_tries_139 : decode cX4_tries 139 = .ok (.lstore 6, 2) := by decide +kernel
theorem dX4_tries_141 : decode cX4_tries 141 = .ok (.lload 6, 2) := by decide +kernel
theorem dX4_tries_143 : decode cX4_tries 143 = .ok (.aload_n 0, 1) := by decide +kernel
theorem dX4_tries_144 : decode cX4_tries 144 = .ok (.getfield 81, 3) := by decide +kernel
theorem dX4_tries_147 : decode cX4_tries 147 = .ok (.aload_n 0, 1) := by decide +kernel
theorem dX4_tries_148 : decode cX4_tries 148 = .ok (.getfield 85, 3) := by decide +kernel
theorem dX4_tries_151 : decode cX4_tries 151 = .ok (.invokestatic 107, 3) := by decide +kernel
theorem dX4_tries_154 : decode cX4_tries 154 = .ok (.aload_n 0, 1) := by decide +kernel
theorem dX4_tries_155 : decode cX4_tries 155 = .ok (.getfield 88, 3) := by decide +kernel
theorem dX4_tries_158 : decode cX4_tries 158 = .ok (.invokestatic 107, 3) := by decide +kernel
theorem dX4_tries_161 : decode cX4_tries 161 = .ok (.lmul, 1) := by decide +kernel
theorem dX4_tries_162 : decode cX4_tries 162 = .ok (.lstore 8, 2) := by decide +kernel
theorem dX4_tries_164 : decode cX4_tries 164 = .ok (.aload_n 0, 1) := by decide +kernel
theorem dX4_tries_165 : decode cX4_tries 165 = .ok (.aload_n 0, 1) := by decide +kernel
theorem dX4_tries_166 : decode cX4_tries 166 = .ok (.getfield 81, 3) := by decide +kernel
theorem dX4_tries_169 : decode cX4_tries 169 = .ok (.lload 8, 2) := by decide +kernel
theorem dX4_tries_171 : decode cX4_tries 171 = .ok (.ldiv, 1) := by decide +kernel
theorem dX4_tries_172 : decode cX4_tries 172 = .ok (.putfield 81, 3) := by decide +kernel
theorem dX4_tries_175 : decode cX4_tries 175 = .ok (.aload_n 0, 1) := by decide +kernel
theorem dX4_tries_176 : decode cX4_tries 176 = .ok (.aload_n 0, 1) := by decide +kernel
theorem dX4_tries_177 : decode cX4_tries 177 = .ok (.getfield 85, 3) := by decide +kernel
theorem dX4_tries_180 : decode cX4_tries 180 = .ok (.lload 8, 2) := by decide +kernel
theorem dX4_tries_182 : decode cX4_tries 182 = .ok (.ldiv, 1) := by decide +kernel
theorem dX4_tries_183 : decode cX4_tries 183 = .ok (.putfield 85, 3) := by decide +kernel
theorem dX4_tries_186 : decode cX4_tries 186 = .ok (.aload_n 0, 1) := by decide +kernel
theorem dX4_tries_187 : decode cX4_tries 187 = .ok (.aload_n 0, 1) := by decide +kernel
theorem dX4_tries_188 : decode cX4_tries 188 = .ok (.getfield 88, 3) := by decide +kernel
theorem dX4_tries_191 : decode cX4_tries 191 = .ok (.lload 8, 2) := by decide +kernel
theorem dX4_tries_193 : decode cX4_tries 193 = .ok (.ldiv, 1) := by decide +kernel
theorem dX4_tries_194 : decode cX4_tries 194 = .ok (.putfield 88, 3) := by decide +kernel
theorem dX4_tries_197 : decode cX4_tries 197 = .ok (.aload_n 0, 1) := by decide +kernel
theorem dX4_tries_198 : decode cX4_tries 198 = .ok (.aload_n 0, 1) := by decide +kernel
theorem dX4_tries_199 : decode cX4_tries 199 = .ok (.getfield 81, 3) := by decide +kernel
theorem dX4_tries_202 : decode cX4_tries 202 = .ok (.aload_n 0, 1) := by decide +kernel
theorem dX4_tries_203 : decode cX4_tries 203 = .ok (.getfield 19, 3) := by decide +kernel
theorem dX4_tries_206 : decode cX4_tries 206 = .ok (.iload_n 1, 1) := by decide +kernel
theorem dX4_tries_207 : decode cX4_tries 207 = .ok (.laload, 1) := by decide +kernel
theorem dX4_tries_208 : decode cX4_tries 208 = .ok (.lmul, 1) := by decide +kernel
theorem dX4_tries_209 : decode cX4_tries 209 = .ok (.aload_n 0, 1) := by decide +kernel
theorem dX4_tries_210 : decode cX4_tries 210 = .ok (.getfield 85, 3) := by decide +kernel
theorem dX4_tries_213 : decode cX4_tries 213 = .ok (.aload_n 0, 1) := by decide +kernel
theorem dX4_tries_214 : decode cX4_tries 214 = .ok (.getfield 23, 3) := by decide +kernel
theorem dX4_tries_217 : decode cX4_tries 217 = .ok (.iload_n 1, 1) := by decide +kernel
theorem dX4_tries_218 : decode cX4_tries 218 = .ok (.laload, 1) := by decide +kernel
theorem dX4_tries_219 : decode cX4_tries 219 = .ok (.lmul, 1) := by decide +kernel
theorem dX4_tries_220 : decode cX4_tries 220 = .ok (.ladd, 1) := by decide +kernel
theorem dX4_tries_221 : decode cX4_tries 221 = .ok (.aload_n 0, 1) := by decide +kernel
theorem dX4_tries_222 : decode cX4_tries 222 = .ok (.getfield 88, 3) := by decide +kernel
theorem dX4_tries_225 : decode cX4_tries 225 = .ok (.aload_n 0, 1) := by decide +kernel
theorem dX4_tries_226 : decode cX4_tries 226 = .ok (.getfield 26, 3) := by decide +kernel
