theorem dX12_overBy_223 : decode cX12_overBy 223 = .ok (.iaload, 1) := by decide +kernel
theorem dX12_overBy_224 : decode cX12_overBy 224 = .ok (.iconst 1, 1) := by decide +kernel
theorem dX12_overBy_225 : decode cX12_overBy 225 = .ok (.isub, 1) := by decide +kernel
theorem dX12_overBy_226 : decode cX12_overBy 226 = .ok (.iload 8, 2) := by decide +kernel
theorem dX12_overBy_228 : decode cX12_overBy 228 = .ok (.iload_n 1, 1) := by decide +kernel
theorem dX12_overBy_229 : decode cX12_overBy 229 = .ok (.invokevirtual 212, 3) := by decide +kernel
theorem dX12_overBy_232 : decode cX12_overBy 232 = .ok (.iaload, 1) := by decide +kernel
theorem dX12_overBy_233 : decode cX12_overBy 233 = .ok (.aload_n 0, 1) := by decide +kernel
theorem dX12_overBy_234 : decode cX12_overBy 234 = .ok (.getfield 57, 3) := by decide +kernel
theorem dX12_overBy_237 : decode cX12_overBy 237 = .ok (.iload 8, 2) := by decide +kernel
theorem dX12_overBy_239 : decode cX12_overBy 239 = .ok (.iaload, 1) := by decide +kernel
theorem dX12_overBy_240 : decode cX12_overBy 240 = .ok (.iconst 1, 1) := by decide +kernel
theorem dX12_overBy_241 : decode cX12_overBy 241 = .ok (.isub, 1) := by decide +kernel
theorem dX12_overBy_242 : decode cX12_overBy 242 = .ok (.if_icmp .eq 9, 3) := by decide +kernel
theorem dX12_overBy_245 : decode cX12_overBy 245 = .ok (.iinc 10 1, 3) := by decide +kernel
theorem dX12_overBy_248 : decode cX12_overBy 248 = .ok (.goto (-64), 3) := by decide +kernel
theorem dX12_overBy_251 : decode cX12_overBy 251 = .ok (.aload_n 0, 1) := by decide +kernel
theorem dX12_overBy_252 : decode cX12_overBy 252 = .ok (.aload_n 0, 1) := by decide +kernel
theorem dX12_overBy_253 : decode cX12_overBy 253 = .ok (.getfield 39, 3) := by decide +kernel
theorem dX12_overBy_256 : decode cX12_overBy 256 = .ok (.iconst 4, 1) := by decide +kernel
theorem dX12_overBy_257 : decode cX12_overBy 257 = .ok (.iload 10, 2) := by decide +kernel
theorem dX12_overBy_259 : decode cX12_overBy 259 = .ok (.imul, 1) := by decide +kernel
theorem dX12_overBy_260 : decode cX12_overBy 260 = .ok (.iaload, 1) := by decide +kernel
theorem dX12_overBy_261 : decode cX12_overBy 261 = .ok (.iconst 1, 1) := by decide +kernel
theorem dX12_overBy_262 : decode cX12_overBy 262 = .ok (.isub, 1) := by decide +kernel
theorem dX12_overBy_263 : decode cX12_overBy 263 = .ok (.iload 8, 2) := by decide +kernel
theorem dX12_overBy_265 : decode cX12_overBy 265 = .ok (.iload_n 1, 1) := by decide +kernel
theorem dX12_overBy_266 : decode cX12_overBy 266 = .ok (.invokevirtual 212, 3) := by decide +kernel
theorem dX12_overBy_269 : decode cX12_overBy 269 = .ok (.istore 8, 2) := by decide +kernel
theorem dX12_overBy_271 : decode cX12_overBy 271 = .ok (.aload_n 0, 1) := by decide +kernel
theorem dX12_overBy_272 : decode cX12_overBy 272 = .ok (.getfield 51, 3) := by decide +kernel
theorem dX12_overBy_275 : decode cX12_overBy 275 = .ok (.iload 10, 2) := by decide +kernel
theorem dX12_overBy_277 : decode cX12_overBy 277 = .ok (.iload 8, 2) := by decide +kernel
theorem dX12_overBy_279 : decode cX12_overBy 279 = .ok (.iastore, 1) := by decide +kernel
theorem dX12_overBy_280 : decode cX12_overBy 280 = .ok (.iload 10, 2) := by decide +kernel
theorem dX12_overBy_282 : decode cX12_overBy 282 = .ok (.istore 9, 2) := by decide +kernel
theorem dX12_overBy_284 : decode cX12_overBy 284 = .ok (.goto (-113), 3) := by decide +kernel
theorem dX12_overBy_287 : decode cX12_overBy 287 = .ok (.aload_n 0, 1) := by decide +kernel
theorem dX12_overBy_288 : decode cX12_overBy 288 = .ok (.getfield 54, 3) := by decide +kernel
theorem dX12_overBy_291 : decode cX12_overBy 291 = .ok (.iload 8, 2) := by decide +kernel
theorem dX12_overBy_293 : decode cX12_overBy 293 = .ok (.dup2, 1) := by decide +kernel
theorem dX12_overBy_294 : decode cX12_overBy 294 = .ok (.iaload, 1) := by decide +kernel
theorem dX12_overBy_295 : decode cX12_overBy 295 = .ok (.iconst 1, 1) := by decide +kernel
theorem dX12_overBy_296 : decode cX12_overBy 296 = .ok (.iadd, 1) := by decide +kernel
theorem dX12_overBy_297 : decode cX12_overBy 297 = .ok (.iastore, 1) := by decide +kernel
theorem dX12_overBy_298 : decode cX12_overBy 298 = .ok (.iinc 4 1, 3) := by decide +kernel
theorem dX12_overBy_301 : decode cX12_overBy 301 = .ok (.goto (-273), 3) := by decide +kernel
theorem dX12_overBy_304 : decode cX12_overBy 304 = .ok (.iload_n 3, 1) := by decide +kernel
theorem dX12_overBy_305 : decode cX12_overBy 305 = .ok (.ireturn, 1) := by decide +kernel
theorem dX12_over_0 : decode cX12_over 0 = .ok (.aload_n 0, 1) := by decide +kernel
theorem dX12_over_1 : decode cX12_over 1 = .ok (.iconst 0, 1) := by decide +kernel
theorem dX12_over_2 : decode cX12_over 2 = .ok (.invokevirtual 152, 3) := by decide +kernel
theorem dX12_over_5 : decode cX12_over 5 = .ok (.aload_n 0, 1) := by decide +kernel
theorem dX12_over_6 : decode cX12_over 6 = .ok (.invokevirtual 218, 3) := by decide +kernel
theorem dX12_over_9 : decode cX12_over 9 = .ok (.aload_n 0, 1) := by decide +kernel
theorem dX12_over_10 : decode cX12_over 10 = .ok (.aload_n 0, 1) := by decide +kernel
theorem dX12_over_11 : decode cX12_over 11 = .ok (.getfield 7, 3) := by decide +kernel
theorem dX12_over_14 : decode cX12_over 14 = .ok (.iconst 0, 1) := by decide +kernel
theorem dX12_over_15 : decode cX12_over 15 = .ok (.iaload, 1) := by decide +kernel
theorem dX12_over_16 : decode cX12_over 16 = .ok (.aload_n 0, 1) := by decide +kernel
theorem dX12_over_17 : decode cX12_over 17 = .ok (.getfield 7, 3) := by decide +kernel
theorem dX12_over_20 : decode cX12_over 20 = .ok (.iconst 1, 1) := by decide +kernel
theorem dX12_over_21 : decode cX12_over 21 = .ok (.iaload, 1) := by decide +kernel
theorem dX12_over_22 : decode cX12_over 22 = .ok (.invokevirtual 221, 3) := by decide +kernel
theorem dX12_over_25 : decode cX12_over 25 = .ok (.ireturn, 1) := by decide +kernel
theorem dX12_fits_0 : decode cX12_fits 0 = .ok (.iload_n 1, 1) := by decide +kernel
theorem dX12_fits_1 : decode cX12_fits 1 = .ok (.invokestatic 224, 3) := by decide +kernel
theorem dX12_fits_4 : decode cX12_fits 4 = .ok (.ifCond .ne 5, 3) := by decide +kernel
theorem dX12_fits_7 : decode cX12_fits 7 = .ok (.iconst 0, 1) := by decide +kernel
theorem dX12_fits_8 : decode cX12_fits 8 = .ok (.ireturn, 1) := by decide +kernel
theorem dX12_fits_9 : decode cX12_fits 9 = .ok (.aload_n 0, 1) := by decide +kernel
theorem dX12_fits_10 : decode cX12_fits 10 = .ok (.iconst 0, 1) := by decide +kernel
theorem dX12_fits_11 : decode cX12_fits 11 = .ok (.invokevirtual 152, 3) := by decide +kernel
theorem dX12_fits_14 : decode cX12_fits 14 = .ok (.aload_n 0, 1) := by decide +kernel
theorem dX12_fits_15 : decode cX12_fits 15 = .ok (.invokevirtual 218, 3) := by decide +kernel
theorem dX12_fits_18 : decode cX12_fits 18 = .ok (.aload_n 0, 1) := by decide +kernel
theorem dX12_fits_19 : decode cX12_fits 19 = .ok (.iconst 0, 1) := by decide +kernel
theorem dX12_fits_20 : decode cX12_fits 20 = .ok (.iload_n 1, 1) := by decide +kernel
theorem dX12_fits_21 : decode cX12_fits 21 = .ok (.invokevirtual 166, 3) := by decide +kernel
theorem dX12_fits_24 : decode cX12_fits 24 = .ok (.ifCond .ge 10, 3) := by decide +kernel
theorem dX12_fits_27 : decode cX12_fits 27 = .ok (.aload_n 0, 1) := by decide +kernel
theorem dX12_fits_28 : decode cX12_fits 28 = .ok (.iload_n 1, 1) := by decide +kernel
theorem dX12_fits_29 : decode cX12_fits 29 = .ok (.iconst 0, 1) := by decide +kernel
theorem dX12_fits_30 : decode cX12_fits 30 = .ok (.iconst 0, 1) := by decide +kernel
theorem dX12_fits_31 : decode cX12_fits 31 = .ok (.invokevirtual 155, 3) := by decide +kernel
theorem dX12_fits_34 : decode cX12_fits 34 = .ok (.aload_n 0, 1) := by decide +kernel
theorem dX12_fits_35 : decode cX12_fits 35 = .ok (.aload_n 0, 1) := by decide +kernel
theorem dX12_fits_36 : decode cX12_fits 36 = .ok (.getfield 7, 3) := by decide +kernel
theorem dX12_fits_39 : decode cX12_fits 39 = .ok (.iconst 0, 1) := by decide +kernel
theorem dX12_fits_40 : decode cX12_fits 40 = .ok (.iaload, 1) := by decide +kernel
theorem dX12_fits_41 : decode cX12_fits 41 = .ok (.aload_n 0, 1) := by decide +kernel
theorem dX12_fits_42 : decode cX12_fits 42 = .ok (.getfield 7, 3) := by decide +kernel
theorem dX12_fits_45 : decode cX12_fits 45 = .ok (.iconst 1, 1) := by decide +kernel
theorem dX12_fits_46 : decode cX12_fits 46 = .ok (.iaload, 1) := by decide +kernel
theorem dX12_fits_47 : decode cX12_fits 47 = .ok (.invokevirtual 221, 3) := by decide +kernel
theorem dX12_fits_50 : decode cX12_fits 50 = .ok (.ifCond .ne 7, 3) := by decide +kernel
theorem dX12_fits_53 : decode cX12_fits 53 = .ok (.iconst 1, 1) := by decide +kernel
theorem dX12_fits_54 : decode cX12_fits 54 = .ok (.goto 4, 3) := by decide +kernel
theorem dX12_fits_57 : decode cX12_fits 57 = .ok (.iconst 0, 1) := by decide +kernel
theorem dX12_fits_58 : decode cX12_fits 58 = .ok (.ireturn, 1) := by decide +kernel
theorem dX12_least_0 : decode cX12_least 0 = .ok (.iload_n 1, 1) := by decide +kernel
theorem dX12_least_1 : decode cX12_least 1 = .ok (.iconst 0, 1) := by decide +kernel
theorem dX12_least_2 : decode cX12_least 2 = .ok (.iconst 2, 1) := by decide +kernel
theorem dX12_least_3 : decode cX12_least 3 = .ok (.invokestatic 79, 3) := by decide +kernel
theorem dX12_least_6 : decode cX12_least 6 = .ok (.ifCond .ne 5, 3) := by decide +kernel
theorem dX12_least_9 : decode cX12_least 9 = .ok (.iconst (-1), 1) := by decide +kernel
theorem dX12_least_10 : decode cX12_least 10 = .ok (.ireturn, 1) := by decide +kernel
theorem dX12_least_11 : decode cX12_least 11 = .ok (.aload_n 0, 1) := by decide +kernel
theorem dX12_least_12 : decode cX12_least 12 = .ok (.iconst 0, 1) := by decide +kernel
theorem dX12_least_13 : decode cX12_least 13 = .ok (.invokevirtual 152, 3) := by decide +kernel
theorem dX12_least_16 : decode cX12_least 16 = .ok (.aload_n 0, 1) := by decide +kernel
theorem dX12_least_17 : decode cX12_least 17 = .ok (.invokevirtual 218, 3) := by decide +kernel
theorem dX12_least_20 : decode cX12_least 20 = .ok (.iload_n 1, 1) := by decide +kernel
theorem dX12_least_21 : decode cX12_least 21 = .ok (.ifCond .ne 8, 3) := by decide +kernel
theorem dX12_least_24 : decode cX12_least 24 = .ok (.bipush 32, 2) := by decide +kernel
theorem dX12_least_26 : decode cX12_least 26 = .ok (.goto 15, 3) := by decide +kernel
theorem dX12_least_29 : decode cX12_least 29 = .ok (.iload_n 1, 1) := by decide +kernel
theorem dX12_least_30 : decode cX12_least 30 = .ok (.iconst 1, 1) := by decide +kernel
theorem dX12_least_31 : decode cX12_least 31 = .ok (.if_icmp .ne 8, 3) := by decide +kernel
theorem dX12_least_34 : decode cX12_least 34 = .ok (.bipush 9, 2) := by decide +kernel
theorem dX12_least_36 : decode cX12_least 36 = .ok (.goto 5, 3) := by decide +kernel
theorem dX12_least_39 : decode cX12_least 39 = .ok (.bipush 40, 2) := by decide +kernel
theorem dX12_least_41 : decode cX12_least 41 = .ok (.istore_n 2, 1) := by decide +kernel
theorem dX12_least_42 : decode cX12_least 42 = .ok (.iconst 1, 1) := by decide +kernel
theorem dX12_least_43 : decode cX12_least 43 = .ok (.istore_n 3, 1) := by decide +kernel
theorem dX12_least_44 : decode cX12_least 44 = .ok (.iload_n 3, 1) := by decide +kernel
theorem dX12_least_45 : decode cX12_least 45 = .ok (.iload_n 2, 1) := by decide +kernel
theorem dX12_least_46 : decode cX12_least 46 = .ok (.if_icmp .gt 57, 3) := by decide +kernel
theorem dX12_least_49 : decode cX12_least 49 = .ok (.iload_n 1, 1) := by decide +kernel
theorem dX12_least_50 : decode cX12_least 50 = .ok (.iconst 2, 1) := by decide +kernel
theorem dX12_least_51 : decode cX12_least 51 = .ok (.if_icmp .ne 8, 3) := by decide +kernel
theorem dX12_least_54 : decode cX12_least 54 = .ok (.aload_n 0, 1) := by decide +kernel
theorem dX12_least_55 : decode cX12_least 55 = .ok (.iload_n 3, 1) := by decide +kernel
theorem dX12_least_56 : decode cX12_least 56 = .ok (.invokevirtual 227, 3) := by decide +kernel
theorem dX12_least_59 : decode cX12_least 59 = .ok (.aload_n 0, 1) := by decide +kernel
theorem dX12_least_60 : decode cX12_least 60 = .ok (.iload_n 1, 1) := by decide +kernel
theorem dX12_least_61 : decode cX12_least 61 = .ok (.ifCond .ne 7, 3) := by decide +kernel
theorem dX12_least_64 : decode cX12_least 64 = .ok (.iload_n 3, 1) := by decide +kernel
theorem dX12_least_65 : decode cX12_least 65 = .ok (.goto 9, 3) := by decide +kernel
theorem dX12_least_68 : decode cX12_least 68 = .ok (.aload_n 0, 1) := by decide +kernel
theorem dX12_least_69 : decode cX12_least 69 = .ok (.getfield 7, 3) := by decide +kernel
theorem dX12_least_72 : decode cX12_least 72 = .ok (.iconst 0, 1) := by decide +kernel
theorem dX12_least_73 : decode cX12_least 73 = .ok (.iaload, 1) := by decide +kernel
theorem dX12_least_74 : decode cX12_least 74 = .ok (.iload_n 1, 1) := by decide +kernel
theorem dX12_least_75 : decode cX12_least 75 = .ok (.iconst 1, 1) := by decide +kernel
theorem dX12_least_76 : decode cX12_least 76 = .ok (.if_icmp .ne 7, 3) := by decide +kernel
theorem dX12_least_79 : decode cX12_least 79 = .ok (.iload_n 3, 1) := by decide +kernel
theorem dX12_least_80 : decode cX12_least 80 = .ok (.goto 9, 3) := by decide +kernel
theorem dX12_least_83 : decode cX12_least 83 = .ok (.aload_n 0, 1) := by decide +kernel
theorem dX12_least_84 : decode cX12_least 84 = .ok (.getfield 7, 3) := by decide +kernel
theorem dX12_least_87 : decode cX12_least 87 = .ok (.iconst 1, 1) := by decide +kernel
theorem dX12_least_88 : decode cX12_least 88 = .ok (.iaload, 1) := by decide +kernel
theorem dX12_least_89 : decode cX12_least 89 = .ok (.invokevirtual 221, 3) := by decide +kernel
theorem dX12_least_92 : decode cX12_least 92 = .ok (.ifCond .ne 5, 3) := by decide +kernel
theorem dX12_least_95 : decode cX12_least 95 = .ok (.iload_n 3, 1) := by decide +kernel
theorem dX12_least_96 : decode cX12_least 96 = .ok (.ireturn, 1) := by decide +kernel
theorem dX12_least_97 : decode cX12_least 97 = .ok (.iinc 3 1, 3) := by decide +kernel
theorem dX12_least_100 : decode cX12_least 100 = .ok (.goto (-56), 3) := by decide +kernel
theorem dX12_least_103 : decode cX12_least 103 = .ok (.iconst (-1), 1) := by decide +kernel
theorem dX12_least_104 : decode cX12_least 104 = .ok (.ireturn, 1) := by decide +kernel
theorem dX12_drawsBy_0 : decode cX12_drawsBy 0 = .ok (.aload_n 0, 1) := by decide +kernel
theorem dX12_drawsBy_1 : decode cX12_drawsBy 1 = .ok (.iload_n 1, 1) := by decide +kernel
theorem dX12_drawsBy_2 : decode cX12_drawsBy 2 = .ok (.putfield 179, 3) := by decide +kernel
theorem dX12_drawsBy_5 : decode cX12_drawsBy 5 = .ok (.iconst 0, 1) := by decide +kernel
theorem dX12_drawsBy_6 : decode cX12_drawsBy 6 = .ok (.istore_n 2, 1) := by decide +kernel
theorem dX12_drawsBy_7 : decode cX12_drawsBy 7 = .ok (.iload_n 2, 1) := by decide +kernel
theorem dX12_drawsBy_8 : decode cX12_drawsBy 8 = .ok (.iconst 4, 1) := by decide +kernel
theorem dX12_drawsBy_9 : decode cX12_drawsBy 9 = .ok (.if_icmp .ge 40, 3) := by decide +kernel
theorem dX12_drawsBy_12 : decode cX12_drawsBy 12 = .ok (.aload_n 0, 1) := by decide +kernel
theorem dX12_drawsBy_13 : decode cX12_drawsBy 13 = .ok (.getfield 60, 3) := by decide +kernel
theorem dX12_drawsBy_16 : decode cX12_drawsBy 16 = .ok (.iload_n 2, 1) := by decide +kernel
theorem dX12_drawsBy_17 : decode cX12_drawsBy 17 = .ok (.iload_n 2, 1) := by decide +kernel
theorem dX12_drawsBy_18 : decode cX12_drawsBy 18 = .ok (.iconst 2, 1) := by decide +kernel
theorem dX12_drawsBy_19 : decode cX12_drawsBy 19 = .ok (.irem, 1) := by decide +kernel
theorem dX12_drawsBy_20 : decode cX12_drawsBy 20 = .ok (.ifCond .ne 15, 3) := by decide +kernel
theorem dX12_drawsBy_23 : decode cX12_drawsBy 23 = .ok (.iconst 1, 1) := by decide +kernel
theorem dX12_drawsBy_24 : decode cX12_drawsBy 24 = .ok (.aload_n 0, 1) := by decide +kernel
theorem dX12_drawsBy_25 : decode cX12_drawsBy 25 = .ok (.sipush 1008, 3) := by decide +kernel
theorem dX12_drawsBy_28 : decode cX12_drawsBy 28 = .ok (.invokevirtual 182, 3) := by decide +kernel
theorem dX12_drawsBy_31 : decode cX12_drawsBy 31 = .ok (.iadd, 1) := by decide +kernel
theorem dX12_drawsBy_32 : decode cX12_drawsBy 32 = .ok (.goto 10, 3) := by decide +kernel
theorem dX12_drawsBy_35 : decode cX12_drawsBy 35 = .ok (.aload_n 0, 1) := by decide +kernel
theorem dX12_drawsBy_36 : decode cX12_drawsBy 36 = .ok (.sipush 1009, 3) := by decide +kernel
theorem dX12_drawsBy_39 : decode cX12_drawsBy 39 = .ok (.invokevirtual 182, 3) := by decide +kernel
theorem dX12_drawsBy_42 : decode cX12_drawsBy 42 = .ok (.iastore, 1) := by decide +kernel
theorem dX12_drawsBy_43 : decode cX12_drawsBy 43 = .ok (.iinc 2 1, 3) := by decide +kernel
theorem dX12_drawsBy_46 : decode cX12_drawsBy 46 = .ok (.goto (-39), 3) := by decide +kernel
theorem dX12_drawsBy_49 : decode cX12_drawsBy 49 = .ok (.return_, 1) := by decide +kernel
theorem dX12_partOf_0 : decode cX12_partOf 0 = .ok (.aload_n 0, 1) := by decide +kernel
theorem dX12_partOf_1 : decode cX12_partOf 1 = .ok (.iconst 0, 1) := by decide +kernel
theorem dX12_partOf_2 : decode cX12_partOf 2 = .ok (.invokevirtual 152, 3) := by decide +kernel
theorem dX12_partOf_5 : decode cX12_partOf 5 = .ok (.iconst 1, 1) := by decide +kernel
theorem dX12_partOf_6 : decode cX12_partOf 6 = .ok (.iload_n 1, 1) := by decide +kernel
theorem dX12_partOf_7 : decode cX12_partOf 7 = .ok (.ishl, 1) := by decide +kernel
theorem dX12_partOf_8 : decode cX12_partOf 8 = .ok (.istore_n 2, 1) := by decide +kernel
theorem dX12_partOf_9 : decode cX12_partOf 9 = .ok (.iconst 0, 1) := by decide +kernel
theorem dX12_partOf_10 : decode cX12_partOf 10 = .ok (.istore_n 3, 1) := by decide +kernel
theorem dX12_partOf_11 : decode cX12_partOf 11 = .ok (.iload_n 2, 1) := by decide +kernel
theorem dX12_partOf_12 : decode cX12_partOf 12 = .ok (.iload_n 3, 1) := by decide +kernel
theorem dX12_partOf_13 : decode cX12_partOf 13 = .ok (.if_icmp .eq 83, 3) := by decide +kernel
theorem dX12_partOf_16 : decode cX12_partOf 16 = .ok (.iload_n 2, 1) := by decide +kernel
theorem dX12_partOf_17 : decode cX12_partOf 17 = .ok (.istore_n 3, 1) := by decide +kernel
theorem dX12_partOf_18 : decode cX12_partOf 18 = .ok (.iconst 0, 1) := by decide +kernel
theorem dX12_partOf_19 : decode cX12_partOf 19 = .ok (.istore 4, 2) := by decide +kernel
theorem dX12_partOf_21 : decode cX12_partOf 21 = .ok (.iload 4, 2) := by decide +kernel
theorem dX12_partOf_23 : decode cX12_partOf 23 = .ok (.aload_n 0, 1) := by decide +kernel
theorem dX12_partOf_24 : decode cX12_partOf 24 = .ok (.getfield 142, 3) := by decide +kernel
theorem dX12_partOf_27 : decode cX12_partOf 27 = .ok (.if_icmp .ge 66, 3) := by decide +kernel
theorem dX12_partOf_30 : decode cX12_partOf 30 = .ok (.iconst 1, 1) := by decide +kernel
theorem dX12_partOf_31 : decode cX12_partOf 31 = .ok (.aload_n 0, 1) := by decide +kernel
theorem dX12_partOf_32 : decode cX12_partOf 32 = .ok (.iconst 0, 1) := by decide +kernel
theorem dX12_partOf_33 : decode cX12_partOf 33 = .ok (.aload_n 0, 1) := by decide +kernel
theorem dX12_partOf_34 : decode cX12_partOf 34 = .ok (.getfield 39, 3) := by decide +kernel
theorem dX12_partOf_37 : decode cX12_partOf 37 = .ok (.iconst 4, 1) := by decide +kernel
theorem dX12_partOf_38 : decode cX12_partOf 38 = .ok (.iload 4, 2) := by decide +kernel
theorem dX12_partOf_40 : decode cX12_partOf 40 = .ok (.imul, 1) := by decide +kernel
theorem dX12_partOf_41 : decode cX12_partOf 41 = .ok (.iaload, 1) := by decide +kernel
theorem dX12_partOf_42 : decode cX12_partOf 42 = .ok (.iconst 1, 1) := by decide +kernel
theorem dX12_partOf_43 : decode cX12_partOf 43 = .ok (.isub, 1) := by decide +kernel
theorem dX12_partOf_44 : decode cX12_partOf 44 = .ok (.iconst 0, 1) := by decide +kernel
theorem dX12_partOf_45 : decode cX12_partOf 45 = .ok (.invokevirtual 88, 3) := by decide +kernel
theorem dX12_partOf_48 : decode cX12_partOf 48 = .ok (.ishl, 1) := by decide +kernel
theorem dX12_partOf_49 : decode cX12_partOf 49 = .ok (.iconst 1, 1) := by decide +kernel
theorem dX12_partOf_50 : decode cX12_partOf 50 = .ok (.aload_n 0, 1) := by decide +kernel
theorem dX12_partOf_51 : decode cX12_partOf 51 = .ok (.iconst 0, 1) := by decide +kernel
theorem dX12_partOf_52 : decode cX12_partOf 52 = .ok (.aload_n 0, 1) := by decide +kernel
theorem dX12_partOf_53 : decode cX12_partOf 53 = .ok (.getfield 39, 3) := by decide +kernel
theorem dX12_partOf_56 : decode cX12_partOf 56 = .ok (.iconst 4, 1) := by decide +kernel
theorem dX12_partOf_57 : decode cX12_partOf 57 = .ok (.iload 4, 2) := by decide +kernel
theorem dX12_partOf_59 : decode cX12_partOf 59 = .ok (.imul, 1) := by decide +kernel
theorem dX12_partOf_60 : decode cX12_partOf 60 = .ok (.iaload, 1) := by decide +kernel
theorem dX12_partOf_61 : decode cX12_partOf 61 = .ok (.iconst 1, 1) := by decide +kernel
theorem dX12_partOf_62 : decode cX12_partOf 62 = .ok (.isub, 1) := by decide +kernel
theorem dX12_partOf_63 : decode cX12_partOf 63 = .ok (.iconst 1, 1) := by decide +kernel
theorem dX12_partOf_64 : decode cX12_partOf 64 = .ok (.invokevirtual 88, 3) := by decide +kernel
theorem dX12_partOf_67 : decode cX12_partOf 67 = .ok (.ishl, 1) := by decide +kernel
theorem dX12_partOf_68 : decode cX12_partOf 68 = .ok (.ior, 1) := by decide +kernel
theorem dX12_partOf_69 : decode cX12_partOf 69 = .ok (.istore 5, 2) := by decide +kernel
theorem dX12_partOf_71 : decode cX12_partOf 71 = .ok (.iload_n 2, 1) := by decide +kernel
theorem dX12_partOf_72 : decode cX12_partOf 72 = .ok (.iload_n 2, 1) := by decide +kernel
theorem dX12_partOf_73 : decode cX12_partOf 73 = .ok (.iload 5, 2) := by decide +kernel
theorem dX12_partOf_75 : decode cX12_partOf 75 = .ok (.iand, 1) := by decide +kernel
theorem dX12_partOf_76 : decode cX12_partOf 76 = .ok (.ifCond .eq 8, 3) := by decide +kernel
theorem dX12_partOf_79 : decode cX12_partOf 79 = .ok (.iload 5, 2) := by decide +kernel
theorem dX12_partOf_81 : decode cX12_partOf 81 = .ok (.goto 4, 3) := by decide +kernel
theorem dX12_partOf_84 : decode cX12_partOf 84 = .ok (.iconst 0, 1) := by decide +kernel
theorem dX12_partOf_85 : decode cX12_partOf 85 = .ok (.ior, 1) := by decide +kernel
theorem dX12_partOf_86 : decode cX12_partOf 86 = .ok (.istore_n 2, 1) := by decide +kernel
theorem dX12_partOf_87 : decode cX12_partOf 87 = .ok (.iinc 4 1, 3) := by decide +kernel
theorem dX12_partOf_90 : decode cX12_partOf 90 = .ok (.goto (-69), 3) := by decide +kernel
theorem dX12_partOf_93 : decode cX12_partOf 93 = .ok (.goto (-82), 3) := by decide +kernel
theorem dX12_partOf_96 : decode cX12_partOf 96 = .ok (.iload_n 2, 1) := by decide +kernel
theorem dX12_partOf_97 : decode cX12_partOf 97 = .ok (.ireturn, 1) := by decide +kernel
theorem dX12_bitsOf_0 : decode cX12_bitsOf 0 = .ok (.iconst 0, 1) := by decide +kernel
theorem dX12_bitsOf_1 : decode cX12_bitsOf 1 = .ok (.istore_n 1, 1) := by decide +kernel
theorem dX12_bitsOf_2 : decode cX12_bitsOf 2 = .ok (.iload_n 0, 1) := by decide +kernel
theorem dX12_bitsOf_3 : decode cX12_bitsOf 3 = .ok (.istore_n 2, 1) := by decide +kernel
theorem dX12_bitsOf_4 : decode cX12_bitsOf 4 = .ok (.iload_n 2, 1) := by decide +kernel
theorem dX12_bitsOf_5 : decode cX12_bitsOf 5 = .ok (.ifCond .eq 15, 3) := by decide +kernel
theorem dX12_bitsOf_8 : decode cX12_bitsOf 8 = .ok (.iinc 1 1, 3) := by decide +kernel
theorem dX12_bitsOf_11 : decode cX12_bitsOf 11 = .ok (.iload_n 2, 1) := by decide +kernel
theorem dX12_bitsOf_12 : decode cX12_bitsOf 12 = .ok (.iload_n 2, 1) := by decide +kernel
theorem dX12_bitsOf_13 : decode cX12_bitsOf 13 = .ok (.iconst 1, 1) := by decide +kernel
theorem dX12_bitsOf_14 : decode cX12_bitsOf 14 = .ok (.isub, 1) := by decide +kernel
theorem dX12_bitsOf_15 : decode cX12_bitsOf 15 = .ok (.iand, 1) := by decide +kernel
theorem dX12_bitsOf_16 : decode cX12_bitsOf 16 = .ok (.istore_n 2, 1) := by decide +kernel
theorem dX12_bitsOf_17 : decode cX12_bitsOf 17 = .ok (.goto (-13), 3) := by decide +kernel
theorem dX12_bitsOf_20 : decode cX12_bitsOf 20 = .ok (.iload_n 1, 1) := by decide +kernel
theorem dX12_bitsOf_21 : decode cX12_bitsOf 21 = .ok (.ireturn, 1) := by decide +kernel
theorem dX12_membersOf_0 : decode cX12_membersOf 0 = .ok (.iconst 0, 1) := by decide +kernel
theorem dX12_membersOf_1 : decode cX12_membersOf 1 = .ok (.istore_n 2, 1) := by decide +kernel
theorem dX12_membersOf_2 : decode cX12_membersOf 2 = .ok (.iconst 0, 1) := by decide +kernel
theorem dX12_membersOf_3 : decode cX12_membersOf 3 = .ok (.istore_n 3, 1) := by decide +kernel
theorem dX12_membersOf_4 : decode cX12_membersOf 4 = .ok (.iload_n 3, 1) := by decide +kernel
theorem dX12_membersOf_5 : decode cX12_membersOf 5 = .ok (.aload_n 0, 1) := by decide +kernel
theorem dX12_membersOf_6 : decode cX12_membersOf 6 = .ok (.getfield 142, 3) := by decide +kernel
theorem dX12_membersOf_9 : decode cX12_membersOf 9 = .ok (.if_icmp .ge 32, 3) := by decide +kernel
theorem dX12_membersOf_12 : decode cX12_membersOf 12 = .ok (.iload_n 2, 1) := by decide +kernel
theorem dX12_membersOf_13 : decode cX12_membersOf 13 = .ok (.iload_n 1, 1) := by decide +kernel
theorem dX12_membersOf_14 : decode cX12_membersOf 14 = .ok (.aload_n 0, 1) := by decide +kernel
theorem dX12_membersOf_15 : decode cX12_membersOf 15 = .ok (.iconst 0, 1) := by decide +kernel
theorem dX12_membersOf_16 : decode cX12_membersOf 16 = .ok (.aload_n 0, 1) := by decide +kernel
theorem dX12_membersOf_17 : decode cX12_membersOf 17 = .ok (.getfield 39, 3) := by decide +kernel
theorem dX12_membersOf_20 : decode cX12_membersOf 20 = .ok (.iconst 4, 1) := by decide +kernel
theorem dX12_membersOf_21 : decode cX12_membersOf 21 = .ok (.iload_n 3, 1) := by decide +kernel
theorem dX12_membersOf_22 : decode cX12_membersOf 22 = .ok (.imul, 1) := by decide +kernel
theorem dX12_membersOf_23 : decode cX12_membersOf 23 = .ok (.iaload, 1) := by decide +kernel
theorem dX12_membersOf_24 : decode cX12_membersOf 24 = .ok (.iconst 1, 1) := by decide +kernel
theorem dX12_membersOf_25 : decode cX12_membersOf 25 = .ok (.isub, 1) := by decide +kernel
theorem dX12_membersOf_26 : decode cX12_membersOf 26 = .ok (.iconst 0, 1) := by decide +kernel
theorem dX12_membersOf_27 : decode cX12_membersOf 27 = .ok (.invokevirtual 88, 3) := by decide +kernel
theorem dX12_membersOf_30 : decode cX12_membersOf 30 = .ok (.ishr, 1) := by decide +kernel
theorem dX12_membersOf_31 : decode cX12_membersOf 31 = .ok (.iconst 1, 1) := by decide +kernel
theorem dX12_membersOf_32 : decode cX12_membersOf 32 = .ok (.iand, 1) := by decide +kernel
theorem dX12_membersOf_33 : decode cX12_membersOf 33 = .ok (.iadd, 1) := by decide +kernel
theorem dX12_membersOf_34 : decode cX12_membersOf 34 = .ok (.istore_n 2, 1) := by decide +kernel
theorem dX12_membersOf_35 : decode cX12_membersOf 35 = .ok (.iinc 3 1, 3) := by decide +kernel
theorem dX12_membersOf_38 : decode cX12_membersOf 38 = .ok (.goto (-34), 3) := by decide +kernel
theorem dX12_membersOf_41 : decode cX12_membersOf 41 = .ok (.iload_n 2, 1) := by decide +kernel
theorem dX12_membersOf_42 : decode cX12_membersOf 42 = .ok (.ireturn, 1) := by decide +kernel
theorem dX12_part_0 : decode cX12_part 0 = .ok (.iload_n 1, 1) := by decide +kernel
theorem dX12_part_1 : decode cX12_part 1 = .ok (.iconst 0, 1) := by decide +kernel
theorem dX12_part_2 : decode cX12_part 2 = .ok (.aload_n 0, 1) := by decide +kernel
theorem dX12_part_3 : decode cX12_part 3 = .ok (.getfield 7, 3) := by decide +kernel
theorem dX12_part_6 : decode cX12_part 6 = .ok (.iconst 0, 1) := by decide +kernel
theorem dX12_part_7 : decode cX12_part 7 = .ok (.iaload, 1) := by decide +kernel
theorem dX12_part_8 : decode cX12_part 8 = .ok (.iconst 1, 1) := by decide +kernel
theorem dX12_part_9 : decode cX12_part 9 = .ok (.isub, 1) := by decide +kernel
theorem dX12_part_10 : decode cX12_part 10 = .ok (.invokestatic 79, 3) := by decide +kernel
theorem dX12_part_13 : decode cX12_part 13 = .ok (.ifCond .eq 12, 3) := by decide +kernel
theorem dX12_part_16 : decode cX12_part 16 = .ok (.iload_n 2, 1) := by decide +kernel
theorem dX12_part_17 : decode cX12_part 17 = .ok (.iconst 0, 1) := by decide +kernel
theorem dX12_part_18 : decode cX12_part 18 = .ok (.iconst 4, 1) := by decide +kernel
theorem dX12_part_19 : decode cX12_part 19 = .ok (.invokestatic 79, 3) := by decide +kernel
theorem dX12_part_22 : decode cX12_part 22 = .ok (.ifCond .ne 5, 3) := by decide +kernel
theorem dX12_part_25 : decode cX12_part 25 = .ok (.iconst (-1), 1) := by decide +kernel
theorem dX12_part_26 : decode cX12_part 26 = .ok (.ireturn, 1) := by decide +kernel
theorem dX12_part_27 : decode cX12_part 27 = .ok (.aload_n 0, 1) := by decide +kernel
theorem dX12_part_28 : decode cX12_part 28 = .ok (.iload_n 1, 1) := by decide +kernel
theorem dX12_part_29 : decode cX12_part 29 = .ok (.invokevirtual 230, 3) := by decide +kernel
theorem dX12_part_32 : decode cX12_part 32 = .ok (.istore_n 3, 1) := by decide +kernel
theorem dX12_part_33 : decode cX12_part 33 = .ok (.aload_n 0, 1) := by decide +kernel
theorem dX12_part_34 : decode cX12_part 34 = .ok (.iload_n 3, 1) := by decide +kernel
theorem dX12_part_35 : decode cX12_part 35 = .ok (.invokevirtual 233, 3) := by decide +kernel
theorem dX12_part_38 : decode cX12_part 38 = .ok (.istore 4, 2) := by decide +kernel
theorem dX12_part_40 : decode cX12_part 40 = .ok (.iload_n 3, 1) := by decide +kernel
theorem dX12_part_41 : decode cX12_part 41 = .ok (.invokestatic 236, 3) := by decide +kernel
theorem dX12_part_44 : decode cX12_part 44 = .ok (.istore 5, 2) := by decide +kernel
theorem dX12_part_46 : decode cX12_part 46 = .ok (.iload_n 2, 1) := by decide +kernel
theorem dX12_part_47 : decode cX12_part 47 = .ok (.ifCond .ne 5, 3) := by decide +kernel
theorem dX12_part_50 : decode cX12_part 50 = .ok (.iload_n 3, 1) := by decide +kernel
theorem dX12_part_51 : decode cX12_part 51 = .ok (.ireturn, 1) := by decide +kernel
theorem dX12_part_52 : decode cX12_part 52 = .ok (.iload_n 2, 1) := by decide +kernel
theorem dX12_part_53 : decode cX12_part 53 = .ok (.iconst 1, 1) := by decide +kernel
theorem dX12_part_54 : decode cX12_part 54 = .ok (.if_icmp .ne 6, 3) := by decide +kernel
theorem dX12_part_57 : decode cX12_part 57 = .ok (.iload 4, 2) := by decide +kernel
theorem dX12_part_59 : decode cX12_part 59 = .ok (.ireturn, 1) := by decide +kernel
theorem dX12_part_60 : decode cX12_part 60 = .ok (.iload_n 2, 1) := by decide +kernel
theorem dX12_part_61 : decode cX12_part 61 = .ok (.iconst 2, 1) := by decide +kernel
theorem dX12_part_62 : decode cX12_part 62 = .ok (.if_icmp .ne 13, 3) := by decide +kernel
theorem dX12_part_65 : decode cX12_part 65 = .ok (.iload 5, 2) := by decide +kernel
theorem dX12_part_67 : decode cX12_part 67 = .ok (.aload_n 0, 1) := by decide +kernel
theorem dX12_part_68 : decode cX12_part 68 = .ok (.getfield 7, 3) := by decide +kernel
theorem dX12_part_71 : decode cX12_part 71 = .ok (.iconst 1, 1) := by decide +kernel
theorem dX12_part_72 : decode cX12_part 72 = .ok (.iaload, 1) := by decide +kernel
theorem dX12_part_73 : decode cX12_part 73 = .ok (.imul, 1) := by decide +kernel
theorem dX12_part_74 : decode cX12_part 74 = .ok (.ireturn, 1) := by decide +kernel
theorem dX12_part_75 : decode cX12_part 75 = .ok (.iload_n 2, 1) := by decide +kernel
theorem dX12_part_76 : decode cX12_part 76 = .ok (.iconst 3, 1) := by decide +kernel
theorem dX12_part_77 : decode cX12_part 77 = .ok (.if_icmp .ne 27, 3) := by decide +kernel
theorem dX12_part_80 : decode cX12_part 80 = .ok (.iload 4, 2) := by decide +kernel
theorem dX12_part_82 : decode cX12_part 82 = .ok (.iload 5, 2) := by decide +kernel
theorem dX12_part_84 : decode cX12_part 84 = .ok (.if_icmp .ge 7, 3) := by decide +kernel
theorem dX12_part_87 : decode cX12_part 87 = .ok (.iconst 0, 1) := by decide +kernel
theorem dX12_part_88 : decode cX12_part 88 = .ok (.goto 15, 3) := by decide +kernel
theorem dX12_part_91 : decode cX12_part 91 = .ok (.iload 4, 2) := by decide +kernel
theorem dX12_part_93 : decode cX12_part 93 = .ok (.iload 5, 2) := by decide +kernel
theorem dX12_part_95 : decode cX12_part 95 = .ok (.if_icmp .ne 7, 3) := by decide +kernel
theorem dX12_part_98 : decode cX12_part 98 = .ok (.iconst 1, 1) := by decide +kernel
theorem dX12_part_99 : decode cX12_part 99 = .ok (.goto 4, 3) := by decide +kernel
theorem dX12_part_102 : decode cX12_part 102 = .ok (.iconst 2, 1) := by decide +kernel
theorem dX12_part_103 : decode cX12_part 103 = .ok (.ireturn, 1) := by decide +kernel
theorem dX12_part_104 : decode cX12_part 104 = .ok (.iconst 0, 1) := by decide +kernel
theorem dX12_part_105 : decode cX12_part 105 = .ok (.istore 6, 2) := by decide +kernel
theorem dX12_part_107 : decode cX12_part 107 = .ok (.iconst 0, 1) := by decide +kernel
theorem dX12_part_108 : decode cX12_part 108 = .ok (.istore 7, 2) := by decide +kernel
theorem dX12_part_110 : decode cX12_part 110 = .ok (.iload 7, 2) := by decide +kernel
theorem dX12_part_112 : decode cX12_part 112 = .ok (.aload_n 0, 1) := by decide +kernel
theorem dX12_part_113 : decode cX12_part 113 = .ok (.getfield 7, 3) := by decide +kernel
theorem dX12_part_116 : decode cX12_part 116 = .ok (.iconst 0, 1) := by decide +kernel
theorem dX12_part_117 : decode cX12_part 117 = .ok (.iaload, 1) := by decide +kernel
theorem dX12_part_118 : decode cX12_part 118 = .ok (.if_icmp .ge 28, 3) := by decide +kernel
theorem dX12_part_121 : decode cX12_part 121 = .ok (.iload 6, 2) := by decide +kernel
theorem dX12_part_123 : decode cX12_part 123 = .ok (.iload_n 3, 1) := by decide +kernel
theorem dX12_part_124 : decode cX12_part 124 = .ok (.iload 7, 2) := by decide +kernel
theorem dX12_part_126 : decode cX12_part 126 = .ok (.ishr, 1) := by decide +kernel
theorem dX12_part_127 : decode cX12_part 127 = .ok (.iconst 1, 1) := by decide +kernel
theorem dX12_part_128 : decode cX12_part 128 = .ok (.iand, 1) := by decide +kernel
theorem dX12_part_129 : decode cX12_part 129 = .ok (.aload_n 0, 1) := by decide +kernel
theorem dX12_part_130 : decode cX12_part 130 = .ok (.iconst 0, 1) := by decide +kernel
theorem dX12_part_131 : decode cX12_part 131 = .ok (.iload 7, 2) := by decide +kernel
theorem dX12_part_133 : decode cX12_part 133 = .ok (.invokevirtual 239, 3) := by decide +kernel
theorem dX12_part_136 : decode cX12_part 136 = .ok (.imul, 1) := by decide +kernel
theorem dX12_part_137 : decode cX12_part 137 = .ok (.iadd, 1) := by decide +kernel
theorem dX12_part_138 : decode cX12_part 138 = .ok (.istore 6, 2) := by decide +kernel
theorem dX12_part_140 : decode cX12_part 140 = .ok (.iinc 7 1, 3) := by decide +kernel
theorem dX12_part_143 : decode cX12_part 143 = .ok (.goto (-33), 3) := by decide +kernel
theorem dX12_part_146 : decode cX12_part 146 = .ok (.iload 5, 2) := by decide +kernel
theorem dX12_part_148 : decode cX12_part 148 = .ok (.aload_n 0, 1) := by decide +kernel
theorem dX12_part_149 : decode cX12_part 149 = .ok (.getfield 7, 3) := by decide +kernel
theorem dX12_part_152 : decode cX12_part 152 = .ok (.iconst 1, 1) := by decide +kernel
theorem dX12_part_153 : decode cX12_part 153 = .ok (.iaload, 1) := by decide +kernel
theorem dX12_part_154 : decode cX12_part 154 = .ok (.imul, 1) := by decide +kernel
theorem dX12_part_155 : decode cX12_part 155 = .ok (.iload 6, 2) := by decide +kernel
theorem dX12_part_157 : decode cX12_part 157 = .ok (.isub, 1) := by decide +kernel
theorem dX12_part_158 : decode cX12_part 158 = .ok (.ireturn, 1) := by decide +kernel
theorem dX12_feed_0 : decode cX12_feed 0 = .ok (.aload_n 0, 1) := by decide +kernel
theorem dX12_feed_1 : decode cX12_feed 1 = .ok (.getfield 242, 3) := by decide +kernel
theorem dX12_feed_4 : decode cX12_feed 4 = .ok (.bipush 20, 2) := by decide +kernel
theorem dX12_feed_6 : decode cX12_feed 6 = .ok (.iadd, 1) := by decide +kernel
theorem dX12_feed_7 : decode cX12_feed 7 = .ok (.sipush 400, 3) := by decide +kernel
theorem dX12_feed_10 : decode cX12_feed 10 = .ok (.if_icmp .le 5, 3) := by decide +kernel
theorem dX12_feed_13 : decode cX12_feed 13 = .ok (.iconst (-1), 1) := by decide +kernel
theorem dX12_feed_14 : decode cX12_feed 14 = .ok (.ireturn, 1) := by decide +kernel
theorem dX12_feed_15 : decode cX12_feed 15 = .ok (.iconst 0, 1) := by decide +kernel
theorem dX12_feed_16 : decode cX12_feed 16 = .ok (.istore 6, 2) := by decide +kernel
theorem dX12_feed_18 : decode cX12_feed 18 = .ok (.iload 6, 2) := by decide +kernel
theorem dX12_feed_20 : decode cX12_feed 20 = .ok (.bipush 20, 2) := by decide +kernel
theorem dX12_feed_22 : decode cX12_feed 22 = .ok (.if_icmp .ge 86, 3) := by decide +kernel
theorem dX12_feed_25 : decode cX12_feed 25 = .ok (.iload 6, 2) := by decide +kernel
theorem dX12_feed_27 : decode cX12_feed 27 = .ok (.iconst 4, 1) := by decide +kernel
theorem dX12_feed_28 : decode cX12_feed 28 = .ok (.if_icmp .ge 7, 3) := by decide +kernel
theorem dX12_feed_31 : decode cX12_feed 31 = .ok (.iload_n 1, 1) := by decide +kernel
theorem dX12_feed_32 : decode cX12_feed 32 = .ok (.goto 39, 3) := by decide +kernel
theorem dX12_feed_35 : decode cX12_feed 35 = .ok (.iload 6, 2) := by decide +kernel
theorem dX12_feed_37 : decode cX12_feed 37 = .ok (.bipush 8, 2) := by decide +kernel
theorem dX12_feed_39 : decode cX12_feed 39 = .ok (.if_icmp .ge 7, 3) := by decide +kernel
theorem dX12_feed_42 : decode cX12_feed 42 = .ok (.iload_n 2, 1) := by decide +kernel
theorem dX12_feed_43 : decode cX12_feed 43 = .ok (.goto 28, 3) := by decide +kernel
theorem dX12_feed_46 : decode cX12_feed 46 = .ok (.iload 6, 2) := by decide +kernel
theorem dX12_feed_48 : decode cX12_feed 48 = .ok (.bipush 12, 2) := by decide +kernel
theorem dX12_feed_50 : decode cX12_feed 50 = .ok (.if_icmp .ge 7, 3) := by decide +kernel
theorem dX12_feed_53 : decode cX12_feed 53 = .ok (.iload_n 3, 1) := by decide +kernel
theorem dX12_feed_54 : decode cX12_feed 54 = .ok (.goto 17, 3) := by decide +kernel
theorem dX12_feed_57 : decode cX12_feed 57 = .ok (.iload 6, 2) := by decide +kernel
theorem dX12_feed_59 : decode cX12_feed 59 = .ok (.bipush 16, 2) := by decide +kernel
theorem dX12_feed_61 : decode cX12_feed 61 = .ok (.if_icmp .ge 8, 3) := by decide +kernel
theorem dX12_feed_64 : decode cX12_feed 64 = .ok (.iload 4, 2) := by decide +kernel
theorem dX12_feed_66 : decode cX12_feed 66 = .ok (.goto 5, 3) := by decide +kernel
theorem dX12_feed_69 : decode cX12_feed 69 = .ok (.iload 5, 2) := by decide +kernel
theorem dX12_feed_71 : decode cX12_feed 71 = .ok (.istore 7, 2) := by decide +kernel
theorem dX12_feed_73 : decode cX12_feed 73 = .ok (.aload_n 0, 1) := by decide +kernel
theorem dX12_feed_74 : decode cX12_feed 74 = .ok (.getfield 13, 3) := by decide +kernel
theorem dX12_feed_77 : decode cX12_feed 77 = .ok (.aload_n 0, 1) := by decide +kernel
theorem dX12_feed_78 : decode cX12_feed 78 = .ok (.getfield 242, 3) := by decide +kernel
theorem dX12_feed_81 : decode cX12_feed 81 = .ok (.iload 6, 2) := by decide +kernel
theorem dX12_feed_83 : decode cX12_feed 83 = .ok (.iadd, 1) := by decide +kernel
theorem dX12_feed_84 : decode cX12_feed 84 = .ok (.iload 7, 2) := by decide +kernel
theorem dX12_feed_86 : decode cX12_feed 86 = .ok (.bipush 24, 2) := by decide +kernel
theorem dX12_feed_88 : decode cX12_feed 88 = .ok (.bipush 8, 2) := by decide +kernel
theorem dX12_feed_90 : decode cX12_feed 90 = .ok (.iload 6, 2) := by decide +kernel
theorem dX12_feed_92 : decode cX12_feed 92 = .ok (.iconst 3, 1) := by decide +kernel
theorem dX12_feed_93 : decode cX12_feed 93 = .ok (.iand, 1) := by decide +kernel
theorem dX12_feed_94 : decode cX12_feed 94 = .ok (.imul, 1) := by decide +kernel
theorem dX12_feed_95 : decode cX12_feed 95 = .ok (.isub, 1) := by decide +kernel
theorem dX12_feed_96 : decode cX12_feed 96 = .ok (.ishr, 1) := by decide +kernel
theorem dX12_feed_97 : decode cX12_feed 97 = .ok (.sipush 255, 3) := by decide +kernel
theorem dX12_feed_100 : decode cX12_feed 100 = .ok (.iand, 1) := by decide +kernel
theorem dX12_feed_101 : decode cX12_feed 101 = .ok (.iastore, 1) := by decide +kernel
theorem dX12_feed_102 : decode cX12_feed 102 = .ok (.iinc 6 1, 3) := by decide +kernel
theorem dX12_feed_105 : decode cX12_feed 105 = .ok (.goto (-87), 3) := by decide +kernel
theorem dX12_feed_108 : decode cX12_feed 108 = .ok (.aload_n 0, 1) := by decide +kernel
theorem dX12_feed_109 : decode cX12_feed 109 = .ok (.dup, 1) := by decide +kernel
theorem dX12_feed_110 : decode cX12_feed 110 = .ok (.getfield 242, 3) := by decide +kernel
theorem dX12_feed_113 : decode cX12_feed 113 = .ok (.bipush 20, 2) := by decide +kernel
theorem dX12_feed_115 : decode cX12_feed 115 = .ok (.iadd, 1) := by decide +kernel
theorem dX12_feed_116 : decode cX12_feed 116 = .ok (.putfield 242, 3) := by decide +kernel
theorem dX12_feed_119 : decode cX12_feed 119 = .ok (.aload_n 0, 1) := by decide +kernel
theorem dX12_feed_120 : decode cX12_feed 120 = .ok (.getfield 242, 3) := by decide +kernel
theorem dX12_feed_123 : decode cX12_feed 123 = .ok (.ireturn, 1) := by decide +kernel
theorem dX12_end_0 : decode cX12_end 0 = .ok (.iload_n 1, 1) := by decide +kernel
theorem dX12_end_1 : decode cX12_end 1 = .ok (.iconst 0, 1) := by decide +kernel
theorem dX12_end_2 : decode cX12_end 2 = .ok (.aload_n 0, 1) := by decide +kernel
theorem dX12_end_3 : decode cX12_end 3 = .ok (.getfield 242, 3) := by decide +kernel
theorem dX12_end_6 : decode cX12_end 6 = .ok (.invokestatic 79, 3) := by decide +kernel
theorem dX12_end_9 : decode cX12_end 9 = .ok (.ifCond .ne 5, 3) := by decide +kernel
theorem dX12_end_12 : decode cX12_end 12 = .ok (.iconst (-1), 1) := by decide +kernel
theorem dX12_end_13 : decode cX12_end 13 = .ok (.ireturn, 1) := by decide +kernel
theorem dX12_end_14 : decode cX12_end 14 = .ok (.aload_n 0, 1) := by decide +kernel
theorem dX12_end_15 : decode cX12_end 15 = .ok (.iload_n 1, 1) := by decide +kernel
theorem dX12_end_16 : decode cX12_end 16 = .ok (.putfield 242, 3) := by decide +kernel
theorem dX12_end_19 : decode cX12_end 19 = .ok (.iload_n 1, 1) := by decide +kernel
theorem dX12_end_20 : decode cX12_end 20 = .ok (.ireturn, 1) := by decide +kernel
theorem dX12_fault_0 : decode cX12_fault 0 = .ok (.iload_n 1, 1) := by decide +kernel
theorem dX12_fault_1 : decode cX12_fault 1 = .ok (.ifCond .ne 10, 3) := by decide +kernel
theorem dX12_fault_4 : decode cX12_fault 4 = .ok (.aload_n 0, 1) := by decide +kernel
theorem dX12_fault_5 : decode cX12_fault 5 = .ok (.getfield 245, 3) := by decide +kernel
theorem dX12_fault_8 : decode cX12_fault 8 = .ok (.goto 16, 3) := by decide +kernel
theorem dX12_fault_11 : decode cX12_fault 11 = .ok (.iload_n 1, 1) := by decide +kernel
theorem dX12_fault_12 : decode cX12_fault 12 = .ok (.iconst 1, 1) := by decide +kernel
theorem dX12_fault_13 : decode cX12_fault 13 = .ok (.if_icmp .ne 10, 3) := by decide +kernel
theorem dX12_fault_16 : decode cX12_fault 16 = .ok (.aload_n 0, 1) := by decide +kernel
theorem dX12_fault_17 : decode cX12_fault 17 = .ok (.getfield 20, 3) := by decide +kernel
theorem dX12_fault_20 : decode cX12_fault 20 = .ok (.goto 4, 3) := by decide +kernel
theorem dX12_fault_23 : decode cX12_fault 23 = .ok (.iconst (-1), 1) := by decide +kernel
theorem dX12_fault_24 : decode cX12_fault 24 = .ok (.ireturn, 1) := by decide +kernel
theorem dX12_put_0 : decode cX12_put 0 = .ok (.iload_n 1, 1) := by decide +kernel
theorem dX12_put_1 : decode cX12_put 1 = .ok (.invokestatic 224, 3) := by decide +kernel
theorem dX12_put_4 : decode cX12_put 4 = .ok (.ifCond .eq 20, 3) := by decide +kernel
theorem dX12_put_7 : decode cX12_put 7 = .ok (.iload_n 2, 1) := by decide +kernel
theorem dX12_put_8 : decode cX12_put 8 = .ok (.invokestatic 224, 3) := by decide +kernel
theorem dX12_put_11 : decode cX12_put 11 = .ok (.ifCond .eq 13, 3) := by decide +kernel
theorem dX12_put_14 : decode cX12_put 14 = .ok (.aload_n 0, 1) := by decide +kernel
theorem dX12_put_15 : decode cX12_put 15 = .ok (.iconst 0, 1) := by decide +kernel
theorem dX12_put_16 : decode cX12_put 16 = .ok (.iload_n 1, 1) := by decide +kernel
theorem dX12_put_17 : decode cX12_put 17 = .ok (.iload_n 2, 1) := by decide +kernel
theorem dX12_put_18 : decode cX12_put 18 = .ok (.invokevirtual 188, 3) := by decide +kernel
theorem dX12_put_21 : decode cX12_put 21 = .ok (.goto 4, 3) := by decide +kernel
theorem dX12_put_24 : decode cX12_put 24 = .ok (.iconst (-1), 1) := by decide +kernel
theorem dX12_put_25 : decode cX12_put 25 = .ok (.ireturn, 1) := by decide +kernel
theorem dX12_reads_0 : decode cX12_reads 0 = .ok (.aload_n 0, 1) := by decide +kernel
theorem dX12_reads_1 : decode cX12_reads 1 = .ok (.iload_n 1, 1) := by decide +kernel
theorem dX12_reads_2 : decode cX12_reads 2 = .ok (.iload_n 2, 1) := by decide +kernel
theorem dX12_reads_3 : decode cX12_reads 3 = .ok (.invokevirtual 166, 3) := by decide +kernel
theorem dX12_reads_6 : decode cX12_reads 6 = .ok (.istore_n 3, 1) := by decide +kernel
theorem dX12_reads_7 : decode cX12_reads 7 = .ok (.aload_n 0, 1) := by decide +kernel
theorem dX12_reads_8 : decode cX12_reads 8 = .ok (.iload_n 1, 1) := by decide +kernel
theorem dX12_reads_9 : decode cX12_reads 9 = .ok (.iload_n 2, 1) := by decide +kernel
theorem dX12_reads_10 : decode cX12_reads 10 = .ok (.iconst 0, 1) := by decide +kernel
theorem dX12_reads_11 : decode cX12_reads 11 = .ok (.invokevirtual 88, 3) := by decide +kernel
theorem dX12_reads_14 : decode cX12_reads 14 = .ok (.istore 4, 2) := by decide +kernel
theorem dX12_reads_16 : decode cX12_reads 16 = .ok (.iload_n 3, 1) := by decide +kernel
theorem dX12_reads_17 : decode cX12_reads 17 = .ok (.ifCond .lt 28, 3) := by decide +kernel
theorem dX12_reads_20 : decode cX12_reads 20 = .ok (.iload_n 3, 1) := by decide +kernel
theorem dX12_reads_21 : decode cX12_reads 21 = .ok (.iload_n 1, 1) := by decide +kernel
theorem dX12_reads_22 : decode cX12_reads 22 = .ok (.sipush 276, 3) := by decide +kernel
theorem dX12_reads_25 : decode cX12_reads 25 = .ok (.iadd, 1) := by decide +kernel
theorem dX12_reads_26 : decode cX12_reads 26 = .ok (.if_icmp .ge 19, 3) := by decide +kernel
theorem dX12_reads_29 : decode cX12_reads 29 = .ok (.iload_n 3, 1) := by decide +kernel
theorem dX12_reads_30 : decode cX12_reads 30 = .ok (.iload_n 1, 1) := by decide +kernel
theorem dX12_reads_31 : decode cX12_reads 31 = .ok (.isub, 1) := by decide +kernel
theorem dX12_reads_32 : decode cX12_reads 32 = .ok (.bipush 20, 2) := by decide +kernel
theorem dX12_reads_34 : decode cX12_reads 34 = .ok (.isub, 1) := by decide +kernel
theorem dX12_reads_35 : decode cX12_reads 35 = .ok (.bipush 16, 2) := by decide +kernel
theorem dX12_reads_37 : decode cX12_reads 37 = .ok (.idiv, 1) := by decide +kernel
theorem dX12_reads_38 : decode cX12_reads 38 = .ok (.iload 4, 2) := by decide +kernel
theorem dX12_reads_40 : decode cX12_reads 40 = .ok (.if_icmp .ne 5, 3) := by decide +kernel
theorem dX12_reads_43 : decode cX12_reads 43 = .ok (.iconst 1, 1) := by decide +kernel
theorem dX12_reads_44 : decode cX12_reads 44 = .ok (.ireturn, 1) := by decide +kernel
theorem dX12_reads_45 : decode cX12_reads 45 = .ok (.iload 4, 2) := by decide +kernel
theorem dX12_reads_47 : decode cX12_reads 47 = .ok (.aload_n 0, 1) := by decide +kernel
theorem dX12_reads_48 : decode cX12_reads 48 = .ok (.iload_n 1, 1) := by decide +kernel
theorem dX12_reads_49 : decode cX12_reads 49 = .ok (.iload_n 2, 1) := by decide +kernel
theorem dX12_reads_50 : decode cX12_reads 50 = .ok (.iconst 1, 1) := by decide +kernel
theorem dX12_reads_51 : decode cX12_reads 51 = .ok (.invokevirtual 88, 3) := by decide +kernel
theorem dX12_reads_54 : decode cX12_reads 54 = .ok (.if_icmp .ne 7, 3) := by decide +kernel
theorem dX12_reads_57 : decode cX12_reads 57 = .ok (.iconst 1, 1) := by decide +kernel
theorem dX12_reads_58 : decode cX12_reads 58 = .ok (.goto 4, 3) := by decide +kernel
theorem dX12_reads_61 : decode cX12_reads 61 = .ok (.iconst 2, 1) := by decide +kernel
theorem dX12_reads_62 : decode cX12_reads 62 = .ok (.istore 5, 2) := by decide +kernel
theorem dX12_reads_64 : decode cX12_reads 64 = .ok (.iload_n 3, 1) := by decide +kernel
theorem dX12_reads_65 : decode cX12_reads 65 = .ok (.ifCond .lt 15, 3) := by decide +kernel
theorem dX12_reads_68 : decode cX12_reads 68 = .ok (.iload_n 3, 1) := by decide +kernel
theorem dX12_reads_69 : decode cX12_reads 69 = .ok (.iload_n 1, 1) := by decide +kernel
theorem dX12_reads_70 : decode cX12_reads 70 = .ok (.sipush 276, 3) := by decide +kernel
theorem dX12_reads_73 : decode cX12_reads 73 = .ok (.iadd, 1) := by decide +kernel
theorem dX12_reads_74 : decode cX12_reads 74 = .ok (.if_icmp .ge 6, 3) := by decide +kernel
theorem dX12_reads_77 : decode cX12_reads 77 = .ok (.iload 5, 2) := by decide +kernel
theorem dX12_reads_79 : decode cX12_reads 79 = .ok (.ireturn, 1) := by decide +kernel
theorem dX12_reads_80 : decode cX12_reads 80 = .ok (.iload 5, 2) := by decide +kernel
theorem dX12_reads_82 : decode cX12_reads 82 = .ok (.aload_n 0, 1) := by decide +kernel
theorem dX12_reads_83 : decode cX12_reads 83 = .ok (.getfield 7, 3) := by decide +kernel
theorem dX12_reads_86 : decode cX12_reads 86 = .ok (.iload_n 1, 1) := by decide +kernel
theorem dX12_reads_87 : decode cX12_reads 87 = .ok (.bipush 18, 2) := by decide +kernel
theorem dX12_reads_89 : decode cX12_reads 89 = .ok (.iadd, 1) := by decide +kernel
theorem dX12_reads_90 : decode cX12_reads 90 = .ok (.iaload, 1) := by decide +kernel
theorem dX12_reads_91 : decode cX12_reads 91 = .ok (.ifCond .le 7, 3) := by decide +kernel
theorem dX12_reads_94 : decode cX12_reads 94 = .ok (.iconst 1, 1) := by decide +kernel
theorem dX12_reads_95 : decode cX12_reads 95 = .ok (.goto 4, 3) := by decide +kernel
theorem dX12_reads_98 : decode cX12_reads 98 = .ok (.iconst 0, 1) := by decide +kernel
theorem dX12_reads_99 : decode cX12_reads 99 = .ok (.iadd, 1) := by decide +kernel
theorem dX12_reads_100 : decode cX12_reads 100 = .ok (.ireturn, 1) := by decide +kernel
theorem dX12_get_0 : decode cX12_get 0 = .ok (.iload_n 1, 1) := by decide +kernel
theorem dX12_get_1 : decode cX12_get 1 = .ok (.invokestatic 224, 3) := by decide +kernel
theorem dX12_get_4 : decode cX12_get 4 = .ok (.ifCond .ne 5, 3) := by decide +kernel
theorem dX12_get_7 : decode cX12_get 7 = .ok (.iconst (-1), 1) := by decide +kernel
theorem dX12_get_8 : decode cX12_get 8 = .ok (.ireturn, 1) := by decide +kernel
theorem dX12_get_9 : decode cX12_get 9 = .ok (.aload_n 0, 1) := by decide +kernel
theorem dX12_get_10 : decode cX12_get 10 = .ok (.getfield 7, 3) := by decide +kernel
theorem dX12_get_13 : decode cX12_get 13 = .ok (.bipush 16, 2) := by decide +kernel
theorem dX12_get_15 : decode cX12_get 15 = .ok (.dup2, 1) := by decide +kernel
theorem dX12_get_16 : decode cX12_get 16 = .ok (.iaload, 1) := by decide +kernel
theorem dX12_get_17 : decode cX12_get 17 = .ok (.aload_n 0, 1) := by decide +kernel
theorem dX12_get_18 : decode cX12_get 18 = .ok (.iconst 0, 1) := by decide +kernel
theorem dX12_get_19 : decode cX12_get 19 = .ok (.iload_n 1, 1) := by decide +kernel
theorem dX12_get_20 : decode cX12_get 20 = .ok (.invokevirtual 248, 3) := by decide +kernel
theorem dX12_get_23 : decode cX12_get 23 = .ok (.iadd, 1) := by decide +kernel
theorem dX12_get_24 : decode cX12_get 24 = .ok (.iastore, 1) := by decide +kernel
theorem dX12_get_25 : decode cX12_get 25 = .ok (.aload_n 0, 1) := by decide +kernel
theorem dX12_get_26 : decode cX12_get 26 = .ok (.iconst 0, 1) := by decide +kernel
theorem dX12_get_27 : decode cX12_get 27 = .ok (.iload_n 1, 1) := by decide +kernel
theorem dX12_get_28 : decode cX12_get 28 = .ok (.invokevirtual 166, 3) := by decide +kernel
theorem dX12_get_31 : decode cX12_get 31 = .ok (.istore_n 2, 1) := by decide +kernel
theorem dX12_get_32 : decode cX12_get 32 = .ok (.iload_n 2, 1) := by decide +kernel
theorem dX12_get_33 : decode cX12_get 33 = .ok (.ifCond .ge 7, 3) := by decide +kernel
theorem dX12_get_36 : decode cX12_get 36 = .ok (.iconst (-1), 1) := by decide +kernel
theorem dX12_get_37 : decode cX12_get 37 = .ok (.goto 11, 3) := by decide +kernel
theorem dX12_get_40 : decode cX12_get 40 = .ok (.aload_n 0, 1) := by decide +kernel
theorem dX12_get_41 : decode cX12_get 41 = .ok (.getfield 7, 3) := by decide +kernel
theorem dX12_get_44 : decode cX12_get 44 = .ok (.iload_n 2, 1) := by decide +kernel
theorem dX12_get_45 : decode cX12_get 45 = .ok (.iconst 1, 1) := by decide +kernel
theorem dX12_get_46 : decode cX12_get 46 = .ok (.iadd, 1) := by decide +kernel
theorem dX12_get_47 : decode cX12_get 47 = .ok (.iaload, 1) := by decide +kernel
theorem dX12_get_48 : decode cX12_get 48 = .ok (.ireturn, 1) := by decide +kernel
theorem dX12_drop_0 : decode cX12_drop 0 = .ok (.iload_n 1, 1) := by decide +kernel
theorem dX12_drop_1 : decode cX12_drop 1 = .ok (.invokestatic 224, 3) := by decide +kernel
theorem dX12_drop_4 : decode cX12_drop 4 = .ok (.ifCond .eq 12, 3) := by decide +kernel
theorem dX12_drop_7 : decode cX12_drop 7 = .ok (.aload_n 0, 1) := by decide +kernel
theorem dX12_drop_8 : decode cX12_drop 8 = .ok (.iconst 0, 1) := by decide +kernel
theorem dX12_drop_9 : decode cX12_drop 9 = .ok (.iload_n 1, 1) := by decide +kernel
theorem dX12_drop_10 : decode cX12_drop 10 = .ok (.invokevirtual 185, 3) := by decide +kernel
theorem dX12_drop_13 : decode cX12_drop 13 = .ok (.goto 4, 3) := by decide +kernel
theorem dX12_drop_16 : decode cX12_drop 16 = .ok (.iconst (-1), 1) := by decide +kernel
theorem dX12_drop_17 : decode cX12_drop 17 = .ok (.ireturn, 1) := by decide +kernel
theorem dX12_load_0 : decode cX12_load 0 = .ok (.iload_n 2, 1) := by decide +kernel
theorem dX12_load_1 : decode cX12_load 1 = .ok (.iconst 1, 1) := by decide +kernel
theorem dX12_load_2 : decode cX12_load 2 = .ok (.bipush 12, 2) := by decide +kernel
theorem dX12_load_4 : decode cX12_load 4 = .ok (.invokestatic 79, 3) := by decide +kernel
theorem dX12_load_7 : decode cX12_load 7 = .ok (.ifCond .eq 13, 3) := by decide +kernel
theorem dX12_load_10 : decode cX12_load 10 = .ok (.aload_n 0, 1) := by decide +kernel
theorem dX12_load_11 : decode cX12_load 11 = .ok (.iconst 0, 1) := by decide +kernel
theorem dX12_load_12 : decode cX12_load 12 = .ok (.iload_n 1, 1) := by decide +kernel
theorem dX12_load_13 : decode cX12_load 13 = .ok (.iload_n 2, 1) := by decide +kernel
theorem dX12_load_14 : decode cX12_load 14 = .ok (.invokevirtual 251, 3) := by decide +kernel
theorem dX12_load_17 : decode cX12_load 17 = .ok (.goto 4, 3) := by decide +kernel
theorem dX12_load_20 : decode cX12_load 20 = .ok (.iconst (-1), 1) := by decide +kernel
theorem dX12_load_21 : decode cX12_load 21 = .ok (.ireturn, 1) := by decide +kernel
theorem dX12_bucketOf_0 : decode cX12_bucketOf 0 = .ok (.iload_n 1, 1) := by decide +kernel
theorem dX12_bucketOf_1 : decode cX12_bucketOf 1 = .ok (.sipush 276, 3) := by decide +kernel
theorem dX12_bucketOf_4 : decode cX12_bucketOf 4 = .ok (.if_icmp .lt 8, 3) := by decide +kernel
theorem dX12_bucketOf_7 : decode cX12_bucketOf 7 = .ok (.bipush 100, 2) := by decide +kernel
theorem dX12_bucketOf_9 : decode cX12_bucketOf 9 = .ok (.goto 10, 3) := by decide +kernel
theorem dX12_bucketOf_12 : decode cX12_bucketOf 12 = .ok (.iload_n 1, 1) := by decide +kernel
theorem dX12_bucketOf_13 : decode cX12_bucketOf 13 = .ok (.bipush 20, 2) := by decide +kernel
theorem dX12_bucketOf_15 : decode cX12_bucketOf 15 = .ok (.isub, 1) := by decide +kernel
theorem dX12_bucketOf_16 : decode cX12_bucketOf 16 = .ok (.bipush 16, 2) := by decide +kernel
theorem dX12_bucketOf_18 : decode cX12_bucketOf 18 = .ok (.idiv, 1) := by decide +kernel
theorem dX12_bucketOf_19 : decode cX12_bucketOf 19 = .ok (.ireturn, 1) := by decide +kernel
theorem dX12_placeOf_0 : decode cX12_placeOf 0 = .ok (.iload_n 1, 1) := by decide +kernel
theorem dX12_placeOf_1 : decode cX12_placeOf 1 = .ok (.sipush 276, 3) := by decide +kernel
theorem dX12_placeOf_4 : decode cX12_placeOf 4 = .ok (.if_icmp .lt 13, 3) := by decide +kernel
theorem dX12_placeOf_7 : decode cX12_placeOf 7 = .ok (.iload_n 1, 1) := by decide +kernel
theorem dX12_placeOf_8 : decode cX12_placeOf 8 = .ok (.sipush 276, 3) := by decide +kernel
theorem dX12_placeOf_11 : decode cX12_placeOf 11 = .ok (.isub, 1) := by decide +kernel
theorem dX12_placeOf_12 : decode cX12_placeOf 12 = .ok (.iconst 4, 1) := by decide +kernel
theorem dX12_placeOf_13 : decode cX12_placeOf 13 = .ok (.idiv, 1) := by decide +kernel
theorem dX12_placeOf_14 : decode cX12_placeOf 14 = .ok (.goto 11, 3) := by decide +kernel
theorem dX12_placeOf_17 : decode cX12_placeOf 17 = .ok (.iload_n 1, 1) := by decide +kernel
theorem dX12_placeOf_18 : decode cX12_placeOf 18 = .ok (.bipush 20, 2) := by decide +kernel
theorem dX12_placeOf_20 : decode cX12_placeOf 20 = .ok (.isub, 1) := by decide +kernel
theorem dX12_placeOf_21 : decode cX12_placeOf 21 = .ok (.iconst 4, 1) := by decide +kernel
theorem dX12_placeOf_22 : decode cX12_placeOf 22 = .ok (.idiv, 1) := by decide +kernel
theorem dX12_placeOf_23 : decode cX12_placeOf 23 = .ok (.iconst 4, 1) := by decide +kernel
theorem dX12_placeOf_24 : decode cX12_placeOf 24 = .ok (.irem, 1) := by decide +kernel
theorem dX12_placeOf_25 : decode cX12_placeOf 25 = .ok (.ireturn, 1) := by decide +kernel
theorem dX12_readTo_0 : decode cX12_readTo 0 = .ok (.iconst 1, 1) := by decide +kernel
theorem dX12_readTo_1 : decode cX12_readTo 1 = .ok (.istore_n 3, 1) := by decide +kernel
theorem dX12_readTo_2 : decode cX12_readTo 2 = .ok (.aload_n 0, 1) := by decide +kernel
theorem dX12_readTo_3 : decode cX12_readTo 3 = .ok (.iload_n 1, 1) := by decide +kernel
theorem dX12_readTo_4 : decode cX12_readTo 4 = .ok (.invokevirtual 254, 3) := by decide +kernel
theorem dX12_readTo_7 : decode cX12_readTo 7 = .ok (.istore 4, 2) := by decide +kernel
theorem dX12_readTo_9 : decode cX12_readTo 9 = .ok (.iconst 0, 1) := by decide +kernel
theorem dX12_readTo_10 : decode cX12_readTo 10 = .ok (.istore 5, 2) := by decide +kernel
theorem dX12_readTo_12 : decode cX12_readTo 12 = .ok (.iload 5, 2) := by decide +kernel
theorem dX12_readTo_14 : decode cX12_readTo 14 = .ok (.aload_n 0, 1) := by decide +kernel
theorem dX12_readTo_15 : decode cX12_readTo 15 = .ok (.iload_n 1, 1) := by decide +kernel
theorem dX12_readTo_16 : decode cX12_readTo 16 = .ok (.invokevirtual 257, 3) := by decide +kernel
theorem dX12_readTo_19 : decode cX12_readTo 19 = .ok (.if_icmp .ge 32, 3) := by decide +kernel
theorem dX12_readTo_22 : decode cX12_readTo 22 = .ok (.iload_n 3, 1) := by decide +kernel
theorem dX12_readTo_23 : decode cX12_readTo 23 = .ok (.aload_n 0, 1) := by decide +kernel
theorem dX12_readTo_24 : decode cX12_readTo 24 = .ok (.iconst 0, 1) := by decide +kernel
theorem dX12_readTo_25 : decode cX12_readTo 25 = .ok (.iload 4, 2) := by decide +kernel
theorem dX12_readTo_27 : decode cX12_readTo 27 = .ok (.iload 5, 2) := by decide +kernel
theorem dX12_readTo_29 : decode cX12_readTo 29 = .ok (.invokestatic 92, 3) := by decide +kernel
theorem dX12_readTo_32 : decode cX12_readTo 32 = .ok (.invokevirtual 95, 3) := by decide +kernel
theorem dX12_readTo_35 : decode cX12_readTo 35 = .ok (.ifCond .eq 7, 3) := by decide +kernel
theorem dX12_readTo_38 : decode cX12_readTo 38 = .ok (.iconst 1, 1) := by decide +kernel
theorem dX12_readTo_39 : decode cX12_readTo 39 = .ok (.goto 4, 3) := by decide +kernel
theorem dX12_readTo_42 : decode cX12_readTo 42 = .ok (.iconst 0, 1) := by decide +kernel
theorem dX12_readTo_43 : decode cX12_readTo 43 = .ok (.iadd, 1) := by decide +kernel
theorem dX12_readTo_44 : decode cX12_readTo 44 = .ok (.istore_n 3, 1) := by decide +kernel
theorem dX12_readTo_45 : decode cX12_readTo 45 = .ok (.iinc 5 1, 3) := by decide +kernel
theorem dX12_readTo_48 : decode cX12_readTo 48 = .ok (.goto (-36), 3) := by decide +kernel
theorem dX12_readTo_51 : decode cX12_readTo 51 = .ok (.iload 4, 2) := by decide +kernel
theorem dX12_readTo_53 : decode cX12_readTo 53 = .ok (.aload_n 0, 1) := by decide +kernel
theorem dX12_readTo_54 : decode cX12_readTo 54 = .ok (.iconst 0, 1) := by decide +kernel
theorem dX12_readTo_55 : decode cX12_readTo 55 = .ok (.iload_n 2, 1) := by decide +kernel
theorem dX12_readTo_56 : decode cX12_readTo 56 = .ok (.iconst 0, 1) := by decide +kernel
theorem dX12_readTo_57 : decode cX12_readTo 57 = .ok (.invokevirtual 88, 3) := by decide +kernel
theorem dX12_readTo_60 : decode cX12_readTo 60 = .ok (.if_icmp .eq 18, 3) := by decide +kernel
theorem dX12_readTo_63 : decode cX12_readTo 63 = .ok (.iload_n 3, 1) := by decide +kernel
theorem dX12_readTo_64 : decode cX12_readTo 64 = .ok (.aload_n 0, 1) := by decide +kernel
theorem dX12_readTo_65 : decode cX12_readTo 65 = .ok (.iconst 0, 1) := by decide +kernel
theorem dX12_readTo_66 : decode cX12_readTo 66 = .ok (.aload_n 0, 1) := by decide +kernel
theorem dX12_readTo_67 : decode cX12_readTo 67 = .ok (.iconst 0, 1) := by decide +kernel
theorem dX12_readTo_68 : decode cX12_readTo 68 = .ok (.iload_n 2, 1) := by decide +kernel
theorem dX12_readTo_69 : decode cX12_readTo 69 = .ok (.iconst 0, 1) := by decide +kernel
theorem dX12_readTo_70 : decode cX12_readTo 70 = .ok (.invokevirtual 88, 3) := by decide +kernel
theorem dX12_readTo_73 : decode cX12_readTo 73 = .ok (.invokevirtual 239, 3) := by decide +kernel
theorem dX12_readTo_76 : decode cX12_readTo 76 = .ok (.iadd, 1) := by decide +kernel
theorem dX12_readTo_77 : decode cX12_readTo 77 = .ok (.istore_n 3, 1) := by decide +kernel
theorem dX12_readTo_78 : decode cX12_readTo 78 = .ok (.iload 4, 2) := by decide +kernel
theorem dX12_readTo_80 : decode cX12_readTo 80 = .ok (.bipush 100, 2) := by decide +kernel
theorem dX12_readTo_82 : decode cX12_readTo 82 = .ok (.if_icmp .ne 35, 3) := by decide +kernel
theorem dX12_readTo_85 : decode cX12_readTo 85 = .ok (.aload_n 0, 1) := by decide +kernel
theorem dX12_readTo_86 : decode cX12_readTo 86 = .ok (.iconst 0, 1) := by decide +kernel
theorem dX12_readTo_87 : decode cX12_readTo 87 = .ok (.iload_n 2, 1) := by decide +kernel
theorem dX12_readTo_88 : decode cX12_readTo 88 = .ok (.iconst 1, 1) := by decide +kernel
theorem dX12_readTo_89 : decode cX12_readTo 89 = .ok (.invokevirtual 88, 3) := by decide +kernel
theorem dX12_readTo_92 : decode cX12_readTo 92 = .ok (.aload_n 0, 1) := by decide +kernel
theorem dX12_readTo_93 : decode cX12_readTo 93 = .ok (.iconst 0, 1) := by decide +kernel
theorem dX12_readTo_94 : decode cX12_readTo 94 = .ok (.iload_n 2, 1) := by decide +kernel
theorem dX12_readTo_95 : decode cX12_readTo 95 = .ok (.iconst 0, 1) := by decide +kernel
theorem dX12_readTo_96 : decode cX12_readTo 96 = .ok (.invokevirtual 88, 3) := by decide +kernel
theorem dX12_readTo_99 : decode cX12_readTo 99 = .ok (.if_icmp .eq 18, 3) := by decide +kernel
theorem dX12_readTo_102 : decode cX12_readTo 102 = .ok (.iload_n 3, 1) := by decide +kernel
theorem dX12_readTo_103 : decode cX12_readTo 103 = .ok (.aload_n 0, 1) := by decide +kernel
theorem dX12_readTo_104 : decode cX12_readTo 104 = .ok (.iconst 0, 1) := by decide +kernel
theorem dX12_readTo_105 : decode cX12_readTo 105 = .ok (.aload_n 0, 1) := by decide +kernel
theorem dX12_readTo_106 : decode cX12_readTo 106 = .ok (.iconst 0, 1) := by decide +kernel
theorem dX12_readTo_107 : decode cX12_readTo 107 = .ok (.iload_n 2, 1) := by decide +kernel
theorem dX12_readTo_108 : decode cX12_readTo 108 = .ok (.iconst 1, 1) := by decide +kernel
theorem dX12_readTo_109 : decode cX12_readTo 109 = .ok (.invokevirtual 88, 3) := by decide +kernel
theorem dX12_readTo_112 : decode cX12_readTo 112 = .ok (.invokevirtual 239, 3) := by decide +kernel
theorem dX12_readTo_115 : decode cX12_readTo 115 = .ok (.iadd, 1) := by decide +kernel
theorem dX12_readTo_116 : decode cX12_readTo 116 = .ok (.istore_n 3, 1) := by decide +kernel
theorem dX12_readTo_117 : decode cX12_readTo 117 = .ok (.iload_n 3, 1) := by decide +kernel
theorem dX12_readTo_118 : decode cX12_readTo 118 = .ok (.ireturn, 1) := by decide +kernel
theorem dX12_find_0 : decode cX12_find 0 = .ok (.iload_n 1, 1) := by decide +kernel
theorem dX12_find_1 : decode cX12_find 1 = .ok (.invokestatic 224, 3) := by decide +kernel
theorem dX12_find_4 : decode cX12_find 4 = .ok (.ifCond .eq 12, 3) := by decide +kernel
theorem dX12_find_7 : decode cX12_find 7 = .ok (.aload_n 0, 1) := by decide +kernel
theorem dX12_find_8 : decode cX12_find 8 = .ok (.iconst 0, 1) := by decide +kernel
theorem dX12_find_9 : decode cX12_find 9 = .ok (.iload_n 1, 1) := by decide +kernel
theorem dX12_find_10 : decode cX12_find 10 = .ok (.invokevirtual 166, 3) := by decide +kernel
theorem dX12_find_13 : decode cX12_find 13 = .ok (.goto 4, 3) := by decide +kernel
theorem dX12_find_16 : decode cX12_find 16 = .ok (.iconst (-1), 1) := by decide +kernel
theorem dX12_find_17 : decode cX12_find 17 = .ok (.istore_n 3, 1) := by decide +kernel
theorem dX12_find_18 : decode cX12_find 18 = .ok (.iload_n 3, 1) := by decide +kernel
theorem dX12_find_19 : decode cX12_find 19 = .ok (.ifCond .ge 5, 3) := by decide +kernel
theorem dX12_find_22 : decode cX12_find 22 = .ok (.iconst (-1), 1) := by decide +kernel
theorem dX12_find_23 : decode cX12_find 23 = .ok (.ireturn, 1) := by decide +kernel
theorem dX12_find_24 : decode cX12_find 24 = .ok (.iload_n 2, 1) := by decide +kernel
theorem dX12_find_25 : decode cX12_find 25 = .ok (.tableswitch 83 0 5 #[39, 45, 51, 58, 67, 76], 39) := by decide +kernel
theorem dX12_find_64 : decode cX12_find 64 = .ok (.aload_n 0, 1) := by decide +kernel
theorem dX12_find_65 : decode cX12_find 65 = .ok (.iload_n 3, 1) := by decide +kernel
theorem dX12_find_66 : decode cX12_find 66 = .ok (.invokevirtual 254, 3) := by decide +kernel
theorem dX12_find_69 : decode cX12_find 69 = .ok (.ireturn, 1) := by decide +kernel
theorem dX12_find_70 : decode cX12_find 70 = .ok (.aload_n 0, 1) := by decide +kernel
theorem dX12_find_71 : decode cX12_find 71 = .ok (.iload_n 3, 1) := by decide +kernel
theorem dX12_find_72 : decode cX12_find 72 = .ok (.invokevirtual 257, 3) := by decide +kernel
theorem dX12_find_75 : decode cX12_find 75 = .ok (.ireturn, 1) := by decide +kernel
theorem dX12_find_76 : decode cX12_find 76 = .ok (.aload_n 0, 1) := by decide +kernel
theorem dX12_find_77 : decode cX12_find 77 = .ok (.iconst 0, 1) := by decide +kernel
theorem dX12_find_78 : decode cX12_find 78 = .ok (.iload_n 1, 1) := by decide +kernel
theorem dX12_find_79 : decode cX12_find 79 = .ok (.invokevirtual 248, 3) := by decide +kernel
theorem dX12_find_82 : decode cX12_find 82 = .ok (.ireturn, 1) := by decide +kernel
theorem dX12_find_83 : decode cX12_find 83 = .ok (.aload_n 0, 1) := by decide +kernel
theorem dX12_find_84 : decode cX12_find 84 = .ok (.getfield 7, 3) := by decide +kernel
theorem dX12_find_87 : decode cX12_find 87 = .ok (.iload_n 3, 1) := by decide +kernel
theorem dX12_find_88 : decode cX12_find 88 = .ok (.iconst 2, 1) := by decide +kernel
theorem dX12_find_89 : decode cX12_find 89 = .ok (.iadd, 1) := by decide +kernel
theorem dX12_find_90 : decode cX12_find 90 = .ok (.iaload, 1) := by decide +kernel
theorem dX12_find_91 : decode cX12_find 91 = .ok (.ireturn, 1) := by decide +kernel
theorem dX12_find_92 : decode cX12_find 92 = .ok (.aload_n 0, 1) := by decide +kernel
theorem dX12_find_93 : decode cX12_find 93 = .ok (.getfield 7, 3) := by decide +kernel
theorem dX12_find_96 : decode cX12_find 96 = .ok (.iload_n 3, 1) := by decide +kernel
theorem dX12_find_97 : decode cX12_find 97 = .ok (.iconst 3, 1) := by decide +kernel
theorem dX12_find_98 : decode cX12_find 98 = .ok (.iadd, 1) := by decide +kernel
theorem dX12_find_99 : decode cX12_find 99 = .ok (.iaload, 1) := by decide +kernel
theorem dX12_find_100 : decode cX12_find 100 = .ok (.ireturn, 1) := by decide +kernel
theorem dX12_find_101 : decode cX12_find 101 = .ok (.aload_n 0, 1) := by decide +kernel
theorem dX12_find_102 : decode cX12_find 102 = .ok (.iload_n 3, 1) := by decide +kernel
theorem dX12_find_103 : decode cX12_find 103 = .ok (.iload_n 1, 1) := by decide +kernel
theorem dX12_find_104 : decode cX12_find 104 = .ok (.invokevirtual 260, 3) := by decide +kernel
theorem dX12_find_107 : decode cX12_find 107 = .ok (.ireturn, 1) := by decide +kernel
theorem dX12_find_108 : decode cX12_find 108 = .ok (.iconst (-1), 1) := by decide +kernel
theorem dX12_find_109 : decode cX12_find 109 = .ok (.ireturn, 1) := by decide +kernel
theorem dX12_at_0 : decode cX12_at 0 = .ok (.iload_n 1, 1) := by decide +kernel
theorem dX12_at_1 : decode cX12_at 1 = .ok (.bipush 100, 2) := by decide +kernel
theorem dX12_at_3 : decode cX12_at 3 = .ok (.if_icmp .ne 20, 3) := by decide +kernel
theorem dX12_at_6 : decode cX12_at 6 = .ok (.iload_n 2, 1) := by decide +kernel
theorem dX12_at_7 : decode cX12_at 7 = .ok (.iconst 0, 1) := by decide +kernel
theorem dX12_at_8 : decode cX12_at 8 = .ok (.aload_n 0, 1) := by decide +kernel
theorem dX12_at_9 : decode cX12_at 9 = .ok (.getfield 7, 3) := by decide +kernel
theorem dX12_at_12 : decode cX12_at 12 = .ok (.bipush 18, 2) := by decide +kernel
theorem dX12_at_14 : decode cX12_at 14 = .ok (.iaload, 1) := by decide +kernel
theorem dX12_at_15 : decode cX12_at 15 = .ok (.iconst 1, 1) := by decide +kernel
theorem dX12_at_16 : decode cX12_at 16 = .ok (.isub, 1) := by decide +kernel
theorem dX12_at_17 : decode cX12_at 17 = .ok (.invokestatic 79, 3) := by decide +kernel
theorem dX12_at_20 : decode cX12_at 20 = .ok (.goto 40, 3) := by decide +kernel
theorem dX12_at_23 : decode cX12_at 23 = .ok (.iload_n 1, 1) := by decide +kernel
theorem dX12_at_24 : decode cX12_at 24 = .ok (.iconst 0, 1) := by decide +kernel
theorem dX12_at_25 : decode cX12_at 25 = .ok (.aload_n 0, 1) := by decide +kernel
theorem dX12_at_26 : decode cX12_at 26 = .ok (.getfield 7, 3) := by decide +kernel
theorem dX12_at_29 : decode cX12_at 29 = .ok (.iconst 0, 1) := by decide +kernel
theorem dX12_at_30 : decode cX12_at 30 = .ok (.iaload, 1) := by decide +kernel
theorem dX12_at_31 : decode cX12_at 31 = .ok (.iconst 1, 1) := by decide +kernel
theorem dX12_at_32 : decode cX12_at 32 = .ok (.isub, 1) := by decide +kernel
theorem dX12_at_33 : decode cX12_at 33 = .ok (.invokestatic 79, 3) := by decide +kernel
theorem dX12_at_36 : decode cX12_at 36 = .ok (.ifCond .eq 23, 3) := by decide +kernel
theorem dX12_at_39 : decode cX12_at 39 = .ok (.iload_n 2, 1) := by decide +kernel
theorem dX12_at_40 : decode cX12_at 40 = .ok (.iconst 0, 1) := by decide +kernel
theorem dX12_at_41 : decode cX12_at 41 = .ok (.aload_n 0, 1) := by decide +kernel
theorem dX12_at_42 : decode cX12_at 42 = .ok (.getfield 7, 3) := by decide +kernel
theorem dX12_at_45 : decode cX12_at 45 = .ok (.iconst 1, 1) := by decide +kernel
theorem dX12_at_46 : decode cX12_at 46 = .ok (.iaload, 1) := by decide +kernel
theorem dX12_at_47 : decode cX12_at 47 = .ok (.iconst 1, 1) := by decide +kernel
theorem dX12_at_48 : decode cX12_at 48 = .ok (.isub, 1) := by decide +kernel
theorem dX12_at_49 : decode cX12_at 49 = .ok (.invokestatic 79, 3) := by decide +kernel
theorem dX12_at_52 : decode cX12_at 52 = .ok (.ifCond .eq 7, 3) := by decide +kernel
theorem dX12_at_55 : decode cX12_at 55 = .ok (.iconst 1, 1) := by decide +kernel
theorem dX12_at_56 : decode cX12_at 56 = .ok (.goto 4, 3) := by decide +kernel
theorem dX12_at_59 : decode cX12_at 59 = .ok (.iconst 0, 1) := by decide +kernel
theorem dX12_at_60 : decode cX12_at 60 = .ok (.istore 4, 2) := by decide +kernel
theorem dX12_at_62 : decode cX12_at 62 = .ok (.iload 4, 2) := by decide +kernel
theorem dX12_at_64 : decode cX12_at 64 = .ok (.ifCond .eq 16, 3) := by decide +kernel
theorem dX12_at_67 : decode cX12_at 67 = .ok (.aload_n 0, 1) := by decide +kernel
theorem dX12_at_68 : decode cX12_at 68 = .ok (.iconst 0, 1) := by decide +kernel
theorem dX12_at_69 : decode cX12_at 69 = .ok (.iload_n 1, 1) := by decide +kernel
theorem dX12_at_70 : decode cX12_at 70 = .ok (.iload_n 2, 1) := by decide +kernel
theorem dX12_at_71 : decode cX12_at 71 = .ok (.invokestatic 92, 3) := by decide +kernel
theorem dX12_at_74 : decode cX12_at 74 = .ok (.invokevirtual 95, 3) := by decide +kernel
theorem dX12_at_77 : decode cX12_at 77 = .ok (.ifCond .ne 5, 3) := by decide +kernel
theorem dX12_at_80 : decode cX12_at 80 = .ok (.iconst (-1), 1) := by decide +kernel
theorem dX12_at_81 : decode cX12_at 81 = .ok (.ireturn, 1) := by decide +kernel
theorem dX12_at_82 : decode cX12_at 82 = .ok (.iconst 0, 1) := by decide +kernel
theorem dX12_at_83 : decode cX12_at 83 = .ok (.iload_n 1, 1) := by decide +kernel
theorem dX12_at_84 : decode cX12_at 84 = .ok (.iload_n 2, 1) := by decide +kernel
theorem dX12_at_85 : decode cX12_at 85 = .ok (.invokestatic 92, 3) := by decide +kernel
theorem dX12_at_88 : decode cX12_at 88 = .ok (.istore 5, 2) := by decide +kernel
theorem dX12_at_90 : decode cX12_at 90 = .ok (.iload_n 3, 1) := by decide +kernel
theorem dX12_at_91 : decode cX12_at 91 = .ok (.ifCond .ne 10, 3) := by decide +kernel
theorem dX12_at_94 : decode cX12_at 94 = .ok (.aload_n 0, 1) := by decide +kernel
theorem dX12_at_95 : decode cX12_at 95 = .ok (.iload 5, 2) := by decide +kernel
theorem dX12_at_97 : decode cX12_at 97 = .ok (.invokevirtual 103, 3) := by decide +kernel
theorem dX12_at_100 : decode cX12_at 100 = .ok (.ireturn, 1) := by decide +kernel
theorem dX12_at_101 : decode cX12_at 101 = .ok (.iload_n 3, 1) := by decide +kernel
theorem dX12_at_102 : decode cX12_at 102 = .ok (.iconst 4, 1) := by decide +kernel
theorem dX12_at_103 : decode cX12_at 103 = .ok (.if_icmp .ne 37, 3) := by decide +kernel
theorem dX12_at_106 : decode cX12_at 106 = .ok (.aload_n 0, 1) := by decide +kernel
theorem dX12_at_107 : decode cX12_at 107 = .ok (.iconst 0, 1) := by decide +kernel
theorem dX12_at_108 : decode cX12_at 108 = .ok (.aload_n 0, 1) := by decide +kernel
theorem dX12_at_109 : decode cX12_at 109 = .ok (.iload 5, 2) := by decide +kernel
theorem dX12_at_111 : decode cX12_at 111 = .ok (.invokevirtual 103, 3) := by decide +kernel
theorem dX12_at_114 : decode cX12_at 114 = .ok (.iload_n 1, 1) := by decide +kernel
theorem dX12_at_115 : decode cX12_at 115 = .ok (.bipush 100, 2) := by decide +kernel
theorem dX12_at_117 : decode cX12_at 117 = .ok (.if_icmp .ne 18, 3) := by decide +kernel
theorem dX12_at_120 : decode cX12_at 120 = .ok (.aload_n 0, 1) := by decide +kernel
theorem dX12_at_121 : decode cX12_at 121 = .ok (.iconst 0, 1) := by decide +kernel
theorem dX12_at_122 : decode cX12_at 122 = .ok (.aload_n 0, 1) := by decide +kernel
theorem dX12_at_123 : decode cX12_at 123 = .ok (.iload 5, 2) := by decide +kernel
theorem dX12_at_125 : decode cX12_at 125 = .ok (.invokevirtual 103, 3) := by decide +kernel
theorem dX12_at_128 : decode cX12_at 128 = .ok (.iconst 0, 1) := by decide +kernel
theorem dX12_at_129 : decode cX12_at 129 = .ok (.invokevirtual 88, 3) := by decide +kernel
theorem dX12_at_132 : decode cX12_at 132 = .ok (.goto 4, 3) := by decide +kernel
theorem dX12_at_135 : decode cX12_at 135 = .ok (.iload_n 1, 1) := by decide +kernel
theorem dX12_at_136 : decode cX12_at 136 = .ok (.invokevirtual 107, 3) := by decide +kernel
theorem dX12_at_139 : decode cX12_at 139 = .ok (.ireturn, 1) := by decide +kernel
theorem dX12_at_140 : decode cX12_at 140 = .ok (.iload_n 3, 1) := by decide +kernel
theorem dX12_at_141 : decode cX12_at 141 = .ok (.iconst 1, 1) := by decide +kernel
theorem dX12_at_142 : decode cX12_at 142 = .ok (.iconst 3, 1) := by decide +kernel
theorem dX12_at_143 : decode cX12_at 143 = .ok (.invokestatic 79, 3) := by decide +kernel
theorem dX12_at_146 : decode cX12_at 146 = .ok (.ifCond .eq 15, 3) := by decide +kernel
theorem dX12_at_149 : decode cX12_at 149 = .ok (.aload_n 0, 1) := by decide +kernel
theorem dX12_at_150 : decode cX12_at 150 = .ok (.getfield 7, 3) := by decide +kernel
theorem dX12_at_153 : decode cX12_at 153 = .ok (.iload 5, 2) := by decide +kernel
theorem dX12_at_155 : decode cX12_at 155 = .ok (.iload_n 3, 1) := by decide +kernel
theorem dX12_at_156 : decode cX12_at 156 = .ok (.iadd, 1) := by decide +kernel
theorem dX12_at_157 : decode cX12_at 157 = .ok (.iaload, 1) := by decide +kernel
theorem dX12_at_158 : decode cX12_at 158 = .ok (.goto 4, 3) := by decide +kernel
theorem dX12_at_161 : decode cX12_at 161 = .ok (.iconst (-1), 1) := by decide +kernel
theorem dX12_at_162 : decode cX12_at 162 = .ok (.ireturn, 1) := by decide +kernel
theorem dX12_hash_0 : decode cX12_hash 0 = .ok (.iload_n 1, 1) := by decide +kernel
theorem dX12_hash_1 : decode cX12_hash 1 = .ok (.invokestatic 224, 3) := by decide +kernel
theorem dX12_hash_4 : decode cX12_hash 4 = .ok (.ifCond .eq 21, 3) := by decide +kernel
theorem dX12_hash_7 : decode cX12_hash 7 = .ok (.aload_n 0, 1) := by decide +kernel
theorem dX12_hash_8 : decode cX12_hash 8 = .ok (.iconst 0, 1) := by decide +kernel
theorem dX12_hash_9 : decode cX12_hash 9 = .ok (.iload_n 1, 1) := by decide +kernel
theorem dX12_hash_10 : decode cX12_hash 10 = .ok (.iload_n 2, 1) := by decide +kernel
theorem dX12_hash_11 : decode cX12_hash 11 = .ok (.ifCond .eq 7, 3) := by decide +kernel
theorem dX12_hash_14 : decode cX12_hash 14 = .ok (.iconst 1, 1) := by decide +kernel
theorem dX12_hash_15 : decode cX12_hash 15 = .ok (.goto 4, 3) := by decide +kernel
theorem dX12_hash_18 : decode cX12_hash 18 = .ok (.iconst 0, 1) := by decide +kernel
theorem dX12_hash_19 : decode cX12_hash 19 = .ok (.invokevirtual 88, 3) := by decide +kernel
theorem dX12_hash_22 : decode cX12_hash 22 = .ok (.goto 4, 3) := by decide +kernel
theorem dX12_hash_25 : decode cX12_hash 25 = .ok (.iconst (-1), 1) := by decide +kernel
theorem dX12_hash_26 : decode cX12_hash 26 = .ok (.ireturn, 1) := by decide +kernel
theorem dX12_chain_0 : decode cX12_chain 0 = .ok (.iload_n 1, 1) := by decide +kernel
theorem dX12_chain_1 : decode cX12_chain 1 = .ok (.invokestatic 224, 3) := by decide +kernel
theorem dX12_chain_4 : decode cX12_chain 4 = .ok (.ifCond .eq 12, 3) := by decide +kernel
theorem dX12_chain_7 : decode cX12_chain 7 = .ok (.aload_n 0, 1) := by decide +kernel
theorem dX12_chain_8 : decode cX12_chain 8 = .ok (.iconst 0, 1) := by decide +kernel
theorem dX12_chain_9 : decode cX12_chain 9 = .ok (.iload_n 1, 1) := by decide +kernel
theorem dX12_chain_10 : decode cX12_chain 10 = .ok (.invokevirtual 132, 3) := by decide +kernel
theorem dX12_chain_13 : decode cX12_chain 13 = .ok (.goto 4, 3) := by decide +kernel
theorem dX12_chain_16 : decode cX12_chain 16 = .ok (.iconst (-1), 1) := by decide +kernel
theorem dX12_chain_17 : decode cX12_chain 17 = .ok (.istore_n 3, 1) := by decide +kernel
theorem dX12_chain_18 : decode cX12_chain 18 = .ok (.iload_n 3, 1) := by decide +kernel
theorem dX12_chain_19 : decode cX12_chain 19 = .ok (.ifCond .ge 6, 3) := by decide +kernel
theorem dX12_chain_22 : decode cX12_chain 22 = .ok (.bipush (-2), 2) := by decide +kernel
theorem dX12_chain_24 : decode cX12_chain 24 = .ok (.ireturn, 1) := by decide +kernel
theorem dX12_chain_25 : decode cX12_chain 25 = .ok (.iload_n 2, 1) := by decide +kernel
theorem dX12_chain_26 : decode cX12_chain 26 = .ok (.iconst (-1), 1) := by decide +kernel
theorem dX12_chain_27 : decode cX12_chain 27 = .ok (.if_icmp .ne 7, 3) := by decide +kernel
theorem dX12_chain_30 : decode cX12_chain 30 = .ok (.iload_n 3, 1) := by decide +kernel
theorem dX12_chain_31 : decode cX12_chain 31 = .ok (.goto 35, 3) := by decide +kernel
theorem dX12_chain_34 : decode cX12_chain 34 = .ok (.iload_n 2, 1) := by decide +kernel
theorem dX12_chain_35 : decode cX12_chain 35 = .ok (.iconst 0, 1) := by decide +kernel
theorem dX12_chain_36 : decode cX12_chain 36 = .ok (.iload_n 3, 1) := by decide +kernel
theorem dX12_chain_37 : decode cX12_chain 37 = .ok (.iconst 1, 1) := by decide +kernel
theorem dX12_chain_38 : decode cX12_chain 38 = .ok (.isub, 1) := by decide +kernel
theorem dX12_chain_39 : decode cX12_chain 39 = .ok (.invokestatic 79, 3) := by decide +kernel
theorem dX12_chain_42 : decode cX12_chain 42 = .ok (.ifCond .eq 22, 3) := by decide +kernel
theorem dX12_chain_45 : decode cX12_chain 45 = .ok (.bipush 10, 2) := by decide +kernel
theorem dX12_chain_47 : decode cX12_chain 47 = .ok (.aload_n 0, 1) := by decide +kernel
theorem dX12_chain_48 : decode cX12_chain 48 = .ok (.getfield 27, 3) := by decide +kernel
theorem dX12_chain_51 : decode cX12_chain 51 = .ok (.iload_n 2, 1) := by decide +kernel
theorem dX12_chain_52 : decode cX12_chain 52 = .ok (.iaload, 1) := by decide +kernel
theorem dX12_chain_53 : decode cX12_chain 53 = .ok (.imul, 1) := by decide +kernel
theorem dX12_chain_54 : decode cX12_chain 54 = .ok (.aload_n 0, 1) := by decide +kernel
theorem dX12_chain_55 : decode cX12_chain 55 = .ok (.getfield 30, 3) := by decide +kernel
theorem dX12_chain_58 : decode cX12_chain 58 = .ok (.iload_n 2, 1) := by decide +kernel
theorem dX12_chain_59 : decode cX12_chain 59 = .ok (.iaload, 1) := by decide +kernel
theorem dX12_chain_60 : decode cX12_chain 60 = .ok (.iadd, 1) := by decide +kernel
theorem dX12_chain_61 : decode cX12_chain 61 = .ok (.goto 5, 3) := by decide +kernel
theorem dX12_chain_64 : decode cX12_chain 64 = .ok (.bipush (-2), 2) := by decide +kernel
theorem dX12_chain_66 : decode cX12_chain 66 = .ok (.ireturn, 1) := by decide +kernel
theorem dX12_would_0 : decode cX12_would 0 = .ok (.iload_n 1, 1) := by decide +kernel
theorem dX12_would_1 : decode cX12_would 1 = .ok (.invokestatic 224, 3) := by decide +kernel
theorem dX12_would_4 : decode cX12_would 4 = .ok (.ifCond .ne 6, 3) := by decide +kernel
theorem dX12_would_7 : decode cX12_would 7 = .ok (.bipush (-2), 2) := by decide +kernel
theorem dX12_would_9 : decode cX12_would 9 = .ok (.ireturn, 1) := by decide +kernel
theorem dX12_would_10 : decode cX12_would 10 = .ok (.aload_n 0, 1) := by decide +kernel
theorem dX12_would_11 : decode cX12_would 11 = .ok (.iconst 0, 1) := by decide +kernel
theorem dX12_would_12 : decode cX12_would 12 = .ok (.sipush 292, 3) := by decide +kernel
theorem dX12_would_15 : decode cX12_would 15 = .ok (.invokevirtual 83, 3) := by decide +kernel
theorem dX12_would_18 : decode cX12_would 18 = .ok (.aload_n 0, 1) := by decide +kernel
theorem dX12_would_19 : decode cX12_would 19 = .ok (.sipush 292, 3) := by decide +kernel
theorem dX12_would_22 : decode cX12_would 22 = .ok (.iload_n 1, 1) := by decide +kernel
theorem dX12_would_23 : decode cX12_would 23 = .ok (.iconst 0, 1) := by decide +kernel
theorem dX12_would_24 : decode cX12_would 24 = .ok (.invokevirtual 188, 3) := by decide +kernel
theorem dX12_would_27 : decode cX12_would 27 = .ok (.ireturn, 1) := by decide +kernel
theorem dX12_which_0 : decode cX12_which 0 = .ok (.iload_n 1, 1) := by decide +kernel
theorem dX12_which_1 : decode cX12_which 1 = .ok (.iconst (-1), 1) := by decide +kernel
theorem dX12_which_2 : decode cX12_which 2 = .ok (.if_icmp .eq 14, 3) := by decide +kernel
theorem dX12_which_5 : decode cX12_which 5 = .ok (.iload_n 1, 1) := by decide +kernel
theorem dX12_which_6 : decode cX12_which 6 = .ok (.iconst 1, 1) := by decide +kernel
theorem dX12_which_7 : decode cX12_which 7 = .ok (.iconst 5, 1) := by decide +kernel
theorem dX12_which_8 : decode cX12_which 8 = .ok (.invokestatic 79, 3) := by decide +kernel
theorem dX12_which_11 : decode cX12_which 11 = .ok (.ifCond .ne 5, 3) := by decide +kernel
theorem dX12_which_14 : decode cX12_which 14 = .ok (.iconst (-1), 1) := by decide +kernel
theorem dX12_which_15 : decode cX12_which 15 = .ok (.ireturn, 1) := by decide +kernel
theorem dX12_which_16 : decode cX12_which 16 = .ok (.iconst 0, 1) := by decide +kernel
theorem dX12_which_17 : decode cX12_which 17 = .ok (.istore_n 2, 1) := by decide +kernel
theorem dX12_which_18 : decode cX12_which 18 = .ok (.iload_n 2, 1) := by decide +kernel
theorem dX12_which_19 : decode cX12_which 19 = .ok (.bipush 100, 2) := by decide +kernel
theorem dX12_which_21 : decode cX12_which 21 = .ok (.if_icmp .ge 29, 3) := by decide +kernel
theorem dX12_which_24 : decode cX12_which 24 = .ok (.aload_n 0, 1) := by decide +kernel
theorem dX12_which_25 : decode cX12_which 25 = .ok (.iconst 0, 1) := by decide +kernel
theorem dX12_which_26 : decode cX12_which 26 = .ok (.iload_n 2, 1) := by decide +kernel
theorem dX12_which_27 : decode cX12_which 27 = .ok (.invokevirtual 166, 3) := by decide +kernel
theorem dX12_which_30 : decode cX12_which 30 = .ok (.ifCond .ge 14, 3) := by decide +kernel
theorem dX12_which_33 : decode cX12_which 33 = .ok (.aload_n 0, 1) := by decide +kernel
theorem dX12_which_34 : decode cX12_which 34 = .ok (.iload_n 2, 1) := by decide +kernel
theorem dX12_which_35 : decode cX12_which 35 = .ok (.invokevirtual 263, 3) := by decide +kernel
theorem dX12_which_38 : decode cX12_which 38 = .ok (.iload_n 1, 1) := by decide +kernel
theorem dX12_which_39 : decode cX12_which 39 = .ok (.if_icmp .ne 5, 3) := by decide +kernel
theorem dX12_which_42 : decode cX12_which 42 = .ok (.iload_n 2, 1) := by decide +kernel
theorem dX12_which_43 : decode cX12_which 43 = .ok (.ireturn, 1) := by decide +kernel
theorem dX12_which_44 : decode cX12_which 44 = .ok (.iinc 2 1, 3) := by decide +kernel
theorem dX12_which_47 : decode cX12_which 47 = .ok (.goto (-29), 3) := by decide +kernel
theorem dX12_which_50 : decode cX12_which 50 = .ok (.iconst (-1), 1) := by decide +kernel
theorem dX12_which_51 : decode cX12_which 51 = .ok (.ireturn, 1) := by decide +kernel
theorem dX12_key_0 : decode cX12_key 0 = .ok (.aload_n 0, 1) := by decide +kernel
theorem dX12_key_1 : decode cX12_key 1 = .ok (.iconst 0, 1) := by decide +kernel
theorem dX12_key_2 : decode cX12_key 2 = .ok (.invokevirtual 152, 3) := by decide +kernel
theorem dX12_key_5 : decode cX12_key 5 = .ok (.iconst 0, 1) := by decide +kernel
theorem dX12_key_6 : decode cX12_key 6 = .ok (.istore_n 3, 1) := by decide +kernel
theorem dX12_key_7 : decode cX12_key 7 = .ok (.iload_n 3, 1) := by decide +kernel
theorem dX12_key_8 : decode cX12_key 8 = .ok (.aload_n 0, 1) := by decide +kernel
theorem dX12_key_9 : decode cX12_key 9 = .ok (.getfield 142, 3) := by decide +kernel
theorem dX12_key_12 : decode cX12_key 12 = .ok (.if_icmp .ge 97, 3) := by decide +kernel
theorem dX12_key_15 : decode cX12_key 15 = .ok (.iconst 0, 1) := by decide +kernel
theorem dX12_key_16 : decode cX12_key 16 = .ok (.istore 4, 2) := by decide +kernel
theorem dX12_key_18 : decode cX12_key 18 = .ok (.iconst 0, 1) := by decide +kernel
theorem dX12_key_19 : decode cX12_key 19 = .ok (.istore 5, 2) := by decide +kernel
theorem dX12_key_21 : decode cX12_key 21 = .ok (.iload 5, 2) := by decide +kernel
theorem dX12_key_23 : decode cX12_key 23 = .ok (.aload_n 0, 1) := by decide +kernel
theorem dX12_key_24 : decode cX12_key 24 = .ok (.getfield 142, 3) := by decide +kernel
theorem dX12_key_27 : decode cX12_key 27 = .ok (.if_icmp .ge 59, 3) := by decide +kernel
theorem dX12_key_30 : decode cX12_key 30 = .ok (.iload 4, 2) := by decide +kernel
theorem dX12_key_32 : decode cX12_key 32 = .ok (.aload_n 0, 1) := by decide +kernel
theorem dX12_key_33 : decode cX12_key 33 = .ok (.getfield 39, 3) := by decide +kernel
theorem dX12_key_36 : decode cX12_key 36 = .ok (.iconst 4, 1) := by decide +kernel
theorem dX12_key_37 : decode cX12_key 37 = .ok (.iload 5, 2) := by decide +kernel
theorem dX12_key_39 : decode cX12_key 39 = .ok (.imul, 1) := by decide +kernel
theorem dX12_key_40 : decode cX12_key 40 = .ok (.iload_n 2, 1) := by decide +kernel
theorem dX12_key_41 : decode cX12_key 41 = .ok (.ifCond .eq 7, 3) := by decide +kernel
theorem dX12_key_44 : decode cX12_key 44 = .ok (.iconst 2, 1) := by decide +kernel
theorem dX12_key_45 : decode cX12_key 45 = .ok (.goto 4, 3) := by decide +kernel
theorem dX12_key_48 : decode cX12_key 48 = .ok (.iconst 0, 1) := by decide +kernel
theorem dX12_key_49 : decode cX12_key 49 = .ok (.iadd, 1) := by decide +kernel
theorem dX12_key_50 : decode cX12_key 50 = .ok (.iaload, 1) := by decide +kernel
theorem dX12_key_51 : decode cX12_key 51 = .ok (.aload_n 0, 1) := by decide +kernel
theorem dX12_key_52 : decode cX12_key 52 = .ok (.getfield 39, 3) := by decide +kernel
theorem dX12_key_55 : decode cX12_key 55 = .ok (.iconst 4, 1) := by decide +kernel
theorem dX12_key_56 : decode cX12_key 56 = .ok (.iload_n 3, 1) := by decide +kernel
theorem dX12_key_57 : decode cX12_key 57 = .ok (.imul, 1) := by decide +kernel
theorem dX12_key_58 : decode cX12_key 58 = .ok (.iload_n 2, 1) := by decide +kernel
theorem dX12_key_59 : decode cX12_key 59 = .ok (.ifCond .eq 7, 3) := by decide +kernel
theorem dX12_key_62 : decode cX12_key 62 = .ok (.iconst 2, 1) := by decide +kernel
theorem dX12_key_63 : decode cX12_key 63 = .ok (.goto 4, 3) := by decide +kernel
theorem dX12_key_66 : decode cX12_key 66 = .ok (.iconst 0, 1) := by decide +kernel
theorem dX12_key_67 : decode cX12_key 67 = .ok (.iadd, 1) := by decide +kernel
theorem dX12_key_68 : decode cX12_key 68 = .ok (.iaload, 1) := by decide +kernel
theorem dX12_key_69 : decode cX12_key 69 = .ok (.if_icmp .ge 7, 3) := by decide +kernel
theorem dX12_key_72 : decode cX12_key 72 = .ok (.iconst 1, 1) := by decide +kernel
theorem dX12_key_73 : decode cX12_key 73 = .ok (.goto 4, 3) := by decide +kernel
theorem dX12_key_76 : decode cX12_key 76 = .ok (.iconst 0, 1) := by decide +kernel
theorem dX12_key_77 : decode cX12_key 77 = .ok (.iadd, 1) := by decide +kernel
theorem dX12_key_78 : decode cX12_key 78 = .ok (.istore 4, 2) := by decide +kernel
theorem dX12_key_80 : decode cX12_key 80 = .ok (.iinc 5 1, 3) := by decide +kernel
theorem dX12_key_83 : decode cX12_key 83 = .ok (.goto (-62), 3) := by decide +kernel
theorem dX12_key_86 : decode cX12_key 86 = .ok (.iload 4, 2) := by decide +kernel
theorem dX12_key_88 : decode cX12_key 88 = .ok (.iload_n 1, 1) := by decide +kernel
theorem dX12_key_89 : decode cX12_key 89 = .ok (.if_icmp .ne 14, 3) := by decide +kernel
theorem dX12_key_92 : decode cX12_key 92 = .ok (.aload_n 0, 1) := by decide +kernel
theorem dX12_key_93 : decode cX12_key 93 = .ok (.getfield 39, 3) := by decide +kernel
theorem dX12_key_96 : decode cX12_key 96 = .ok (.iconst 4, 1) := by decide +kernel
theorem dX12_key_97 : decode cX12_key 97 = .ok (.iload_n 3, 1) := by decide +kernel
theorem dX12_key_98 : decode cX12_key 98 = .ok (.imul, 1) := by decide +kernel
theorem dX12_key_99 : decode cX12_key 99 = .ok (.iaload, 1) := by decide +kernel
theorem dX12_key_100 : decode cX12_key 100 = .ok (.iconst 1, 1) := by decide +kernel
theorem dX12_key_101 : decode cX12_key 101 = .ok (.isub, 1) := by decide +kernel
theorem dX12_key_102 : decode cX12_key 102 = .ok (.ireturn, 1) := by decide +kernel
theorem dX12_key_103 : decode cX12_key 103 = .ok (.iinc 3 1, 3) := by decide +kernel
theorem dX12_key_106 : decode cX12_key 106 = .ok (.goto (-99), 3) := by decide +kernel
theorem dX12_key_109 : decode cX12_key 109 = .ok (.iconst (-1), 1) := by decide +kernel
theorem dX12_key_110 : decode cX12_key 110 = .ok (.ireturn, 1) := by decide +kernel
theorem dX12_filled_0 : decode cX12_filled 0 = .ok (.iload_n 1, 1) := by decide +kernel
theorem dX12_filled_1 : decode cX12_filled 1 = .ok (.iconst 0, 1) := by decide +kernel
theorem dX12_filled_2 : decode cX12_filled 2 = .ok (.iconst 4, 1) := by decide +kernel
theorem dX12_filled_3 : decode cX12_filled 3 = .ok (.invokestatic 79, 3) := by decide +kernel
theorem dX12_filled_6 : decode cX12_filled 6 = .ok (.ifCond .ne 5, 3) := by decide +kernel
theorem dX12_filled_9 : decode cX12_filled 9 = .ok (.iconst (-1), 1) := by decide +kernel
theorem dX12_filled_10 : decode cX12_filled 10 = .ok (.ireturn, 1) := by decide +kernel
theorem dX12_filled_11 : decode cX12_filled 11 = .ok (.iconst 0, 1) := by decide +kernel
theorem dX12_filled_12 : decode cX12_filled 12 = .ok (.istore_n 2, 1) := by decide +kernel
theorem dX12_filled_13 : decode cX12_filled 13 = .ok (.iconst 0, 1) := by decide +kernel
theorem dX12_filled_14 : decode cX12_filled 14 = .ok (.istore_n 3, 1) := by decide +kernel
theorem dX12_filled_15 : decode cX12_filled 15 = .ok (.iload_n 3, 1) := by decide +kernel
theorem dX12_filled_16 : decode cX12_filled 16 = .ok (.aload_n 0, 1) := by decide +kernel
theorem dX12_filled_17 : decode cX12_filled 17 = .ok (.getfield 7, 3) := by decide +kernel
theorem dX12_filled_20 : decode cX12_filled 20 = .ok (.iconst 0, 1) := by decide +kernel
theorem dX12_filled_21 : decode cX12_filled 21 = .ok (.iaload, 1) := by decide +kernel
theorem dX12_filled_22 : decode cX12_filled 22 = .ok (.if_icmp .ge 27, 3) := by decide +kernel
theorem dX12_filled_25 : decode cX12_filled 25 = .ok (.iload_n 2, 1) := by decide +kernel
theorem dX12_filled_26 : decode cX12_filled 26 = .ok (.aload_n 0, 1) := by decide +kernel
theorem dX12_filled_27 : decode cX12_filled 27 = .ok (.iconst 0, 1) := by decide +kernel
theorem dX12_filled_28 : decode cX12_filled 28 = .ok (.iload_n 3, 1) := by decide +kernel
theorem dX12_filled_29 : decode cX12_filled 29 = .ok (.invokevirtual 239, 3) := by decide +kernel
theorem dX12_filled_32 : decode cX12_filled 32 = .ok (.iload_n 1, 1) := by decide +kernel
theorem dX12_filled_33 : decode cX12_filled 33 = .ok (.if_icmp .ne 7, 3) := by decide +kernel
theorem dX12_filled_36 : decode cX12_filled 36 = .ok (.iconst 1, 1) := by decide +kernel
theorem dX12_filled_37 : decode cX12_filled 37 = .ok (.goto 4, 3) := by decide +kernel
theorem dX12_filled_40 : decode cX12_filled 40 = .ok (.iconst 0, 1) := by decide +kernel
theorem dX12_filled_41 : decode cX12_filled 41 = .ok (.iadd, 1) := by decide +kernel
theorem dX12_filled_42 : decode cX12_filled 42 = .ok (.istore_n 2, 1) := by decide +kernel
theorem dX12_filled_43 : decode cX12_filled 43 = .ok (.iinc 3 1, 3) := by decide +kernel
theorem dX12_filled_46 : decode cX12_filled 46 = .ok (.goto (-31), 3) := by decide +kernel
theorem dX12_filled_49 : decode cX12_filled 49 = .ok (.iload_n 2, 1) := by decide +kernel
theorem dX12_filled_50 : decode cX12_filled 50 = .ok (.ireturn, 1) := by decide +kernel
theorem dX12_restless_0 : decode cX12_restless 0 = .ok (.aload_n 0, 1) := by decide +kernel
theorem dX12_restless_1 : decode cX12_restless 1 = .ok (.iconst 0, 1) := by decide +kernel
theorem dX12_restless_2 : decode cX12_restless 2 = .ok (.invokevirtual 152, 3) := by decide +kernel
theorem dX12_restless_5 : decode cX12_restless 5 = .ok (.iconst (-1), 1) := by decide +kernel
theorem dX12_restless_6 : decode cX12_restless 6 = .ok (.istore_n 1, 1) := by decide +kernel
theorem dX12_restless_7 : decode cX12_restless 7 = .ok (.iconst 0, 1) := by decide +kernel
theorem dX12_restless_8 : decode cX12_restless 8 = .ok (.istore_n 2, 1) := by decide +kernel
theorem dX12_restless_9 : decode cX12_restless 9 = .ok (.iload_n 2, 1) := by decide +kernel
theorem dX12_restless_10 : decode cX12_restless 10 = .ok (.aload_n 0, 1) := by decide +kernel
theorem dX12_restless_11 : decode cX12_restless 11 = .ok (.getfield 142, 3) := by decide +kernel
theorem dX12_restless_14 : decode cX12_restless 14 = .ok (.if_icmp .ge 110, 3) := by decide +kernel
theorem dX12_restless_17 : decode cX12_restless 17 = .ok (.iload_n 1, 1) := by decide +kernel
theorem dX12_restless_18 : decode cX12_restless 18 = .ok (.ifCond .lt 26, 3) := by decide +kernel
theorem dX12_restless_21 : decode cX12_restless 21 = .ok (.aload_n 0, 1) := by decide +kernel
theorem dX12_restless_22 : decode cX12_restless 22 = .ok (.getfield 39, 3) := by decide +kernel
theorem dX12_restless_25 : decode cX12_restless 25 = .ok (.iconst 4, 1) := by decide +kernel
theorem dX12_restless_26 : decode cX12_restless 26 = .ok (.iload_n 2, 1) := by decide +kernel
theorem dX12_restless_27 : decode cX12_restless 27 = .ok (.imul, 1) := by decide +kernel
theorem dX12_restless_28 : decode cX12_restless 28 = .ok (.iconst 3, 1) := by decide +kernel
theorem dX12_restless_29 : decode cX12_restless 29 = .ok (.iadd, 1) := by decide +kernel
theorem dX12_restless_30 : decode cX12_restless 30 = .ok (.iaload, 1) := by decide +kernel
theorem dX12_restless_31 : decode cX12_restless 31 = .ok (.aload_n 0, 1) := by decide +kernel
theorem dX12_restless_32 : decode cX12_restless 32 = .ok (.getfield 39, 3) := by decide +kernel
theorem dX12_restless_35 : decode cX12_restless 35 = .ok (.iconst 4, 1) := by decide +kernel
theorem dX12_restless_36 : decode cX12_restless 36 = .ok (.iload_n 1, 1) := by decide +kernel
theorem dX12_restless_37 : decode cX12_restless 37 = .ok (.imul, 1) := by decide +kernel
theorem dX12_restless_38 : decode cX12_restless 38 = .ok (.iconst 3, 1) := by decide +kernel
theorem dX12_restless_39 : decode cX12_restless 39 = .ok (.iadd, 1) := by decide +kernel
theorem dX12_restless_40 : decode cX12_restless 40 = .ok (.iaload, 1) := by decide +kernel
theorem dX12_restless_41 : decode cX12_restless 41 = .ok (.if_icmp .le 7, 3) := by decide +kernel
theorem dX12_restless_44 : decode cX12_restless 44 = .ok (.iconst 1, 1) := by decide +kernel
theorem dX12_restless_45 : decode cX12_restless 45 = .ok (.goto 4, 3) := by decide +kernel
theorem dX12_restless_48 : decode cX12_restless 48 = .ok (.iconst 0, 1) := by decide +kernel
theorem dX12_restless_49 : decode cX12_restless 49 = .ok (.istore_n 3, 1) := by decide +kernel
theorem dX12_restless_50 : decode cX12_restless 50 = .ok (.iload_n 1, 1) := by decide +kernel
theorem dX12_restless_51 : decode cX12_restless 51 = .ok (.ifCond .lt 30, 3) := by decide +kernel
theorem dX12_restless_54 : decode cX12_restless 54 = .ok (.aload_n 0, 1) := by decide +kernel
theorem dX12_restless_55 : decode cX12_restless 55 = .ok (.getfield 39, 3) := by decide +kernel
theorem dX12_restless_58 : decode cX12_restless 58 = .ok (.iconst 4, 1) := by decide +kernel
theorem dX12_restless_59 : decode cX12_restless 59 = .ok (.iload_n 2, 1) := by decide +kernel
theorem dX12_restless_60 : decode cX12_restless 60 = .ok (.imul, 1) := by decide +kernel
theorem dX12_restless_61 : decode cX12_restless 61 = .ok (.iconst 3, 1) := by decide +kernel
theorem dX12_restless_62 : decode cX12_restless 62 = .ok (.iadd, 1) := by decide +kernel
theorem dX12_restless_63 : decode cX12_restless 63 = .ok (.iaload, 1) := by decide +kernel
theorem dX12_restless_64 : decode cX12_restless 64 = .ok (.aload_n 0, 1) := by decide +kernel
theorem dX12_restless_65 : decode cX12_restless 65 = .ok (.getfield 39, 3) := by decide +kernel
theorem dX12_restless_68 : decode cX12_restless 68 = .ok (.iconst 4, 1) := by decide +kernel
theorem dX12_restless_69 : decode cX12_restless 69 = .ok (.iload_n 1, 1) := by decide +kernel
theorem dX12_restless_70 : decode cX12_restless 70 = .ok (.imul, 1) := by decide +kernel
theorem dX12_restless_71 : decode cX12_restless 71 = .ok (.iconst 3, 1) := by decide +kernel
theorem dX12_restless_72 : decode cX12_restless 72 = .ok (.iadd, 1) := by decide +kernel
theorem dX12_restless_73 : decode cX12_restless 73 = .ok (.iaload, 1) := by decide +kernel
theorem dX12_restless_74 : decode cX12_restless 74 = .ok (.if_icmp .ne 7, 3) := by decide +kernel
theorem dX12_restless_77 : decode cX12_restless 77 = .ok (.iconst 1, 1) := by decide +kernel
theorem dX12_restless_78 : decode cX12_restless 78 = .ok (.goto 4, 3) := by decide +kernel
theorem dX12_restless_81 : decode cX12_restless 81 = .ok (.iconst 0, 1) := by decide +kernel
theorem dX12_restless_82 : decode cX12_restless 82 = .ok (.istore 4, 2) := by decide +kernel
theorem dX12_restless_84 : decode cX12_restless 84 = .ok (.iload_n 3, 1) := by decide +kernel
theorem dX12_restless_85 : decode cX12_restless 85 = .ok (.ifCond .ne 27, 3) := by decide +kernel
theorem dX12_restless_88 : decode cX12_restless 88 = .ok (.iload 4, 2) := by decide +kernel
theorem dX12_restless_90 : decode cX12_restless 90 = .ok (.ifCond .eq 26, 3) := by decide +kernel
theorem dX12_restless_93 : decode cX12_restless 93 = .ok (.aload_n 0, 1) := by decide +kernel
theorem dX12_restless_94 : decode cX12_restless 94 = .ok (.getfield 39, 3) := by decide +kernel
theorem dX12_restless_97 : decode cX12_restless 97 = .ok (.iconst 4, 1) := by decide +kernel
theorem dX12_restless_98 : decode cX12_restless 98 = .ok (.iload_n 2, 1) := by decide +kernel
theorem dX12_restless_99 : decode cX12_restless 99 = .ok (.imul, 1) := by decide +kernel
theorem dX12_restless_100 : decode cX12_restless 100 = .ok (.iaload, 1) := by decide +kernel
theorem dX12_restless_101 : decode cX12_restless 101 = .ok (.aload_n 0, 1) := by decide +kernel
theorem dX12_restless_102 : decode cX12_restless 102 = .ok (.getfield 39, 3) := by decide +kernel
theorem dX12_restless_105 : decode cX12_restless 105 = .ok (.iconst 4, 1) := by decide +kernel
theorem dX12_restless_106 : decode cX12_restless 106 = .ok (.iload_n 1, 1) := by decide +kernel
theorem dX12_restless_107 : decode cX12_restless 107 = .ok (.imul, 1) := by decide +kernel
theorem dX12_restless_108 : decode cX12_restless 108 = .ok (.iaload, 1) := by decide +kernel
theorem dX12_restless_109 : decode cX12_restless 109 = .ok (.if_icmp .ge 7, 3) := by decide +kernel
theorem dX12_restless_112 : decode cX12_restless 112 = .ok (.iload_n 2, 1) := by decide +kernel
theorem dX12_restless_113 : decode cX12_restless 113 = .ok (.goto 4, 3) := by decide +kernel
theorem dX12_restless_116 : decode cX12_restless 116 = .ok (.iload_n 1, 1) := by decide +kernel
theorem dX12_restless_117 : decode cX12_restless 117 = .ok (.istore_n 1, 1) := by decide +kernel
theorem dX12_restless_118 : decode cX12_restless 118 = .ok (.iinc 2 1, 3) := by decide +kernel
theorem dX12_restless_121 : decode cX12_restless 121 = .ok (.goto (-112), 3) := by decide +kernel
theorem dX12_restless_124 : decode cX12_restless 124 = .ok (.iload_n 1, 1) := by decide +kernel
theorem dX12_restless_125 : decode cX12_restless 125 = .ok (.ifCond .ge 7, 3) := by decide +kernel
theorem dX12_restless_128 : decode cX12_restless 128 = .ok (.iconst (-1), 1) := by decide +kernel
theorem dX12_restless_129 : decode cX12_restless 129 = .ok (.goto 13, 3) := by decide +kernel
theorem dX12_restless_132 : decode cX12_restless 132 = .ok (.aload_n 0, 1) := by decide +kernel
theorem dX12_restless_133 : decode cX12_restless 133 = .ok (.getfield 39, 3) := by decide +kernel
theorem dX12_restless_136 : decode cX12_restless 136 = .ok (.iconst 4, 1) := by decide +kernel
theorem dX12_restless_137 : decode cX12_restless 137 = .ok (.iload_n 1, 1) := by decide +kernel
theorem dX12_restless_138 : decode cX12_restless 138 = .ok (.imul, 1) := by decide +kernel
theorem dX12_restless_139 : decode cX12_restless 139 = .ok (.iaload, 1) := by decide +kernel
theorem dX12_restless_140 : decode cX12_restless 140 = .ok (.iconst 1, 1) := by decide +kernel
theorem dX12_restless_141 : decode cX12_restless 141 = .ok (.isub, 1) := by decide +kernel
theorem dX12_restless_142 : decode cX12_restless 142 = .ok (.ireturn, 1) := by decide +kernel
theorem dX12_moved_0 : decode cX12_moved 0 = .ok (.aload_n 0, 1) := by decide +kernel
theorem dX12_moved_1 : decode cX12_moved 1 = .ok (.iload_n 1, 1) := by decide +kernel
theorem dX12_moved_2 : decode cX12_moved 2 = .ok (.invokevirtual 152, 3) := by decide +kernel
theorem dX12_moved_5 : decode cX12_moved 5 = .ok (.iconst 0, 1) := by decide +kernel
theorem dX12_moved_6 : decode cX12_moved 6 = .ok (.istore_n 3, 1) := by decide +kernel
theorem dX12_moved_7 : decode cX12_moved 7 = .ok (.iconst 0, 1) := by decide +kernel
theorem dX12_moved_8 : decode cX12_moved 8 = .ok (.istore 4, 2) := by decide +kernel
theorem dX12_moved_10 : decode cX12_moved 10 = .ok (.iload 4, 2) := by decide +kernel
theorem dX12_moved_12 : decode cX12_moved 12 = .ok (.aload_n 0, 1) := by decide +kernel
theorem dX12_moved_13 : decode cX12_moved 13 = .ok (.getfield 142, 3) := by decide +kernel
theorem dX12_moved_16 : decode cX12_moved 16 = .ok (.if_icmp .ge 60, 3) := by decide +kernel
theorem dX12_moved_19 : decode cX12_moved 19 = .ok (.iload_n 2, 1) := by decide +kernel
theorem dX12_moved_20 : decode cX12_moved 20 = .ok (.ifCond .ne 19, 3) := by decide +kernel
theorem dX12_moved_23 : decode cX12_moved 23 = .ok (.iload_n 3, 1) := by decide +kernel
theorem dX12_moved_24 : decode cX12_moved 24 = .ok (.aload_n 0, 1) := by decide +kernel
theorem dX12_moved_25 : decode cX12_moved 25 = .ok (.getfield 39, 3) := by decide +kernel
theorem dX12_moved_28 : decode cX12_moved 28 = .ok (.iconst 4, 1) := by decide +kernel
theorem dX12_moved_29 : decode cX12_moved 29 = .ok (.iload 4, 2) := by decide +kernel
theorem dX12_moved_31 : decode cX12_moved 31 = .ok (.imul, 1) := by decide +kernel
theorem dX12_moved_32 : decode cX12_moved 32 = .ok (.iconst 3, 1) := by decide +kernel
theorem dX12_moved_33 : decode cX12_moved 33 = .ok (.iadd, 1) := by decide +kernel
theorem dX12_moved_34 : decode cX12_moved 34 = .ok (.iaload, 1) := by decide +kernel
theorem dX12_moved_35 : decode cX12_moved 35 = .ok (.iadd, 1) := by decide +kernel
theorem dX12_moved_36 : decode cX12_moved 36 = .ok (.goto 33, 3) := by decide +kernel
theorem dX12_moved_39 : decode cX12_moved 39 = .ok (.aload_n 0, 1) := by decide +kernel
theorem dX12_moved_40 : decode cX12_moved 40 = .ok (.getfield 39, 3) := by decide +kernel
theorem dX12_moved_43 : decode cX12_moved 43 = .ok (.iconst 4, 1) := by decide +kernel
theorem dX12_moved_44 : decode cX12_moved 44 = .ok (.iload 4, 2) := by decide +kernel
theorem dX12_moved_46 : decode cX12_moved 46 = .ok (.imul, 1) := by decide +kernel
theorem dX12_moved_47 : decode cX12_moved 47 = .ok (.iconst 3, 1) := by decide +kernel
theorem dX12_moved_48 : decode cX12_moved 48 = .ok (.iadd, 1) := by decide +kernel
theorem dX12_moved_49 : decode cX12_moved 49 = .ok (.iaload, 1) := by decide +kernel
theorem dX12_moved_50 : decode cX12_moved 50 = .ok (.iload_n 3, 1) := by decide +kernel
theorem dX12_moved_51 : decode cX12_moved 51 = .ok (.if_icmp .le 17, 3) := by decide +kernel
theorem dX12_moved_54 : decode cX12_moved 54 = .ok (.aload_n 0, 1) := by decide +kernel
theorem dX12_moved_55 : decode cX12_moved 55 = .ok (.getfield 39, 3) := by decide +kernel
theorem dX12_moved_58 : decode cX12_moved 58 = .ok (.iconst 4, 1) := by decide +kernel
theorem dX12_moved_59 : decode cX12_moved 59 = .ok (.iload 4, 2) := by decide +kernel
theorem dX12_moved_61 : decode cX12_moved 61 = .ok (.imul, 1) := by decide +kernel
theorem dX12_moved_62 : decode cX12_moved 62 = .ok (.iconst 3, 1) := by decide +kernel
theorem dX12_moved_63 : decode cX12_moved 63 = .ok (.iadd, 1) := by decide +kernel
theorem dX12_moved_64 : decode cX12_moved 64 = .ok (.iaload, 1) := by decide +kernel
theorem dX12_moved_65 : decode cX12_moved 65 = .ok (.goto 4, 3) := by decide +kernel
theorem dX12_moved_68 : decode cX12_moved 68 = .ok (.iload_n 3, 1) := by decide +kernel
theorem dX12_moved_69 : decode cX12_moved 69 = .ok (.istore_n 3, 1) := by decide +kernel
theorem dX12_moved_70 : decode cX12_moved 70 = .ok (.iinc 4 1, 3) := by decide +kernel
theorem dX12_moved_73 : decode cX12_moved 73 = .ok (.goto (-63), 3) := by decide +kernel
theorem dX12_moved_76 : decode cX12_moved 76 = .ok (.iload_n 3, 1) := by decide +kernel
theorem dX12_moved_77 : decode cX12_moved 77 = .ok (.ireturn, 1) := by decide +kernel
theorem dX12_greatestRead_0 : decode cX12_greatestRead 0 = .ok (.aload_n 0, 1) := by decide +kernel
theorem dX12_greatestRead_1 : decode cX12_greatestRead 1 = .ok (.iload_n 1, 1) := by decide +kernel
theorem dX12_greatestRead_2 : decode cX12_greatestRead 2 = .ok (.invokevirtual 152, 3) := by decide +kernel
theorem dX12_greatestRead_5 : decode cX12_greatestRead 5 = .ok (.iconst 0, 1) := by decide +kernel
theorem dX12_greatestRead_6 : decode cX12_greatestRead 6 = .ok (.istore_n 2, 1) := by decide +kernel
theorem dX12_greatestRead_7 : decode cX12_greatestRead 7 = .ok (.iconst 0, 1) := by decide +kernel
theorem dX12_greatestRead_8 : decode cX12_greatestRead 8 = .ok (.istore_n 3, 1) := by decide +kernel
theorem dX12_greatestRead_9 : decode cX12_greatestRead 9 = .ok (.iload_n 3, 1) := by decide +kernel
theorem dX12_greatestRead_10 : decode cX12_greatestRead 10 = .ok (.aload_n 0, 1) := by decide +kernel
theorem dX12_greatestRead_11 : decode cX12_greatestRead 11 = .ok (.getfield 142, 3) := by decide +kernel
theorem dX12_greatestRead_14 : decode cX12_greatestRead 14 = .ok (.if_icmp .ge 39, 3) := by decide +kernel
theorem dX12_greatestRead_17 : decode cX12_greatestRead 17 = .ok (.aload_n 0, 1) := by decide +kernel
theorem dX12_greatestRead_18 : decode cX12_greatestRead 18 = .ok (.iload_n 1, 1) := by decide +kernel
theorem dX12_greatestRead_19 : decode cX12_greatestRead 19 = .ok (.aload_n 0, 1) := by decide +kernel
theorem dX12_greatestRead_20 : decode cX12_greatestRead 20 = .ok (.getfield 39, 3) := by decide +kernel
theorem dX12_greatestRead_23 : decode cX12_greatestRead 23 = .ok (.iconst 4, 1) := by decide +kernel
theorem dX12_greatestRead_24 : decode cX12_greatestRead 24 = .ok (.iload_n 3, 1) := by decide +kernel
theorem dX12_greatestRead_25 : decode cX12_greatestRead 25 = .ok (.imul, 1) := by decide +kernel
theorem dX12_greatestRead_26 : decode cX12_greatestRead 26 = .ok (.iaload, 1) := by decide +kernel
theorem dX12_greatestRead_27 : decode cX12_greatestRead 27 = .ok (.iconst 1, 1) := by decide +kernel
theorem dX12_greatestRead_28 : decode cX12_greatestRead 28 = .ok (.isub, 1) := by decide +kernel
theorem dX12_greatestRead_29 : decode cX12_greatestRead 29 = .ok (.invokevirtual 248, 3) := by decide +kernel
theorem dX12_greatestRead_32 : decode cX12_greatestRead 32 = .ok (.istore 4, 2) := by decide +kernel
theorem dX12_greatestRead_34 : decode cX12_greatestRead 34 = .ok (.iload 4, 2) := by decide +kernel
theorem dX12_greatestRead_36 : decode cX12_greatestRead 36 = .ok (.iload_n 2, 1) := by decide +kernel
theorem dX12_greatestRead_37 : decode cX12_greatestRead 37 = .ok (.if_icmp .le 8, 3) := by decide +kernel
theorem dX12_greatestRead_40 : decode cX12_greatestRead 40 = .ok (.iload 4, 2) := by decide +kernel
theorem dX12_greatestRead_42 : decode cX12_greatestRead 42 = .ok (.goto 4, 3) := by decide +kernel
theorem dX12_greatestRead_45 : decode cX12_greatestRead 45 = .ok (.iload_n 2, 1) := by decide +kernel
theorem dX12_greatestRead_46 : decode cX12_greatestRead 46 = .ok (.istore_n 2, 1) := by decide +kernel
theorem dX12_greatestRead_47 : decode cX12_greatestRead 47 = .ok (.iinc 3 1, 3) := by decide +kernel
theorem dX12_greatestRead_50 : decode cX12_greatestRead 50 = .ok (.goto (-41), 3) := by decide +kernel
theorem dX12_greatestRead_53 : decode cX12_greatestRead 53 = .ok (.iload_n 2, 1) := by decide +kernel
theorem dX12_greatestRead_54 : decode cX12_greatestRead 54 = .ok (.ireturn, 1) := by decide +kernel
theorem dX12_entries_0 : decode cX12_entries 0 = .ok (.aload_n 0, 1) := by decide +kernel
theorem dX12_entries_1 : decode cX12_entries 1 = .ok (.iload_n 1, 1) := by decide +kernel
theorem dX12_entries_2 : decode cX12_entries 2 = .ok (.invokevirtual 152, 3) := by decide +kernel
theorem dX12_entries_5 : decode cX12_entries 5 = .ok (.aload_n 0, 1) := by decide +kernel
theorem dX12_entries_6 : decode cX12_entries 6 = .ok (.getfield 142, 3) := by decide +kernel
theorem dX12_entries_9 : decode cX12_entries 9 = .ok (.ireturn, 1) := by decide +kernel
theorem dX12_parts_0 : decode cX12_parts 0 = .ok (.iconst 0, 1) := by decide +kernel
theorem dX12_parts_1 : decode cX12_parts 1 = .ok (.istore_n 2, 1) := by decide +kernel
theorem dX12_parts_2 : decode cX12_parts 2 = .ok (.iconst 0, 1) := by decide +kernel
theorem dX12_parts_3 : decode cX12_parts 3 = .ok (.istore_n 3, 1) := by decide +kernel
theorem dX12_parts_4 : decode cX12_parts 4 = .ok (.iconst 0, 1) := by decide +kernel
theorem dX12_parts_5 : decode cX12_parts 5 = .ok (.istore 4, 2) := by decide +kernel
theorem dX12_parts_7 : decode cX12_parts 7 = .ok (.iload 4, 2) := by decide +kernel
theorem dX12_parts_9 : decode cX12_parts 9 = .ok (.aload_n 0, 1) := by decide +kernel
theorem dX12_parts_10 : decode cX12_parts 10 = .ok (.getfield 7, 3) := by decide +kernel
theorem dX12_parts_13 : decode cX12_parts 13 = .ok (.iconst 0, 1) := by decide +kernel
theorem dX12_parts_14 : decode cX12_parts 14 = .ok (.iaload, 1) := by decide +kernel
theorem dX12_parts_15 : decode cX12_parts 15 = .ok (.if_icmp .ge 61, 3) := by decide +kernel
theorem dX12_parts_18 : decode cX12_parts 18 = .ok (.iload_n 3, 1) := by decide +kernel
theorem dX12_parts_19 : decode cX12_parts 19 = .ok (.iload 4, 2) := by decide +kernel
theorem dX12_parts_21 : decode cX12_parts 21 = .ok (.ishr, 1) := by decide +kernel
theorem dX12_parts_22 : decode cX12_parts 22 = .ok (.iconst 1, 1) := by decide +kernel
theorem dX12_parts_23 : decode cX12_parts 23 = .ok (.iand, 1) := by decide +kernel
theorem dX12_parts_24 : decode cX12_parts 24 = .ok (.iconst 1, 1) := by decide +kernel
theorem dX12_parts_25 : decode cX12_parts 25 = .ok (.if_icmp .ne 6, 3) := by decide +kernel
theorem dX12_parts_28 : decode cX12_parts 28 = .ok (.goto 42, 3) := by decide +kernel
theorem dX12_parts_31 : decode cX12_parts 31 = .ok (.aload_n 0, 1) := by decide +kernel
theorem dX12_parts_32 : decode cX12_parts 32 = .ok (.iload 4, 2) := by decide +kernel
theorem dX12_parts_34 : decode cX12_parts 34 = .ok (.invokevirtual 230, 3) := by decide +kernel
theorem dX12_parts_37 : decode cX12_parts 37 = .ok (.istore 5, 2) := by decide +kernel
theorem dX12_parts_39 : decode cX12_parts 39 = .ok (.iload_n 3, 1) := by decide +kernel
theorem dX12_parts_40 : decode cX12_parts 40 = .ok (.iload 5, 2) := by decide +kernel
theorem dX12_parts_42 : decode cX12_parts 42 = .ok (.ior, 1) := by decide +kernel
theorem dX12_parts_43 : decode cX12_parts 43 = .ok (.istore_n 3, 1) := by decide +kernel
theorem dX12_parts_44 : decode cX12_parts 44 = .ok (.iload_n 2, 1) := by decide +kernel
theorem dX12_parts_45 : decode cX12_parts 45 = .ok (.iload_n 1, 1) := by decide +kernel
theorem dX12_parts_46 : decode cX12_parts 46 = .ok (.ifCond .eq 17, 3) := by decide +kernel
theorem dX12_parts_49 : decode cX12_parts 49 = .ok (.aload_n 0, 1) := by decide +kernel
theorem dX12_parts_50 : decode cX12_parts 50 = .ok (.iload 5, 2) := by decide +kernel
theorem dX12_parts_52 : decode cX12_parts 52 = .ok (.invokevirtual 233, 3) := by decide +kernel
theorem dX12_parts_55 : decode cX12_parts 55 = .ok (.iload 5, 2) := by decide +kernel
theorem dX12_parts_57 : decode cX12_parts 57 = .ok (.invokestatic 236, 3) := by decide +kernel
theorem dX12_parts_60 : decode cX12_parts 60 = .ok (.if_icmp .le 7, 3) := by decide +kernel
theorem dX12_parts_63 : decode cX12_parts 63 = .ok (.iconst 1, 1) := by decide +kernel
theorem dX12_parts_64 : decode cX12_parts 64 = .ok (.goto 4, 3) := by decide +kernel
theorem dX12_parts_67 : decode cX12_parts 67 = .ok (.iconst 0, 1) := by decide +kernel
theorem dX12_parts_68 : decode cX12_parts 68 = .ok (.iadd, 1) := by decide +kernel
theorem dX12_parts_69 : decode cX12_parts 69 = .ok (.istore_n 2, 1) := by decide +kernel
theorem dX12_parts_70 : decode cX12_parts 70 = .ok (.iinc 4 1, 3) := by decide +kernel
theorem dX12_parts_73 : decode cX12_parts 73 = .ok (.goto (-66), 3) := by decide +kernel
theorem dX12_parts_76 : decode cX12_parts 76 = .ok (.iload_n 2, 1) := by decide +kernel
theorem dX12_parts_77 : decode cX12_parts 77 = .ok (.ireturn, 1) := by decide +kernel
theorem dX12_counts_0 : decode cX12_counts 0 = .ok (.iload_n 2, 1) := by decide +kernel
theorem dX12_counts_1 : decode cX12_counts 1 = .ok (.bipush 10, 2) := by decide +kernel
theorem dX12_counts_3 : decode cX12_counts 3 = .ok (.bipush 13, 2) := by decide +kernel
theorem dX12_counts_5 : decode cX12_counts 5 = .ok (.invokestatic 79, 3) := by decide +kernel
theorem dX12_counts_8 : decode cX12_counts 8 = .ok (.ifCond .eq 18, 3) := by decide +kernel
theorem dX12_counts_11 : decode cX12_counts 11 = .ok (.aload_n 0, 1) := by decide +kernel
theorem dX12_counts_12 : decode cX12_counts 12 = .ok (.getfield 7, 3) := by decide +kernel
theorem dX12_counts_15 : decode cX12_counts 15 = .ok (.iload_n 1, 1) := by decide +kernel
theorem dX12_counts_16 : decode cX12_counts 16 = .ok (.bipush 7, 2) := by decide +kernel
