theorem dX12_counts_18 : decode cX12_counts 18 = .ok (.iadd, 1) := by decide +kernel
theorem dX12_counts_19 : decode cX12_counts 19 = .ok (.iload_n 2, 1) := by decide +kernel
theorem dX12_counts_20 : decode cX12_counts 20 = .ok (.iadd, 1) := by decide +kernel
theorem dX12_counts_21 : decode cX12_counts 21 = .ok (.bipush 10, 2) := by decide +kernel
theorem dX12_counts_23 : decode cX12_counts 23 = .ok (.isub, 1) := by decide +kernel
theorem dX12_counts_24 : decode cX12_counts 24 = .ok (.iaload, 1) := by decide +kernel
theorem dX12_counts_25 : decode cX12_counts 25 = .ok (.ireturn, 1) := by decide +kernel
theorem dX12_counts_26 : decode cX12_counts 26 = .ok (.iload_n 2, 1) := by decide +kernel
theorem dX12_counts_27 : decode cX12_counts 27 = .ok (.tableswitch 321 0 25 #[117, 123, 132, 141, 150, 160, 194, 203, 212, 221, 321, 321, 321, 321, 231, 241, 251, 261, 271, 278, 285, 295, 301, 321, 321, 311], 117) := by decide +kernel
theorem dX12_counts_144 : decode cX12_counts 144 = .ok (.aload_n 0, 1) := by decide +kernel
theorem dX12_counts_145 : decode cX12_counts 145 = .ok (.iload_n 1, 1) := by decide +kernel
theorem dX12_counts_146 : decode cX12_counts 146 = .ok (.invokevirtual 266, 3) := by decide +kernel
theorem dX12_counts_149 : decode cX12_counts 149 = .ok (.ireturn, 1) := by decide +kernel
theorem dX12_counts_150 : decode cX12_counts 150 = .ok (.aload_n 0, 1) := by decide +kernel
theorem dX12_counts_151 : decode cX12_counts 151 = .ok (.getfield 7, 3) := by decide +kernel
theorem dX12_counts_154 : decode cX12_counts 154 = .ok (.iload_n 1, 1) := by decide +kernel
theorem dX12_counts_155 : decode cX12_counts 155 = .ok (.iconst 0, 1) := by decide +kernel
theorem dX12_counts_156 : decode cX12_counts 156 = .ok (.iadd, 1) := by decide +kernel
theorem dX12_counts_157 : decode cX12_counts 157 = .ok (.iaload, 1) := by decide +kernel
theorem dX12_counts_158 : decode cX12_counts 158 = .ok (.ireturn, 1) := by decide +kernel
theorem dX12_counts_159 : decode cX12_counts 159 = .ok (.aload_n 0, 1) := by decide +kernel
theorem dX12_counts_160 : decode cX12_counts 160 = .ok (.getfield 7, 3) := by decide +kernel
theorem dX12_counts_163 : decode cX12_counts 163 = .ok (.iload_n 1, 1) := by decide +kernel
theorem dX12_counts_164 : decode cX12_counts 164 = .ok (.iconst 1, 1) := by decide +kernel
theorem dX12_counts_165 : decode cX12_counts 165 = .ok (.iadd, 1) := by decide +kernel
theorem dX12_counts_166 : decode cX12_counts 166 = .ok (.iaload, 1) := by decide +kernel
theorem dX12_counts_167 : decode cX12_counts 167 = .ok (.ireturn, 1) := by decide +kernel
theorem dX12_counts_168 : decode cX12_counts 168 = .ok (.aload_n 0, 1) := by decide +kernel
theorem dX12_counts_169 : decode cX12_counts 169 = .ok (.getfield 7, 3) := by decide +kernel
theorem dX12_counts_172 : decode cX12_counts 172 = .ok (.iload_n 1, 1) := by decide +kernel
theorem dX12_counts_173 : decode cX12_counts 173 = .ok (.iconst 2, 1) := by decide +kernel
theorem dX12_counts_174 : decode cX12_counts 174 = .ok (.iadd, 1) := by decide +kernel
theorem dX12_counts_175 : decode cX12_counts 175 = .ok (.iaload, 1) := by decide +kernel
theorem dX12_counts_176 : decode cX12_counts 176 = .ok (.ireturn, 1) := by decide +kernel
theorem dX12_counts_177 : decode cX12_counts 177 = .ok (.aload_n 0, 1) := by decide +kernel
theorem dX12_counts_178 : decode cX12_counts 178 = .ok (.getfield 7, 3) := by decide +kernel
theorem dX12_counts_181 : decode cX12_counts 181 = .ok (.iload_n 1, 1) := by decide +kernel
theorem dX12_counts_182 : decode cX12_counts 182 = .ok (.bipush 18, 2) := by decide +kernel
theorem dX12_counts_184 : decode cX12_counts 184 = .ok (.iadd, 1) := by decide +kernel
theorem dX12_counts_185 : decode cX12_counts 185 = .ok (.iaload, 1) := by decide +kernel
theorem dX12_counts_186 : decode cX12_counts 186 = .ok (.ireturn, 1) := by decide +kernel
theorem dX12_counts_187 : decode cX12_counts 187 = .ok (.aload_n 0, 1) := by decide +kernel
theorem dX12_counts_188 : decode cX12_counts 188 = .ok (.getfield 7, 3) := by decide +kernel
theorem dX12_counts_191 : decode cX12_counts 191 = .ok (.iload_n 1, 1) := by decide +kernel
theorem dX12_counts_192 : decode cX12_counts 192 = .ok (.iconst 0, 1) := by decide +kernel
theorem dX12_counts_193 : decode cX12_counts 193 = .ok (.iadd, 1) := by decide +kernel
theorem dX12_counts_194 : decode cX12_counts 194 = .ok (.iaload, 1) := by decide +kernel
theorem dX12_counts_195 : decode cX12_counts 195 = .ok (.aload_n 0, 1) := by decide +kernel
theorem dX12_counts_196 : decode cX12_counts 196 = .ok (.getfield 7, 3) := by decide +kernel
theorem dX12_counts_199 : decode cX12_counts 199 = .ok (.iload_n 1, 1) := by decide +kernel
theorem dX12_counts_200 : decode cX12_counts 200 = .ok (.iconst 1, 1) := by decide +kernel
theorem dX12_counts_201 : decode cX12_counts 201 = .ok (.iadd, 1) := by decide +kernel
theorem dX12_counts_202 : decode cX12_counts 202 = .ok (.iaload, 1) := by decide +kernel
theorem dX12_counts_203 : decode cX12_counts 203 = .ok (.imul, 1) := by decide +kernel
theorem dX12_counts_204 : decode cX12_counts 204 = .ok (.aload_n 0, 1) := by decide +kernel
theorem dX12_counts_205 : decode cX12_counts 205 = .ok (.getfield 7, 3) := by decide +kernel
theorem dX12_counts_208 : decode cX12_counts 208 = .ok (.iload_n 1, 1) := by decide +kernel
theorem dX12_counts_209 : decode cX12_counts 209 = .ok (.bipush 18, 2) := by decide +kernel
theorem dX12_counts_211 : decode cX12_counts 211 = .ok (.iadd, 1) := by decide +kernel
theorem dX12_counts_212 : decode cX12_counts 212 = .ok (.iaload, 1) := by decide +kernel
theorem dX12_counts_213 : decode cX12_counts 213 = .ok (.iadd, 1) := by decide +kernel
theorem dX12_counts_214 : decode cX12_counts 214 = .ok (.aload_n 0, 1) := by decide +kernel
theorem dX12_counts_215 : decode cX12_counts 215 = .ok (.iload_n 1, 1) := by decide +kernel
theorem dX12_counts_216 : decode cX12_counts 216 = .ok (.invokevirtual 266, 3) := by decide +kernel
theorem dX12_counts_219 : decode cX12_counts 219 = .ok (.isub, 1) := by decide +kernel
theorem dX12_counts_220 : decode cX12_counts 220 = .ok (.ireturn, 1) := by decide +kernel
theorem dX12_counts_221 : decode cX12_counts 221 = .ok (.aload_n 0, 1) := by decide +kernel
theorem dX12_counts_222 : decode cX12_counts 222 = .ok (.getfield 7, 3) := by decide +kernel
theorem dX12_counts_225 : decode cX12_counts 225 = .ok (.iload_n 1, 1) := by decide +kernel
theorem dX12_counts_226 : decode cX12_counts 226 = .ok (.iconst 3, 1) := by decide +kernel
theorem dX12_counts_227 : decode cX12_counts 227 = .ok (.iadd, 1) := by decide +kernel
theorem dX12_counts_228 : decode cX12_counts 228 = .ok (.iaload, 1) := by decide +kernel
theorem dX12_counts_229 : decode cX12_counts 229 = .ok (.ireturn, 1) := by decide +kernel
theorem dX12_counts_230 : decode cX12_counts 230 = .ok (.aload_n 0, 1) := by decide +kernel
theorem dX12_counts_231 : decode cX12_counts 231 = .ok (.getfield 7, 3) := by decide +kernel
theorem dX12_counts_234 : decode cX12_counts 234 = .ok (.iload_n 1, 1) := by decide +kernel
theorem dX12_counts_235 : decode cX12_counts 235 = .ok (.iconst 4, 1) := by decide +kernel
theorem dX12_counts_236 : decode cX12_counts 236 = .ok (.iadd, 1) := by decide +kernel
theorem dX12_counts_237 : decode cX12_counts 237 = .ok (.iaload, 1) := by decide +kernel
theorem dX12_counts_238 : decode cX12_counts 238 = .ok (.ireturn, 1) := by decide +kernel
theorem dX12_counts_239 : decode cX12_counts 239 = .ok (.aload_n 0, 1) := by decide +kernel
theorem dX12_counts_240 : decode cX12_counts 240 = .ok (.getfield 7, 3) := by decide +kernel
theorem dX12_counts_243 : decode cX12_counts 243 = .ok (.iload_n 1, 1) := by decide +kernel
theorem dX12_counts_244 : decode cX12_counts 244 = .ok (.iconst 5, 1) := by decide +kernel
theorem dX12_counts_245 : decode cX12_counts 245 = .ok (.iadd, 1) := by decide +kernel
theorem dX12_counts_246 : decode cX12_counts 246 = .ok (.iaload, 1) := by decide +kernel
theorem dX12_counts_247 : decode cX12_counts 247 = .ok (.ireturn, 1) := by decide +kernel
theorem dX12_counts_248 : decode cX12_counts 248 = .ok (.aload_n 0, 1) := by decide +kernel
theorem dX12_counts_249 : decode cX12_counts 249 = .ok (.getfield 7, 3) := by decide +kernel
theorem dX12_counts_252 : decode cX12_counts 252 = .ok (.iload_n 1, 1) := by decide +kernel
theorem dX12_counts_253 : decode cX12_counts 253 = .ok (.bipush 6, 2) := by decide +kernel
theorem dX12_counts_255 : decode cX12_counts 255 = .ok (.iadd, 1) := by decide +kernel
theorem dX12_counts_256 : decode cX12_counts 256 = .ok (.iaload, 1) := by decide +kernel
theorem dX12_counts_257 : decode cX12_counts 257 = .ok (.ireturn, 1) := by decide +kernel
theorem dX12_counts_258 : decode cX12_counts 258 = .ok (.aload_n 0, 1) := by decide +kernel
theorem dX12_counts_259 : decode cX12_counts 259 = .ok (.getfield 7, 3) := by decide +kernel
theorem dX12_counts_262 : decode cX12_counts 262 = .ok (.iload_n 1, 1) := by decide +kernel
theorem dX12_counts_263 : decode cX12_counts 263 = .ok (.bipush 12, 2) := by decide +kernel
theorem dX12_counts_265 : decode cX12_counts 265 = .ok (.iadd, 1) := by decide +kernel
theorem dX12_counts_266 : decode cX12_counts 266 = .ok (.iaload, 1) := by decide +kernel
theorem dX12_counts_267 : decode cX12_counts 267 = .ok (.ireturn, 1) := by decide +kernel
theorem dX12_counts_268 : decode cX12_counts 268 = .ok (.aload_n 0, 1) := by decide +kernel
theorem dX12_counts_269 : decode cX12_counts 269 = .ok (.getfield 7, 3) := by decide +kernel
theorem dX12_counts_272 : decode cX12_counts 272 = .ok (.iload_n 1, 1) := by decide +kernel
theorem dX12_counts_273 : decode cX12_counts 273 = .ok (.bipush 13, 2) := by decide +kernel
theorem dX12_counts_275 : decode cX12_counts 275 = .ok (.iadd, 1) := by decide +kernel
theorem dX12_counts_276 : decode cX12_counts 276 = .ok (.iaload, 1) := by decide +kernel
theorem dX12_counts_277 : decode cX12_counts 277 = .ok (.ireturn, 1) := by decide +kernel
theorem dX12_counts_278 : decode cX12_counts 278 = .ok (.aload_n 0, 1) := by decide +kernel
theorem dX12_counts_279 : decode cX12_counts 279 = .ok (.getfield 7, 3) := by decide +kernel
theorem dX12_counts_282 : decode cX12_counts 282 = .ok (.iload_n 1, 1) := by decide +kernel
theorem dX12_counts_283 : decode cX12_counts 283 = .ok (.bipush 14, 2) := by decide +kernel
theorem dX12_counts_285 : decode cX12_counts 285 = .ok (.iadd, 1) := by decide +kernel
theorem dX12_counts_286 : decode cX12_counts 286 = .ok (.iaload, 1) := by decide +kernel
theorem dX12_counts_287 : decode cX12_counts 287 = .ok (.ireturn, 1) := by decide +kernel
theorem dX12_counts_288 : decode cX12_counts 288 = .ok (.aload_n 0, 1) := by decide +kernel
theorem dX12_counts_289 : decode cX12_counts 289 = .ok (.getfield 7, 3) := by decide +kernel
theorem dX12_counts_292 : decode cX12_counts 292 = .ok (.iload_n 1, 1) := by decide +kernel
theorem dX12_counts_293 : decode cX12_counts 293 = .ok (.bipush 15, 2) := by decide +kernel
theorem dX12_counts_295 : decode cX12_counts 295 = .ok (.iadd, 1) := by decide +kernel
theorem dX12_counts_296 : decode cX12_counts 296 = .ok (.iaload, 1) := by decide +kernel
theorem dX12_counts_297 : decode cX12_counts 297 = .ok (.ireturn, 1) := by decide +kernel
theorem dX12_counts_298 : decode cX12_counts 298 = .ok (.aload_n 0, 1) := by decide +kernel
theorem dX12_counts_299 : decode cX12_counts 299 = .ok (.iload_n 1, 1) := by decide +kernel
theorem dX12_counts_300 : decode cX12_counts 300 = .ok (.iconst 0, 1) := by decide +kernel
theorem dX12_counts_301 : decode cX12_counts 301 = .ok (.invokevirtual 269, 3) := by decide +kernel
theorem dX12_counts_304 : decode cX12_counts 304 = .ok (.ireturn, 1) := by decide +kernel
theorem dX12_counts_305 : decode cX12_counts 305 = .ok (.aload_n 0, 1) := by decide +kernel
theorem dX12_counts_306 : decode cX12_counts 306 = .ok (.iload_n 1, 1) := by decide +kernel
theorem dX12_counts_307 : decode cX12_counts 307 = .ok (.iconst 1, 1) := by decide +kernel
theorem dX12_counts_308 : decode cX12_counts 308 = .ok (.invokevirtual 269, 3) := by decide +kernel
theorem dX12_counts_311 : decode cX12_counts 311 = .ok (.ireturn, 1) := by decide +kernel
theorem dX12_counts_312 : decode cX12_counts 312 = .ok (.aload_n 0, 1) := by decide +kernel
theorem dX12_counts_313 : decode cX12_counts 313 = .ok (.getfield 7, 3) := by decide +kernel
theorem dX12_counts_316 : decode cX12_counts 316 = .ok (.iload_n 1, 1) := by decide +kernel
theorem dX12_counts_317 : decode cX12_counts 317 = .ok (.bipush 16, 2) := by decide +kernel
theorem dX12_counts_319 : decode cX12_counts 319 = .ok (.iadd, 1) := by decide +kernel
theorem dX12_counts_320 : decode cX12_counts 320 = .ok (.iaload, 1) := by decide +kernel
theorem dX12_counts_321 : decode cX12_counts 321 = .ok (.ireturn, 1) := by decide +kernel
theorem dX12_counts_322 : decode cX12_counts 322 = .ok (.aload_n 0, 1) := by decide +kernel
theorem dX12_counts_323 : decode cX12_counts 323 = .ok (.iload_n 1, 1) := by decide +kernel
theorem dX12_counts_324 : decode cX12_counts 324 = .ok (.invokevirtual 273, 3) := by decide +kernel
theorem dX12_counts_327 : decode cX12_counts 327 = .ok (.ireturn, 1) := by decide +kernel
theorem dX12_counts_328 : decode cX12_counts 328 = .ok (.aload_n 0, 1) := by decide +kernel
theorem dX12_counts_329 : decode cX12_counts 329 = .ok (.getfield 7, 3) := by decide +kernel
theorem dX12_counts_332 : decode cX12_counts 332 = .ok (.iload_n 1, 1) := by decide +kernel
theorem dX12_counts_333 : decode cX12_counts 333 = .ok (.bipush 17, 2) := by decide +kernel
theorem dX12_counts_335 : decode cX12_counts 335 = .ok (.iadd, 1) := by decide +kernel
theorem dX12_counts_336 : decode cX12_counts 336 = .ok (.iaload, 1) := by decide +kernel
theorem dX12_counts_337 : decode cX12_counts 337 = .ok (.ireturn, 1) := by decide +kernel
theorem dX12_counts_338 : decode cX12_counts 338 = .ok (.aload_n 0, 1) := by decide +kernel
theorem dX12_counts_339 : decode cX12_counts 339 = .ok (.getfield 7, 3) := by decide +kernel
theorem dX12_counts_342 : decode cX12_counts 342 = .ok (.iload_n 1, 1) := by decide +kernel
theorem dX12_counts_343 : decode cX12_counts 343 = .ok (.bipush 11, 2) := by decide +kernel
theorem dX12_counts_345 : decode cX12_counts 345 = .ok (.iadd, 1) := by decide +kernel
theorem dX12_counts_346 : decode cX12_counts 346 = .ok (.iaload, 1) := by decide +kernel
theorem dX12_counts_347 : decode cX12_counts 347 = .ok (.ireturn, 1) := by decide +kernel
theorem dX12_counts_348 : decode cX12_counts 348 = .ok (.iconst (-1), 1) := by decide +kernel
theorem dX12_counts_349 : decode cX12_counts 349 = .ok (.ireturn, 1) := by decide +kernel
theorem dX12_count_0 : decode cX12_count 0 = .ok (.iload_n 1, 1) := by decide +kernel
theorem dX12_count_1 : decode cX12_count 1 = .ok (.bipush 23, 2) := by decide +kernel
theorem dX12_count_3 : decode cX12_count 3 = .ok (.if_icmp .ne 11, 3) := by decide +kernel
theorem dX12_count_6 : decode cX12_count 6 = .ok (.aload_n 0, 1) := by decide +kernel
theorem dX12_count_7 : decode cX12_count 7 = .ok (.iconst 0, 1) := by decide +kernel
theorem dX12_count_8 : decode cX12_count 8 = .ok (.invokevirtual 276, 3) := by decide +kernel
theorem dX12_count_11 : decode cX12_count 11 = .ok (.goto 36, 3) := by decide +kernel
theorem dX12_count_14 : decode cX12_count 14 = .ok (.iload_n 1, 1) := by decide +kernel
theorem dX12_count_15 : decode cX12_count 15 = .ok (.bipush 24, 2) := by decide +kernel
theorem dX12_count_17 : decode cX12_count 17 = .ok (.if_icmp .ne 11, 3) := by decide +kernel
theorem dX12_count_20 : decode cX12_count 20 = .ok (.aload_n 0, 1) := by decide +kernel
theorem dX12_count_21 : decode cX12_count 21 = .ok (.iconst 1, 1) := by decide +kernel
theorem dX12_count_22 : decode cX12_count 22 = .ok (.invokevirtual 276, 3) := by decide +kernel
theorem dX12_count_25 : decode cX12_count 25 = .ok (.goto 22, 3) := by decide +kernel
theorem dX12_count_28 : decode cX12_count 28 = .ok (.iload_n 1, 1) := by decide +kernel
theorem dX12_count_29 : decode cX12_count 29 = .ok (.bipush 26, 2) := by decide +kernel
theorem dX12_count_31 : decode cX12_count 31 = .ok (.if_icmp .ne 10, 3) := by decide +kernel
theorem dX12_count_34 : decode cX12_count 34 = .ok (.aload_n 0, 1) := by decide +kernel
theorem dX12_count_35 : decode cX12_count 35 = .ok (.getfield 242, 3) := by decide +kernel
theorem dX12_count_38 : decode cX12_count 38 = .ok (.goto 9, 3) := by decide +kernel
theorem dX12_count_41 : decode cX12_count 41 = .ok (.aload_n 0, 1) := by decide +kernel
theorem dX12_count_42 : decode cX12_count 42 = .ok (.iconst 0, 1) := by decide +kernel
theorem dX12_count_43 : decode cX12_count 43 = .ok (.iload_n 1, 1) := by decide +kernel
theorem dX12_count_44 : decode cX12_count 44 = .ok (.invokevirtual 280, 3) := by decide +kernel
theorem dX12_count_47 : decode cX12_count 47 = .ok (.ireturn, 1) := by decide +kernel
theorem dX12_tried_0 : decode cX12_tried 0 = .ok (.iload_n 2, 1) := by decide +kernel
theorem dX12_tried_1 : decode cX12_tried 1 = .ok (.iconst 1, 1) := by decide +kernel
theorem dX12_tried_2 : decode cX12_tried 2 = .ok (.bipush 12, 2) := by decide +kernel
theorem dX12_tried_4 : decode cX12_tried 4 = .ok (.invokestatic 79, 3) := by decide +kernel
theorem dX12_tried_7 : decode cX12_tried 7 = .ok (.ifCond .eq 13, 3) := by decide +kernel
theorem dX12_tried_10 : decode cX12_tried 10 = .ok (.iload_n 3, 1) := by decide +kernel
theorem dX12_tried_11 : decode cX12_tried 11 = .ok (.iconst 0, 1) := by decide +kernel
theorem dX12_tried_12 : decode cX12_tried 12 = .ok (.bipush 25, 2) := by decide +kernel
theorem dX12_tried_14 : decode cX12_tried 14 = .ok (.invokestatic 79, 3) := by decide +kernel
theorem dX12_tried_17 : decode cX12_tried 17 = .ok (.ifCond .ne 5, 3) := by decide +kernel
theorem dX12_tried_20 : decode cX12_tried 20 = .ok (.iconst (-1), 1) := by decide +kernel
theorem dX12_tried_21 : decode cX12_tried 21 = .ok (.ireturn, 1) := by decide +kernel
theorem dX12_tried_22 : decode cX12_tried 22 = .ok (.iload_n 3, 1) := by decide +kernel
theorem dX12_tried_23 : decode cX12_tried 23 = .ok (.bipush 23, 2) := by decide +kernel
theorem dX12_tried_25 : decode cX12_tried 25 = .ok (.if_icmp .eq 37, 3) := by decide +kernel
theorem dX12_tried_28 : decode cX12_tried 28 = .ok (.iload_n 3, 1) := by decide +kernel
theorem dX12_tried_29 : decode cX12_tried 29 = .ok (.bipush 24, 2) := by decide +kernel
theorem dX12_tried_31 : decode cX12_tried 31 = .ok (.if_icmp .eq 31, 3) := by decide +kernel
theorem dX12_tried_34 : decode cX12_tried 34 = .ok (.aload_n 0, 1) := by decide +kernel
theorem dX12_tried_35 : decode cX12_tried 35 = .ok (.iconst 0, 1) := by decide +kernel
theorem dX12_tried_36 : decode cX12_tried 36 = .ok (.sipush 292, 3) := by decide +kernel
theorem dX12_tried_39 : decode cX12_tried 39 = .ok (.invokevirtual 83, 3) := by decide +kernel
theorem dX12_tried_42 : decode cX12_tried 42 = .ok (.aload_n 0, 1) := by decide +kernel
theorem dX12_tried_43 : decode cX12_tried 43 = .ok (.sipush 292, 3) := by decide +kernel
theorem dX12_tried_46 : decode cX12_tried 46 = .ok (.iload_n 1, 1) := by decide +kernel
theorem dX12_tried_47 : decode cX12_tried 47 = .ok (.iload_n 2, 1) := by decide +kernel
theorem dX12_tried_48 : decode cX12_tried 48 = .ok (.invokevirtual 251, 3) := by decide +kernel
theorem dX12_tried_51 : decode cX12_tried 51 = .ok (.istore 4, 2) := by decide +kernel
theorem dX12_tried_53 : decode cX12_tried 53 = .ok (.aload_n 0, 1) := by decide +kernel
theorem dX12_tried_54 : decode cX12_tried 54 = .ok (.sipush 292, 3) := by decide +kernel
theorem dX12_tried_57 : decode cX12_tried 57 = .ok (.iload_n 3, 1) := by decide +kernel
theorem dX12_tried_58 : decode cX12_tried 58 = .ok (.invokevirtual 280, 3) := by decide +kernel
theorem dX12_tried_61 : decode cX12_tried 61 = .ok (.ireturn, 1) := by decide +kernel
theorem dX12_tried_62 : decode cX12_tried 62 = .ok (.aload_n 0, 1) := by decide +kernel
theorem dX12_tried_63 : decode cX12_tried 63 = .ok (.iconst 0, 1) := by decide +kernel
theorem dX12_tried_64 : decode cX12_tried 64 = .ok (.sipush 292, 3) := by decide +kernel
theorem dX12_tried_67 : decode cX12_tried 67 = .ok (.invokevirtual 83, 3) := by decide +kernel
theorem dX12_tried_70 : decode cX12_tried 70 = .ok (.aload_n 0, 1) := by decide +kernel
theorem dX12_tried_71 : decode cX12_tried 71 = .ok (.iconst 0, 1) := by decide +kernel
theorem dX12_tried_72 : decode cX12_tried 72 = .ok (.iload_n 1, 1) := by decide +kernel
theorem dX12_tried_73 : decode cX12_tried 73 = .ok (.iload_n 2, 1) := by decide +kernel
theorem dX12_tried_74 : decode cX12_tried 74 = .ok (.invokevirtual 251, 3) := by decide +kernel
theorem dX12_tried_77 : decode cX12_tried 77 = .ok (.istore 4, 2) := by decide +kernel
theorem dX12_tried_79 : decode cX12_tried 79 = .ok (.aload_n 0, 1) := by decide +kernel
theorem dX12_tried_80 : decode cX12_tried 80 = .ok (.iload_n 3, 1) := by decide +kernel
theorem dX12_tried_81 : decode cX12_tried 81 = .ok (.invokevirtual 283, 3) := by decide +kernel
theorem dX12_tried_84 : decode cX12_tried 84 = .ok (.istore 5, 2) := by decide +kernel
theorem dX12_tried_86 : decode cX12_tried 86 = .ok (.aload_n 0, 1) := by decide +kernel
theorem dX12_tried_87 : decode cX12_tried 87 = .ok (.sipush 292, 3) := by decide +kernel
theorem dX12_tried_90 : decode cX12_tried 90 = .ok (.iconst 0, 1) := by decide +kernel
theorem dX12_tried_91 : decode cX12_tried 91 = .ok (.invokevirtual 83, 3) := by decide +kernel
theorem dX12_tried_94 : decode cX12_tried 94 = .ok (.iload 5, 2) := by decide +kernel
theorem dX12_tried_96 : decode cX12_tried 96 = .ok (.ireturn, 1) := by decide +kernel
theorem dX12_byteAt_0 : decode cX12_byteAt 0 = .ok (.iload_n 1, 1) := by decide +kernel
theorem dX12_byteAt_1 : decode cX12_byteAt 1 = .ok (.aload_n 0, 1) := by decide +kernel
theorem dX12_byteAt_2 : decode cX12_byteAt 2 = .ok (.getfield 285, 3) := by decide +kernel
theorem dX12_byteAt_5 : decode cX12_byteAt 5 = .ok (.if_icmp .ge 12, 3) := by decide +kernel
theorem dX12_byteAt_8 : decode cX12_byteAt 8 = .ok (.aload_n 0, 1) := by decide +kernel
theorem dX12_byteAt_9 : decode cX12_byteAt 9 = .ok (.getfield 13, 3) := by decide +kernel
theorem dX12_byteAt_12 : decode cX12_byteAt 12 = .ok (.iload_n 1, 1) := by decide +kernel
theorem dX12_byteAt_13 : decode cX12_byteAt 13 = .ok (.iaload, 1) := by decide +kernel
theorem dX12_byteAt_14 : decode cX12_byteAt 14 = .ok (.goto 4, 3) := by decide +kernel
theorem dX12_byteAt_17 : decode cX12_byteAt 17 = .ok (.iconst (-1), 1) := by decide +kernel
theorem dX12_byteAt_18 : decode cX12_byteAt 18 = .ok (.ireturn, 1) := by decide +kernel
theorem dX12_isLetter_0 : decode cX12_isLetter 0 = .ok (.iload_n 0, 1) := by decide +kernel
theorem dX12_isLetter_1 : decode cX12_isLetter 1 = .ok (.bipush 97, 2) := by decide +kernel
theorem dX12_isLetter_3 : decode cX12_isLetter 3 = .ok (.if_icmp .lt 13, 3) := by decide +kernel
theorem dX12_isLetter_6 : decode cX12_isLetter 6 = .ok (.iload_n 0, 1) := by decide +kernel
theorem dX12_isLetter_7 : decode cX12_isLetter 7 = .ok (.bipush 122, 2) := by decide +kernel
theorem dX12_isLetter_9 : decode cX12_isLetter 9 = .ok (.if_icmp .gt 7, 3) := by decide +kernel
theorem dX12_isLetter_12 : decode cX12_isLetter 12 = .ok (.iconst 1, 1) := by decide +kernel
theorem dX12_isLetter_13 : decode cX12_isLetter 13 = .ok (.goto 4, 3) := by decide +kernel
theorem dX12_isLetter_16 : decode cX12_isLetter 16 = .ok (.iconst 0, 1) := by decide +kernel
theorem dX12_isLetter_17 : decode cX12_isLetter 17 = .ok (.ireturn, 1) := by decide +kernel
theorem dX12_isDigit_0 : decode cX12_isDigit 0 = .ok (.iload_n 0, 1) := by decide +kernel
theorem dX12_isDigit_1 : decode cX12_isDigit 1 = .ok (.bipush 48, 2) := by decide +kernel
theorem dX12_isDigit_3 : decode cX12_isDigit 3 = .ok (.if_icmp .lt 13, 3) := by decide +kernel
theorem dX12_isDigit_6 : decode cX12_isDigit 6 = .ok (.iload_n 0, 1) := by decide +kernel
theorem dX12_isDigit_7 : decode cX12_isDigit 7 = .ok (.bipush 57, 2) := by decide +kernel
theorem dX12_isDigit_9 : decode cX12_isDigit 9 = .ok (.if_icmp .gt 7, 3) := by decide +kernel
theorem dX12_isDigit_12 : decode cX12_isDigit 12 = .ok (.iconst 1, 1) := by decide +kernel
theorem dX12_isDigit_13 : decode cX12_isDigit 13 = .ok (.goto 4, 3) := by decide +kernel
theorem dX12_isDigit_16 : decode cX12_isDigit 16 = .ok (.iconst 0, 1) := by decide +kernel
theorem dX12_isDigit_17 : decode cX12_isDigit 17 = .ok (.ireturn, 1) := by decide +kernel
theorem dX12_takes_0 : decode cX12_takes 0 = .ok (.aload_n 0, 1) := by decide +kernel
theorem dX12_takes_1 : decode cX12_takes 1 = .ok (.aload_n 0, 1) := by decide +kernel
theorem dX12_takes_2 : decode cX12_takes 2 = .ok (.getfield 288, 3) := by decide +kernel
theorem dX12_takes_5 : decode cX12_takes 5 = .ok (.invokevirtual 291, 3) := by decide +kernel
theorem dX12_takes_8 : decode cX12_takes 8 = .ok (.bipush 32, 2) := by decide +kernel
theorem dX12_takes_10 : decode cX12_takes 10 = .ok (.if_icmp .eq 16, 3) := by decide +kernel
theorem dX12_takes_13 : decode cX12_takes 13 = .ok (.aload_n 0, 1) := by decide +kernel
theorem dX12_takes_14 : decode cX12_takes 14 = .ok (.aload_n 0, 1) := by decide +kernel
theorem dX12_takes_15 : decode cX12_takes 15 = .ok (.getfield 288, 3) := by decide +kernel
theorem dX12_takes_18 : decode cX12_takes 18 = .ok (.invokevirtual 291, 3) := by decide +kernel
theorem dX12_takes_21 : decode cX12_takes 21 = .ok (.bipush 10, 2) := by decide +kernel
theorem dX12_takes_23 : decode cX12_takes 23 = .ok (.if_icmp .ne 16, 3) := by decide +kernel
theorem dX12_takes_26 : decode cX12_takes 26 = .ok (.aload_n 0, 1) := by decide +kernel
theorem dX12_takes_27 : decode cX12_takes 27 = .ok (.dup, 1) := by decide +kernel
theorem dX12_takes_28 : decode cX12_takes 28 = .ok (.getfield 288, 3) := by decide +kernel
theorem dX12_takes_31 : decode cX12_takes 31 = .ok (.iconst 1, 1) := by decide +kernel
theorem dX12_takes_32 : decode cX12_takes 32 = .ok (.iadd, 1) := by decide +kernel
theorem dX12_takes_33 : decode cX12_takes 33 = .ok (.putfield 288, 3) := by decide +kernel
theorem dX12_takes_36 : decode cX12_takes 36 = .ok (.goto (-36), 3) := by decide +kernel
theorem dX12_takes_39 : decode cX12_takes 39 = .ok (.aload_n 0, 1) := by decide +kernel
theorem dX12_takes_40 : decode cX12_takes 40 = .ok (.aload_n 0, 1) := by decide +kernel
theorem dX12_takes_41 : decode cX12_takes 41 = .ok (.getfield 288, 3) := by decide +kernel
theorem dX12_takes_44 : decode cX12_takes 44 = .ok (.putfield 294, 3) := by decide +kernel
theorem dX12_takes_47 : decode cX12_takes 47 = .ok (.aload_n 0, 1) := by decide +kernel
theorem dX12_takes_48 : decode cX12_takes 48 = .ok (.aload_n 0, 1) := by decide +kernel
theorem dX12_takes_49 : decode cX12_takes 49 = .ok (.getfield 288, 3) := by decide +kernel
theorem dX12_takes_52 : decode cX12_takes 52 = .ok (.invokevirtual 291, 3) := by decide +kernel
theorem dX12_takes_55 : decode cX12_takes 55 = .ok (.istore_n 1, 1) := by decide +kernel
theorem dX12_takes_56 : decode cX12_takes 56 = .ok (.aload_n 0, 1) := by decide +kernel
theorem dX12_takes_57 : decode cX12_takes 57 = .ok (.lconst 0, 1) := by decide +kernel
theorem dX12_takes_58 : decode cX12_takes 58 = .ok (.putfield 297, 3) := by decide +kernel
theorem dX12_takes_61 : decode cX12_takes 61 = .ok (.iload_n 1, 1) := by decide +kernel
theorem dX12_takes_62 : decode cX12_takes 62 = .ok (.ifCond .ge 11, 3) := by decide +kernel
theorem dX12_takes_65 : decode cX12_takes 65 = .ok (.aload_n 0, 1) := by decide +kernel
theorem dX12_takes_66 : decode cX12_takes 66 = .ok (.iconst 0, 1) := by decide +kernel
theorem dX12_takes_67 : decode cX12_takes 67 = .ok (.putfield 301, 3) := by decide +kernel
theorem dX12_takes_70 : decode cX12_takes 70 = .ok (.goto 221, 3) := by decide +kernel
theorem dX12_takes_73 : decode cX12_takes 73 = .ok (.iload_n 1, 1) := by decide +kernel
theorem dX12_takes_74 : decode cX12_takes 74 = .ok (.invokestatic 304, 3) := by decide +kernel
theorem dX12_takes_77 : decode cX12_takes 77 = .ok (.ifCond .eq 84, 3) := by decide +kernel
theorem dX12_takes_80 : decode cX12_takes 80 = .ok (.aload_n 0, 1) := by decide +kernel
theorem dX12_takes_81 : decode cX12_takes 81 = .ok (.iconst 1, 1) := by decide +kernel
theorem dX12_takes_82 : decode cX12_takes 82 = .ok (.putfield 301, 3) := by decide +kernel
theorem dX12_takes_85 : decode cX12_takes 85 = .ok (.aload_n 0, 1) := by decide +kernel
theorem dX12_takes_86 : decode cX12_takes 86 = .ok (.aload_n 0, 1) := by decide +kernel
theorem dX12_takes_87 : decode cX12_takes 87 = .ok (.getfield 288, 3) := by decide +kernel
theorem dX12_takes_90 : decode cX12_takes 90 = .ok (.invokevirtual 291, 3) := by decide +kernel
theorem dX12_takes_93 : decode cX12_takes 93 = .ok (.invokestatic 304, 3) := by decide +kernel
theorem dX12_takes_96 : decode cX12_takes 96 = .ok (.ifCond .eq 195, 3) := by decide +kernel
theorem dX12_takes_99 : decode cX12_takes 99 = .ok (.aload_n 0, 1) := by decide +kernel
theorem dX12_takes_100 : decode cX12_takes 100 = .ok (.aload_n 0, 1) := by decide +kernel
theorem dX12_takes_101 : decode cX12_takes 101 = .ok (.getfield 288, 3) := by decide +kernel
theorem dX12_takes_104 : decode cX12_takes 104 = .ok (.aload_n 0, 1) := by decide +kernel
theorem dX12_takes_105 : decode cX12_takes 105 = .ok (.getfield 294, 3) := by decide +kernel
theorem dX12_takes_108 : decode cX12_takes 108 = .ok (.isub, 1) := by decide +kernel
theorem dX12_takes_109 : decode cX12_takes 109 = .ok (.bipush 9, 2) := by decide +kernel
theorem dX12_takes_111 : decode cX12_takes 111 = .ok (.if_icmp .ge 30, 3) := by decide +kernel
theorem dX12_takes_114 : decode cX12_takes 114 = .ok (.ldc2_w 307, 3) := by decide +kernel
theorem dX12_takes_117 : decode cX12_takes 117 = .ok (.aload_n 0, 1) := by decide +kernel
theorem dX12_takes_118 : decode cX12_takes 118 = .ok (.getfield 297, 3) := by decide +kernel
theorem dX12_takes_121 : decode cX12_takes 121 = .ok (.lmul, 1) := by decide +kernel
theorem dX12_takes_122 : decode cX12_takes 122 = .ok (.aload_n 0, 1) := by decide +kernel
theorem dX12_takes_123 : decode cX12_takes 123 = .ok (.aload_n 0, 1) := by decide +kernel
theorem dX12_takes_124 : decode cX12_takes 124 = .ok (.getfield 288, 3) := by decide +kernel
theorem dX12_takes_127 : decode cX12_takes 127 = .ok (.invokevirtual 291, 3) := by decide +kernel
theorem dX12_takes_130 : decode cX12_takes 130 = .ok (.i2l, 1) := by decide +kernel
theorem dX12_takes_131 : decode cX12_takes 131 = .ok (.ladd, 1) := by decide +kernel
theorem dX12_takes_132 : decode cX12_takes 132 = .ok (.ldc2_w 309, 3) := by decide +kernel
theorem dX12_takes_135 : decode cX12_takes 135 = .ok (.lsub, 1) := by decide +kernel
theorem dX12_takes_136 : decode cX12_takes 136 = .ok (.lconst 1, 1) := by decide +kernel
theorem dX12_takes_137 : decode cX12_takes 137 = .ok (.ladd, 1) := by decide +kernel
theorem dX12_takes_138 : decode cX12_takes 138 = .ok (.goto 7, 3) := by decide +kernel
theorem dX12_takes_141 : decode cX12_takes 141 = .ok (.aload_n 0, 1) := by decide +kernel
theorem dX12_takes_142 : decode cX12_takes 142 = .ok (.getfield 297, 3) := by decide +kernel
theorem dX12_takes_145 : decode cX12_takes 145 = .ok (.putfield 297, 3) := by decide +kernel
theorem dX12_takes_148 : decode cX12_takes 148 = .ok (.aload_n 0, 1) := by decide +kernel
theorem dX12_takes_149 : decode cX12_takes 149 = .ok (.dup, 1) := by decide +kernel
theorem dX12_takes_150 : decode cX12_takes 150 = .ok (.getfield 288, 3) := by decide +kernel
theorem dX12_takes_153 : decode cX12_takes 153 = .ok (.iconst 1, 1) := by decide +kernel
theorem dX12_takes_154 : decode cX12_takes 154 = .ok (.iadd, 1) := by decide +kernel
theorem dX12_takes_155 : decode cX12_takes 155 = .ok (.putfield 288, 3) := by decide +kernel
theorem dX12_takes_158 : decode cX12_takes 158 = .ok (.goto (-73), 3) := by decide +kernel
theorem dX12_takes_161 : decode cX12_takes 161 = .ok (.iload_n 1, 1) := by decide +kernel
theorem dX12_takes_162 : decode cX12_takes 162 = .ok (.invokestatic 311, 3) := by decide +kernel
theorem dX12_takes_165 : decode cX12_takes 165 = .ok (.ifCond .eq 101, 3) := by decide +kernel
theorem dX12_takes_168 : decode cX12_takes 168 = .ok (.aload_n 0, 1) := by decide +kernel
theorem dX12_takes_169 : decode cX12_takes 169 = .ok (.aload_n 0, 1) := by decide +kernel
theorem dX12_takes_170 : decode cX12_takes 170 = .ok (.getfield 288, 3) := by decide +kernel
theorem dX12_takes_173 : decode cX12_takes 173 = .ok (.invokevirtual 291, 3) := by decide +kernel
theorem dX12_takes_176 : decode cX12_takes 176 = .ok (.invokestatic 311, 3) := by decide +kernel
theorem dX12_takes_179 : decode cX12_takes 179 = .ok (.ifCond .eq 62, 3) := by decide +kernel
theorem dX12_takes_182 : decode cX12_takes 182 = .ok (.aload_n 0, 1) := by decide +kernel
theorem dX12_takes_183 : decode cX12_takes 183 = .ok (.aload_n 0, 1) := by decide +kernel
theorem dX12_takes_184 : decode cX12_takes 184 = .ok (.getfield 288, 3) := by decide +kernel
theorem dX12_takes_187 : decode cX12_takes 187 = .ok (.aload_n 0, 1) := by decide +kernel
theorem dX12_takes_188 : decode cX12_takes 188 = .ok (.getfield 294, 3) := by decide +kernel
theorem dX12_takes_191 : decode cX12_takes 191 = .ok (.isub, 1) := by decide +kernel
theorem dX12_takes_192 : decode cX12_takes 192 = .ok (.iconst 4, 1) := by decide +kernel
theorem dX12_takes_193 : decode cX12_takes 193 = .ok (.if_icmp .ge 28, 3) := by decide +kernel
theorem dX12_takes_196 : decode cX12_takes 196 = .ok (.ldc2_w 314, 3) := by decide +kernel
theorem dX12_takes_199 : decode cX12_takes 199 = .ok (.aload_n 0, 1) := by decide +kernel
theorem dX12_takes_200 : decode cX12_takes 200 = .ok (.getfield 297, 3) := by decide +kernel
theorem dX12_takes_203 : decode cX12_takes 203 = .ok (.lmul, 1) := by decide +kernel
theorem dX12_takes_204 : decode cX12_takes 204 = .ok (.aload_n 0, 1) := by decide +kernel
theorem dX12_takes_205 : decode cX12_takes 205 = .ok (.aload_n 0, 1) := by decide +kernel
theorem dX12_takes_206 : decode cX12_takes 206 = .ok (.getfield 288, 3) := by decide +kernel
theorem dX12_takes_209 : decode cX12_takes 209 = .ok (.invokevirtual 291, 3) := by decide +kernel
theorem dX12_takes_212 : decode cX12_takes 212 = .ok (.i2l, 1) := by decide +kernel
theorem dX12_takes_213 : decode cX12_takes 213 = .ok (.ladd, 1) := by decide +kernel
theorem dX12_takes_214 : decode cX12_takes 214 = .ok (.ldc2_w 316, 3) := by decide +kernel
theorem dX12_takes_217 : decode cX12_takes 217 = .ok (.lsub, 1) := by decide +kernel
theorem dX12_takes_218 : decode cX12_takes 218 = .ok (.goto 7, 3) := by decide +kernel
theorem dX12_takes_221 : decode cX12_takes 221 = .ok (.aload_n 0, 1) := by decide +kernel
theorem dX12_takes_222 : decode cX12_takes 222 = .ok (.getfield 297, 3) := by decide +kernel
theorem dX12_takes_225 : decode cX12_takes 225 = .ok (.putfield 297, 3) := by decide +kernel
theorem dX12_takes_228 : decode cX12_takes 228 = .ok (.aload_n 0, 1) := by decide +kernel
theorem dX12_takes_229 : decode cX12_takes 229 = .ok (.dup, 1) := by decide +kernel
theorem dX12_takes_230 : decode cX12_takes 230 = .ok (.getfield 288, 3) := by decide +kernel
theorem dX12_takes_233 : decode cX12_takes 233 = .ok (.iconst 1, 1) := by decide +kernel
theorem dX12_takes_234 : decode cX12_takes 234 = .ok (.iadd, 1) := by decide +kernel
theorem dX12_takes_235 : decode cX12_takes 235 = .ok (.putfield 288, 3) := by decide +kernel
theorem dX12_takes_238 : decode cX12_takes 238 = .ok (.goto (-70), 3) := by decide +kernel
theorem dX12_takes_241 : decode cX12_takes 241 = .ok (.aload_n 0, 1) := by decide +kernel
theorem dX12_takes_242 : decode cX12_takes 242 = .ok (.aload_n 0, 1) := by decide +kernel
theorem dX12_takes_243 : decode cX12_takes 243 = .ok (.getfield 288, 3) := by decide +kernel
theorem dX12_takes_246 : decode cX12_takes 246 = .ok (.aload_n 0, 1) := by decide +kernel
theorem dX12_takes_247 : decode cX12_takes 247 = .ok (.getfield 294, 3) := by decide +kernel
theorem dX12_takes_250 : decode cX12_takes 250 = .ok (.isub, 1) := by decide +kernel
theorem dX12_takes_251 : decode cX12_takes 251 = .ok (.iconst 4, 1) := by decide +kernel
theorem dX12_takes_252 : decode cX12_takes 252 = .ok (.if_icmp .le 7, 3) := by decide +kernel
theorem dX12_takes_255 : decode cX12_takes 255 = .ok (.iconst 4, 1) := by decide +kernel
theorem dX12_takes_256 : decode cX12_takes 256 = .ok (.goto 4, 3) := by decide +kernel
theorem dX12_takes_259 : decode cX12_takes 259 = .ok (.iconst 2, 1) := by decide +kernel
theorem dX12_takes_260 : decode cX12_takes 260 = .ok (.putfield 301, 3) := by decide +kernel
theorem dX12_takes_263 : decode cX12_takes 263 = .ok (.goto 28, 3) := by decide +kernel
theorem dX12_takes_266 : decode cX12_takes 266 = .ok (.aload_n 0, 1) := by decide +kernel
theorem dX12_takes_267 : decode cX12_takes 267 = .ok (.dup, 1) := by decide +kernel
theorem dX12_takes_268 : decode cX12_takes 268 = .ok (.getfield 288, 3) := by decide +kernel
theorem dX12_takes_271 : decode cX12_takes 271 = .ok (.iconst 1, 1) := by decide +kernel
theorem dX12_takes_272 : decode cX12_takes 272 = .ok (.iadd, 1) := by decide +kernel
theorem dX12_takes_273 : decode cX12_takes 273 = .ok (.putfield 288, 3) := by decide +kernel
theorem dX12_takes_276 : decode cX12_takes 276 = .ok (.aload_n 0, 1) := by decide +kernel
theorem dX12_takes_277 : decode cX12_takes 277 = .ok (.iload_n 1, 1) := by decide +kernel
theorem dX12_takes_278 : decode cX12_takes 278 = .ok (.bipush 59, 2) := by decide +kernel
theorem dX12_takes_280 : decode cX12_takes 280 = .ok (.if_icmp .ne 7, 3) := by decide +kernel
theorem dX12_takes_283 : decode cX12_takes 283 = .ok (.iconst 3, 1) := by decide +kernel
theorem dX12_takes_284 : decode cX12_takes 284 = .ok (.goto 4, 3) := by decide +kernel
theorem dX12_takes_287 : decode cX12_takes 287 = .ok (.iconst 4, 1) := by decide +kernel
theorem dX12_takes_288 : decode cX12_takes 288 = .ok (.putfield 301, 3) := by decide +kernel
theorem dX12_takes_291 : decode cX12_takes 291 = .ok (.return_, 1) := by decide +kernel
theorem dX12_fails_0 : decode cX12_fails 0 = .ok (.aload_n 0, 1) := by decide +kernel
theorem dX12_fails_1 : decode cX12_fails 1 = .ok (.getfield 245, 3) := by decide +kernel
theorem dX12_fails_4 : decode cX12_fails 4 = .ok (.ifCond .le 4, 3) := by decide +kernel
theorem dX12_fails_7 : decode cX12_fails 7 = .ok (.return_, 1) := by decide +kernel
theorem dX12_fails_8 : decode cX12_fails 8 = .ok (.aload_n 0, 1) := by decide +kernel
theorem dX12_fails_9 : decode cX12_fails 9 = .ok (.iconst 1, 1) := by decide +kernel
theorem dX12_fails_10 : decode cX12_fails 10 = .ok (.putfield 245, 3) := by decide +kernel
theorem dX12_fails_13 : decode cX12_fails 13 = .ok (.aload_n 0, 1) := by decide +kernel
theorem dX12_fails_14 : decode cX12_fails 14 = .ok (.aload_n 0, 1) := by decide +kernel
theorem dX12_fails_15 : decode cX12_fails 15 = .ok (.getfield 294, 3) := by decide +kernel
theorem dX12_fails_18 : decode cX12_fails 18 = .ok (.putfield 20, 3) := by decide +kernel
theorem dX12_fails_21 : decode cX12_fails 21 = .ok (.return_, 1) := by decide +kernel
theorem dX12_isGood_0 : decode cX12_isGood 0 = .ok (.aload_n 0, 1) := by decide +kernel
theorem dX12_isGood_1 : decode cX12_isGood 1 = .ok (.getfield 245, 3) := by decide +kernel
theorem dX12_isGood_4 : decode cX12_isGood 4 = .ok (.ifCond .ne 7, 3) := by decide +kernel
theorem dX12_isGood_7 : decode cX12_isGood 7 = .ok (.iconst 1, 1) := by decide +kernel
theorem dX12_isGood_8 : decode cX12_isGood 8 = .ok (.goto 4, 3) := by decide +kernel
theorem dX12_isGood_11 : decode cX12_isGood 11 = .ok (.iconst 0, 1) := by decide +kernel
theorem dX12_isGood_12 : decode cX12_isGood 12 = .ok (.ireturn, 1) := by decide +kernel
theorem dX12_alsoWrong_0 : decode cX12_alsoWrong 0 = .ok (.aload_n 0, 1) := by decide +kernel
theorem dX12_alsoWrong_1 : decode cX12_alsoWrong 1 = .ok (.getfield 318, 3) := by decide +kernel
theorem dX12_alsoWrong_4 : decode cX12_alsoWrong 4 = .ok (.ifCond .le 4, 3) := by decide +kernel
theorem dX12_alsoWrong_7 : decode cX12_alsoWrong 7 = .ok (.return_, 1) := by decide +kernel
theorem dX12_alsoWrong_8 : decode cX12_alsoWrong 8 = .ok (.aload_n 0, 1) := by decide +kernel
theorem dX12_alsoWrong_9 : decode cX12_alsoWrong 9 = .ok (.iload_n 1, 1) := by decide +kernel
theorem dX12_alsoWrong_10 : decode cX12_alsoWrong 10 = .ok (.putfield 318, 3) := by decide +kernel
theorem dX12_alsoWrong_13 : decode cX12_alsoWrong 13 = .ok (.aload_n 0, 1) := by decide +kernel
theorem dX12_alsoWrong_14 : decode cX12_alsoWrong 14 = .ok (.iload_n 2, 1) := by decide +kernel
theorem dX12_alsoWrong_15 : decode cX12_alsoWrong 15 = .ok (.putfield 321, 3) := by decide +kernel
theorem dX12_alsoWrong_18 : decode cX12_alsoWrong 18 = .ok (.return_, 1) := by decide +kernel
theorem dX12_hasWord_0 : decode cX12_hasWord 0 = .ok (.aload_n 0, 1) := by decide +kernel
theorem dX12_hasWord_1 : decode cX12_hasWord 1 = .ok (.invokevirtual 324, 3) := by decide +kernel
theorem dX12_hasWord_4 : decode cX12_hasWord 4 = .ok (.ifCond .eq 24, 3) := by decide +kernel
theorem dX12_hasWord_7 : decode cX12_hasWord 7 = .ok (.aload_n 0, 1) := by decide +kernel
theorem dX12_hasWord_8 : decode cX12_hasWord 8 = .ok (.getfield 301, 3) := by decide +kernel
theorem dX12_hasWord_11 : decode cX12_hasWord 11 = .ok (.iconst 1, 1) := by decide +kernel
theorem dX12_hasWord_12 : decode cX12_hasWord 12 = .ok (.if_icmp .ne 16, 3) := by decide +kernel
theorem dX12_hasWord_15 : decode cX12_hasWord 15 = .ok (.aload_n 0, 1) := by decide +kernel
theorem dX12_hasWord_16 : decode cX12_hasWord 16 = .ok (.getfield 297, 3) := by decide +kernel
theorem dX12_hasWord_19 : decode cX12_hasWord 19 = .ok (.lload_n 1, 1) := by decide +kernel
theorem dX12_hasWord_20 : decode cX12_hasWord 20 = .ok (.lcmp, 1) := by decide +kernel
theorem dX12_hasWord_21 : decode cX12_hasWord 21 = .ok (.ifCond .ne 7, 3) := by decide +kernel
theorem dX12_hasWord_24 : decode cX12_hasWord 24 = .ok (.iconst 1, 1) := by decide +kernel
theorem dX12_hasWord_25 : decode cX12_hasWord 25 = .ok (.goto 4, 3) := by decide +kernel
theorem dX12_hasWord_28 : decode cX12_hasWord 28 = .ok (.iconst 0, 1) := by decide +kernel
theorem dX12_hasWord_29 : decode cX12_hasWord 29 = .ok (.istore_n 3, 1) := by decide +kernel
theorem dX12_hasWord_30 : decode cX12_hasWord 30 = .ok (.iload_n 3, 1) := by decide +kernel
theorem dX12_hasWord_31 : decode cX12_hasWord 31 = .ok (.ifCond .eq 7, 3) := by decide +kernel
theorem dX12_hasWord_34 : decode cX12_hasWord 34 = .ok (.aload_n 0, 1) := by decide +kernel
theorem dX12_hasWord_35 : decode cX12_hasWord 35 = .ok (.invokevirtual 328, 3) := by decide +kernel
theorem dX12_hasWord_38 : decode cX12_hasWord 38 = .ok (.iload_n 3, 1) := by decide +kernel
theorem dX12_hasWord_39 : decode cX12_hasWord 39 = .ok (.ireturn, 1) := by decide +kernel
theorem dX12_numeral_0 : decode cX12_numeral 0 = .ok (.aload_n 0, 1) := by decide +kernel
theorem dX12_numeral_1 : decode cX12_numeral 1 = .ok (.invokevirtual 324, 3) := by decide +kernel
theorem dX12_numeral_4 : decode cX12_numeral 4 = .ok (.ifCond .eq 15, 3) := by decide +kernel
theorem dX12_numeral_7 : decode cX12_numeral 7 = .ok (.aload_n 0, 1) := by decide +kernel
theorem dX12_numeral_8 : decode cX12_numeral 8 = .ok (.getfield 301, 3) := by decide +kernel
theorem dX12_numeral_11 : decode cX12_numeral 11 = .ok (.iconst 2, 1) := by decide +kernel
theorem dX12_numeral_12 : decode cX12_numeral 12 = .ok (.if_icmp .eq 7, 3) := by decide +kernel
theorem dX12_numeral_15 : decode cX12_numeral 15 = .ok (.aload_n 0, 1) := by decide +kernel
theorem dX12_numeral_16 : decode cX12_numeral 16 = .ok (.invokevirtual 331, 3) := by decide +kernel
theorem dX12_numeral_19 : decode cX12_numeral 19 = .ok (.aload_n 0, 1) := by decide +kernel
theorem dX12_numeral_20 : decode cX12_numeral 20 = .ok (.invokevirtual 324, 3) := by decide +kernel
theorem dX12_numeral_23 : decode cX12_numeral 23 = .ok (.ifCond .ne 5, 3) := by decide +kernel
theorem dX12_numeral_26 : decode cX12_numeral 26 = .ok (.iload_n 1, 1) := by decide +kernel
theorem dX12_numeral_27 : decode cX12_numeral 27 = .ok (.ireturn, 1) := by decide +kernel
theorem dX12_numeral_28 : decode cX12_numeral 28 = .ok (.aload_n 0, 1) := by decide +kernel
theorem dX12_numeral_29 : decode cX12_numeral 29 = .ok (.getfield 297, 3) := by decide +kernel
theorem dX12_numeral_32 : decode cX12_numeral 32 = .ok (.iload_n 1, 1) := by decide +kernel
theorem dX12_numeral_33 : decode cX12_numeral 33 = .ok (.i2l, 1) := by decide +kernel
theorem dX12_numeral_34 : decode cX12_numeral 34 = .ok (.lcmp, 1) := by decide +kernel
theorem dX12_numeral_35 : decode cX12_numeral 35 = .ok (.ifCond .lt 17, 3) := by decide +kernel
theorem dX12_numeral_38 : decode cX12_numeral 38 = .ok (.aload_n 0, 1) := by decide +kernel
theorem dX12_numeral_39 : decode cX12_numeral 39 = .ok (.getfield 297, 3) := by decide +kernel
theorem dX12_numeral_42 : decode cX12_numeral 42 = .ok (.iload_n 2, 1) := by decide +kernel
theorem dX12_numeral_43 : decode cX12_numeral 43 = .ok (.i2l, 1) := by decide +kernel
theorem dX12_numeral_44 : decode cX12_numeral 44 = .ok (.lcmp, 1) := by decide +kernel
theorem dX12_numeral_45 : decode cX12_numeral 45 = .ok (.ifCond .gt 7, 3) := by decide +kernel
theorem dX12_numeral_48 : decode cX12_numeral 48 = .ok (.iconst 1, 1) := by decide +kernel
theorem dX12_numeral_49 : decode cX12_numeral 49 = .ok (.goto 4, 3) := by decide +kernel
theorem dX12_numeral_52 : decode cX12_numeral 52 = .ok (.iconst 0, 1) := by decide +kernel
theorem dX12_numeral_53 : decode cX12_numeral 53 = .ok (.istore_n 3, 1) := by decide +kernel
theorem dX12_numeral_54 : decode cX12_numeral 54 = .ok (.iload_n 3, 1) := by decide +kernel
theorem dX12_numeral_55 : decode cX12_numeral 55 = .ok (.ifCond .eq 11, 3) := by decide +kernel
theorem dX12_numeral_58 : decode cX12_numeral 58 = .ok (.aload_n 0, 1) := by decide +kernel
theorem dX12_numeral_59 : decode cX12_numeral 59 = .ok (.getfield 297, 3) := by decide +kernel
theorem dX12_numeral_62 : decode cX12_numeral 62 = .ok (.l2i, 1) := by decide +kernel
theorem dX12_numeral_63 : decode cX12_numeral 63 = .ok (.goto 4, 3) := by decide +kernel
theorem dX12_numeral_66 : decode cX12_numeral 66 = .ok (.iload_n 1, 1) := by decide +kernel
theorem dX12_numeral_67 : decode cX12_numeral 67 = .ok (.istore 4, 2) := by decide +kernel
theorem dX12_numeral_69 : decode cX12_numeral 69 = .ok (.iload_n 3, 1) := by decide +kernel
theorem dX12_numeral_70 : decode cX12_numeral 70 = .ok (.ifCond .ne 12, 3) := by decide +kernel
theorem dX12_numeral_73 : decode cX12_numeral 73 = .ok (.aload_n 0, 1) := by decide +kernel
theorem dX12_numeral_74 : decode cX12_numeral 74 = .ok (.iconst 2, 1) := by decide +kernel
theorem dX12_numeral_75 : decode cX12_numeral 75 = .ok (.aload_n 0, 1) := by decide +kernel
theorem dX12_numeral_76 : decode cX12_numeral 76 = .ok (.getfield 294, 3) := by decide +kernel
theorem dX12_numeral_79 : decode cX12_numeral 79 = .ok (.invokevirtual 334, 3) := by decide +kernel
theorem dX12_numeral_82 : decode cX12_numeral 82 = .ok (.aload_n 0, 1) := by decide +kernel
theorem dX12_numeral_83 : decode cX12_numeral 83 = .ok (.invokevirtual 328, 3) := by decide +kernel
theorem dX12_numeral_86 : decode cX12_numeral 86 = .ok (.iload 4, 2) := by decide +kernel
theorem dX12_numeral_88 : decode cX12_numeral 88 = .ok (.ireturn, 1) := by decide +kernel
theorem dX12_setsNumber_0 : decode cX12_setsNumber 0 = .ok (.aload_n 0, 1) := by decide +kernel
theorem dX12_setsNumber_1 : decode cX12_setsNumber 1 = .ok (.lload_n 1, 1) := by decide +kernel
theorem dX12_setsNumber_2 : decode cX12_setsNumber 2 = .ok (.invokevirtual 337, 3) := by decide +kernel
theorem dX12_setsNumber_5 : decode cX12_setsNumber 5 = .ok (.ifCond .ne 5, 3) := by decide +kernel
theorem dX12_setsNumber_8 : decode cX12_setsNumber 8 = .ok (.iconst 0, 1) := by decide +kernel
theorem dX12_setsNumber_9 : decode cX12_setsNumber 9 = .ok (.ireturn, 1) := by decide +kernel
theorem dX12_setsNumber_10 : decode cX12_setsNumber 10 = .ok (.aload_n 0, 1) := by decide +kernel
theorem dX12_setsNumber_11 : decode cX12_setsNumber 11 = .ok (.getfield 63, 3) := by decide +kernel
theorem dX12_setsNumber_14 : decode cX12_setsNumber 14 = .ok (.iload_n 3, 1) := by decide +kernel
theorem dX12_setsNumber_15 : decode cX12_setsNumber 15 = .ok (.aload_n 0, 1) := by decide +kernel
theorem dX12_setsNumber_16 : decode cX12_setsNumber 16 = .ok (.iload 4, 2) := by decide +kernel
theorem dX12_setsNumber_18 : decode cX12_setsNumber 18 = .ok (.iload 5, 2) := by decide +kernel
theorem dX12_setsNumber_20 : decode cX12_setsNumber 20 = .ok (.invokevirtual 341, 3) := by decide +kernel
theorem dX12_setsNumber_23 : decode cX12_setsNumber 23 = .ok (.iastore, 1) := by decide +kernel
theorem dX12_setsNumber_24 : decode cX12_setsNumber 24 = .ok (.iconst 1, 1) := by decide +kernel
theorem dX12_setsNumber_25 : decode cX12_setsNumber 25 = .ok (.ireturn, 1) := by decide +kernel
theorem dX12_readsHash_0 : decode cX12_readsHash 0 = .ok (.aload_n 0, 1) := by decide +kernel
theorem dX12_readsHash_1 : decode cX12_readsHash 1 = .ok (.getfield 63, 3) := by decide +kernel
theorem dX12_readsHash_4 : decode cX12_readsHash 4 = .ok (.bipush 7, 2) := by decide +kernel
theorem dX12_readsHash_6 : decode cX12_readsHash 6 = .ok (.iconst 2, 1) := by decide +kernel
theorem dX12_readsHash_7 : decode cX12_readsHash 7 = .ok (.iload_n 1, 1) := by decide +kernel
theorem dX12_readsHash_8 : decode cX12_readsHash 8 = .ok (.imul, 1) := by decide +kernel
theorem dX12_readsHash_9 : decode cX12_readsHash 9 = .ok (.iadd, 1) := by decide +kernel
theorem dX12_readsHash_10 : decode cX12_readsHash 10 = .ok (.aload_n 0, 1) := by decide +kernel
theorem dX12_readsHash_11 : decode cX12_readsHash 11 = .ok (.iconst 1, 1) := by decide +kernel
theorem dX12_readsHash_12 : decode cX12_readsHash 12 = .ok (.sipush 1008, 3) := by decide +kernel
theorem dX12_readsHash_15 : decode cX12_readsHash 15 = .ok (.invokevirtual 341, 3) := by decide +kernel
theorem dX12_readsHash_18 : decode cX12_readsHash 18 = .ok (.iastore, 1) := by decide +kernel
theorem dX12_readsHash_19 : decode cX12_readsHash 19 = .ok (.aload_n 0, 1) := by decide +kernel
theorem dX12_readsHash_20 : decode cX12_readsHash 20 = .ok (.getfield 63, 3) := by decide +kernel
theorem dX12_readsHash_23 : decode cX12_readsHash 23 = .ok (.bipush 7, 2) := by decide +kernel
theorem dX12_readsHash_25 : decode cX12_readsHash 25 = .ok (.iconst 2, 1) := by decide +kernel
theorem dX12_readsHash_26 : decode cX12_readsHash 26 = .ok (.iload_n 1, 1) := by decide +kernel
theorem dX12_readsHash_27 : decode cX12_readsHash 27 = .ok (.imul, 1) := by decide +kernel
theorem dX12_readsHash_28 : decode cX12_readsHash 28 = .ok (.iadd, 1) := by decide +kernel
theorem dX12_readsHash_29 : decode cX12_readsHash 29 = .ok (.iconst 1, 1) := by decide +kernel
theorem dX12_readsHash_30 : decode cX12_readsHash 30 = .ok (.iadd, 1) := by decide +kernel
theorem dX12_readsHash_31 : decode cX12_readsHash 31 = .ok (.aload_n 0, 1) := by decide +kernel
theorem dX12_readsHash_32 : decode cX12_readsHash 32 = .ok (.iconst 0, 1) := by decide +kernel
theorem dX12_readsHash_33 : decode cX12_readsHash 33 = .ok (.sipush 1008, 3) := by decide +kernel
theorem dX12_readsHash_36 : decode cX12_readsHash 36 = .ok (.invokevirtual 341, 3) := by decide +kernel
theorem dX12_readsHash_39 : decode cX12_readsHash 39 = .ok (.iastore, 1) := by decide +kernel
theorem dX12_readsHash_40 : decode cX12_readsHash 40 = .ok (.return_, 1) := by decide +kernel
theorem dX12_kickTaken_0 : decode cX12_kickTaken 0 = .ok (.aload_n 0, 1) := by decide +kernel
theorem dX12_kickTaken_1 : decode cX12_kickTaken 1 = .ok (.ldc2_w 344, 3) := by decide +kernel
theorem dX12_kickTaken_4 : decode cX12_kickTaken 4 = .ok (.invokevirtual 337, 3) := by decide +kernel
theorem dX12_kickTaken_7 : decode cX12_kickTaken 7 = .ok (.ifCond .eq 5, 3) := by decide +kernel
theorem dX12_kickTaken_10 : decode cX12_kickTaken 10 = .ok (.iconst 0, 1) := by decide +kernel
theorem dX12_kickTaken_11 : decode cX12_kickTaken 11 = .ok (.ireturn, 1) := by decide +kernel
theorem dX12_kickTaken_12 : decode cX12_kickTaken 12 = .ok (.aload_n 0, 1) := by decide +kernel
theorem dX12_kickTaken_13 : decode cX12_kickTaken 13 = .ok (.ldc2_w 346, 3) := by decide +kernel
theorem dX12_kickTaken_16 : decode cX12_kickTaken 16 = .ok (.invokevirtual 337, 3) := by decide +kernel
theorem dX12_kickTaken_19 : decode cX12_kickTaken 19 = .ok (.ifCond .eq 5, 3) := by decide +kernel
theorem dX12_kickTaken_22 : decode cX12_kickTaken 22 = .ok (.iconst 1, 1) := by decide +kernel
theorem dX12_kickTaken_23 : decode cX12_kickTaken 23 = .ok (.ireturn, 1) := by decide +kernel
theorem dX12_kickTaken_24 : decode cX12_kickTaken 24 = .ok (.aload_n 0, 1) := by decide +kernel
theorem dX12_kickTaken_25 : decode cX12_kickTaken 25 = .ok (.ldc2_w 348, 3) := by decide +kernel
theorem dX12_kickTaken_28 : decode cX12_kickTaken 28 = .ok (.invokevirtual 337, 3) := by decide +kernel
theorem dX12_kickTaken_31 : decode cX12_kickTaken 31 = .ok (.ifCond .ne 7, 3) := by decide +kernel
theorem dX12_kickTaken_34 : decode cX12_kickTaken 34 = .ok (.aload_n 0, 1) := by decide +kernel
theorem dX12_kickTaken_35 : decode cX12_kickTaken 35 = .ok (.invokevirtual 331, 3) := by decide +kernel
theorem dX12_kickTaken_38 : decode cX12_kickTaken 38 = .ok (.iconst 2, 1) := by decide +kernel
theorem dX12_kickTaken_39 : decode cX12_kickTaken 39 = .ok (.ireturn, 1) := by decide +kernel
theorem dX12_fullTaken_0 : decode cX12_fullTaken 0 = .ok (.aload_n 0, 1) := by decide +kernel
theorem dX12_fullTaken_1 : decode cX12_fullTaken 1 = .ok (.ldc2_w 350, 3) := by decide +kernel
theorem dX12_fullTaken_4 : decode cX12_fullTaken 4 = .ok (.invokevirtual 337, 3) := by decide +kernel
theorem dX12_fullTaken_7 : decode cX12_fullTaken 7 = .ok (.ifCond .eq 5, 3) := by decide +kernel
theorem dX12_fullTaken_10 : decode cX12_fullTaken 10 = .ok (.iconst 0, 1) := by decide +kernel
theorem dX12_fullTaken_11 : decode cX12_fullTaken 11 = .ok (.ireturn, 1) := by decide +kernel
theorem dX12_fullTaken_12 : decode cX12_fullTaken 12 = .ok (.aload_n 0, 1) := by decide +kernel
theorem dX12_fullTaken_13 : decode cX12_fullTaken 13 = .ok (.ldc2_w 352, 3) := by decide +kernel
theorem dX12_fullTaken_16 : decode cX12_fullTaken 16 = .ok (.invokevirtual 337, 3) := by decide +kernel
theorem dX12_fullTaken_19 : decode cX12_fullTaken 19 = .ok (.ifCond .eq 5, 3) := by decide +kernel
theorem dX12_fullTaken_22 : decode cX12_fullTaken 22 = .ok (.iconst 1, 1) := by decide +kernel
theorem dX12_fullTaken_23 : decode cX12_fullTaken 23 = .ok (.ireturn, 1) := by decide +kernel
theorem dX12_fullTaken_24 : decode cX12_fullTaken 24 = .ok (.aload_n 0, 1) := by decide +kernel
theorem dX12_fullTaken_25 : decode cX12_fullTaken 25 = .ok (.ldc2_w 354, 3) := by decide +kernel
theorem dX12_fullTaken_28 : decode cX12_fullTaken 28 = .ok (.invokevirtual 337, 3) := by decide +kernel
theorem dX12_fullTaken_31 : decode cX12_fullTaken 31 = .ok (.ifCond .eq 5, 3) := by decide +kernel
theorem dX12_fullTaken_34 : decode cX12_fullTaken 34 = .ok (.iconst 2, 1) := by decide +kernel
theorem dX12_fullTaken_35 : decode cX12_fullTaken 35 = .ok (.ireturn, 1) := by decide +kernel
theorem dX12_fullTaken_36 : decode cX12_fullTaken 36 = .ok (.aload_n 0, 1) := by decide +kernel
theorem dX12_fullTaken_37 : decode cX12_fullTaken 37 = .ok (.ldc2_w 356, 3) := by decide +kernel
theorem dX12_fullTaken_40 : decode cX12_fullTaken 40 = .ok (.invokevirtual 337, 3) := by decide +kernel
theorem dX12_fullTaken_43 : decode cX12_fullTaken 43 = .ok (.ifCond .ne 7, 3) := by decide +kernel
theorem dX12_fullTaken_46 : decode cX12_fullTaken 46 = .ok (.aload_n 0, 1) := by decide +kernel
theorem dX12_fullTaken_47 : decode cX12_fullTaken 47 = .ok (.invokevirtual 331, 3) := by decide +kernel
theorem dX12_fullTaken_50 : decode cX12_fullTaken 50 = .ok (.iconst 3, 1) := by decide +kernel
theorem dX12_fullTaken_51 : decode cX12_fullTaken 51 = .ok (.ireturn, 1) := by decide +kernel
theorem dX12_readsHas_0 : decode cX12_readsHas 0 = .ok (.aload_n 0, 1) := by decide +kernel
theorem dX12_readsHas_1 : decode cX12_readsHas 1 = .ok (.getfield 294, 3) := by decide +kernel
theorem dX12_readsHas_4 : decode cX12_readsHas 4 = .ok (.istore_n 1, 1) := by decide +kernel
theorem dX12_readsHas_5 : decode cX12_readsHas 5 = .ok (.aload_n 0, 1) := by decide +kernel
theorem dX12_readsHas_6 : decode cX12_readsHas 6 = .ok (.invokevirtual 324, 3) := by decide +kernel
theorem dX12_readsHas_9 : decode cX12_readsHas 9 = .ok (.ifCond .eq 15, 3) := by decide +kernel
theorem dX12_readsHas_12 : decode cX12_readsHas 12 = .ok (.aload_n 0, 1) := by decide +kernel
theorem dX12_readsHas_13 : decode cX12_readsHas 13 = .ok (.getfield 301, 3) := by decide +kernel
theorem dX12_readsHas_16 : decode cX12_readsHas 16 = .ok (.iconst 2, 1) := by decide +kernel
theorem dX12_readsHas_17 : decode cX12_readsHas 17 = .ok (.if_icmp .ne 7, 3) := by decide +kernel
theorem dX12_readsHas_20 : decode cX12_readsHas 20 = .ok (.iconst 1, 1) := by decide +kernel
theorem dX12_readsHas_21 : decode cX12_readsHas 21 = .ok (.goto 4, 3) := by decide +kernel
theorem dX12_readsHas_24 : decode cX12_readsHas 24 = .ok (.iconst 0, 1) := by decide +kernel
theorem dX12_readsHas_25 : decode cX12_readsHas 25 = .ok (.istore_n 2, 1) := by decide +kernel
theorem dX12_readsHas_26 : decode cX12_readsHas 26 = .ok (.iconst 0, 1) := by decide +kernel
theorem dX12_readsHas_27 : decode cX12_readsHas 27 = .ok (.istore_n 3, 1) := by decide +kernel
theorem dX12_readsHas_28 : decode cX12_readsHas 28 = .ok (.iload_n 3, 1) := by decide +kernel
theorem dX12_readsHas_29 : decode cX12_readsHas 29 = .ok (.aload_n 0, 1) := by decide +kernel
theorem dX12_readsHas_30 : decode cX12_readsHas 30 = .ok (.getfield 358, 3) := by decide +kernel
theorem dX12_readsHas_33 : decode cX12_readsHas 33 = .ok (.if_icmp .ge 49, 3) := by decide +kernel
theorem dX12_readsHas_36 : decode cX12_readsHas 36 = .ok (.iload_n 2, 1) := by decide +kernel
theorem dX12_readsHas_37 : decode cX12_readsHas 37 = .ok (.ifCond .eq 45, 3) := by decide +kernel
theorem dX12_readsHas_40 : decode cX12_readsHas 40 = .ok (.aload_n 0, 1) := by decide +kernel
theorem dX12_readsHas_41 : decode cX12_readsHas 41 = .ok (.getfield 66, 3) := by decide +kernel
theorem dX12_readsHas_44 : decode cX12_readsHas 44 = .ok (.iload_n 3, 1) := by decide +kernel
theorem dX12_readsHas_45 : decode cX12_readsHas 45 = .ok (.iaload, 1) := by decide +kernel
theorem dX12_readsHas_46 : decode cX12_readsHas 46 = .ok (.i2l, 1) := by decide +kernel
theorem dX12_readsHas_47 : decode cX12_readsHas 47 = .ok (.aload_n 0, 1) := by decide +kernel
theorem dX12_readsHas_48 : decode cX12_readsHas 48 = .ok (.getfield 297, 3) := by decide +kernel
theorem dX12_readsHas_51 : decode cX12_readsHas 51 = .ok (.lcmp, 1) := by decide +kernel
theorem dX12_readsHas_52 : decode cX12_readsHas 52 = .ok (.ifCond .ne 24, 3) := by decide +kernel
theorem dX12_readsHas_55 : decode cX12_readsHas 55 = .ok (.aload_n 0, 1) := by decide +kernel
theorem dX12_readsHas_56 : decode cX12_readsHas 56 = .ok (.aload_n 0, 1) := by decide +kernel
theorem dX12_readsHas_57 : decode cX12_readsHas 57 = .ok (.getfield 297, 3) := by decide +kernel
theorem dX12_readsHas_60 : decode cX12_readsHas 60 = .ok (.ldc2_w 361, 3) := by decide +kernel
theorem dX12_readsHas_63 : decode cX12_readsHas 63 = .ok (.lcmp, 1) := by decide +kernel
theorem dX12_readsHas_64 : decode cX12_readsHas 64 = .ok (.ifCond .le 7, 3) := by decide +kernel
theorem dX12_readsHas_67 : decode cX12_readsHas 67 = .ok (.iconst 2, 1) := by decide +kernel
theorem dX12_readsHas_68 : decode cX12_readsHas 68 = .ok (.goto 4, 3) := by decide +kernel
theorem dX12_readsHas_71 : decode cX12_readsHas 71 = .ok (.iconst 3, 1) := by decide +kernel
theorem dX12_readsHas_72 : decode cX12_readsHas 72 = .ok (.iload_n 1, 1) := by decide +kernel
theorem dX12_readsHas_73 : decode cX12_readsHas 73 = .ok (.invokevirtual 334, 3) := by decide +kernel
theorem dX12_readsHas_76 : decode cX12_readsHas 76 = .ok (.iinc 3 1, 3) := by decide +kernel
theorem dX12_readsHas_79 : decode cX12_readsHas 79 = .ok (.goto (-51), 3) := by decide +kernel
theorem dX12_readsHas_82 : decode cX12_readsHas 82 = .ok (.iload_n 2, 1) := by decide +kernel
theorem dX12_readsHas_83 : decode cX12_readsHas 83 = .ok (.ifCond .eq 11, 3) := by decide +kernel
theorem dX12_readsHas_86 : decode cX12_readsHas 86 = .ok (.aload_n 0, 1) := by decide +kernel
theorem dX12_readsHas_87 : decode cX12_readsHas 87 = .ok (.getfield 297, 3) := by decide +kernel
theorem dX12_readsHas_90 : decode cX12_readsHas 90 = .ok (.l2i, 1) := by decide +kernel
theorem dX12_readsHas_91 : decode cX12_readsHas 91 = .ok (.goto 4, 3) := by decide +kernel
theorem dX12_readsHas_94 : decode cX12_readsHas 94 = .ok (.iconst 0, 1) := by decide +kernel
theorem dX12_readsHas_95 : decode cX12_readsHas 95 = .ok (.istore_n 3, 1) := by decide +kernel
theorem dX12_readsHas_96 : decode cX12_readsHas 96 = .ok (.aload_n 0, 1) := by decide +kernel
theorem dX12_readsHas_97 : decode cX12_readsHas 97 = .ok (.iconst 0, 1) := by decide +kernel
theorem dX12_readsHas_98 : decode cX12_readsHas 98 = .ok (.sipush 999, 3) := by decide +kernel
theorem dX12_readsHas_101 : decode cX12_readsHas 101 = .ok (.invokevirtual 341, 3) := by decide +kernel
theorem dX12_readsHas_104 : decode cX12_readsHas 104 = .ok (.istore 4, 2) := by decide +kernel
theorem dX12_readsHas_106 : decode cX12_readsHas 106 = .ok (.aload_n 0, 1) := by decide +kernel
theorem dX12_readsHas_107 : decode cX12_readsHas 107 = .ok (.iconst 0, 1) := by decide +kernel
theorem dX12_readsHas_108 : decode cX12_readsHas 108 = .ok (.sipush 999, 3) := by decide +kernel
theorem dX12_readsHas_111 : decode cX12_readsHas 111 = .ok (.invokevirtual 341, 3) := by decide +kernel
theorem dX12_readsHas_114 : decode cX12_readsHas 114 = .ok (.istore 5, 2) := by decide +kernel
theorem dX12_readsHas_116 : decode cX12_readsHas 116 = .ok (.aload_n 0, 1) := by decide +kernel
theorem dX12_readsHas_117 : decode cX12_readsHas 117 = .ok (.invokevirtual 324, 3) := by decide +kernel
theorem dX12_readsHas_120 : decode cX12_readsHas 120 = .ok (.ifCond .ne 4, 3) := by decide +kernel
theorem dX12_readsHas_123 : decode cX12_readsHas 123 = .ok (.return_, 1) := by decide +kernel
theorem dX12_readsHas_124 : decode cX12_readsHas 124 = .ok (.aload_n 0, 1) := by decide +kernel
theorem dX12_readsHas_125 : decode cX12_readsHas 125 = .ok (.getfield 66, 3) := by decide +kernel
theorem dX12_readsHas_128 : decode cX12_readsHas 128 = .ok (.aload_n 0, 1) := by decide +kernel
theorem dX12_readsHas_129 : decode cX12_readsHas 129 = .ok (.getfield 358, 3) := by decide +kernel
theorem dX12_readsHas_132 : decode cX12_readsHas 132 = .ok (.iload_n 3, 1) := by decide +kernel
theorem dX12_readsHas_133 : decode cX12_readsHas 133 = .ok (.iastore, 1) := by decide +kernel
theorem dX12_readsHas_134 : decode cX12_readsHas 134 = .ok (.aload_n 0, 1) := by decide +kernel
theorem dX12_readsHas_135 : decode cX12_readsHas 135 = .ok (.getfield 69, 3) := by decide +kernel
theorem dX12_readsHas_138 : decode cX12_readsHas 138 = .ok (.aload_n 0, 1) := by decide +kernel
theorem dX12_readsHas_139 : decode cX12_readsHas 139 = .ok (.getfield 358, 3) := by decide +kernel
theorem dX12_readsHas_142 : decode cX12_readsHas 142 = .ok (.iload 5, 2) := by decide +kernel
theorem dX12_readsHas_144 : decode cX12_readsHas 144 = .ok (.iastore, 1) := by decide +kernel
theorem dX12_readsHas_145 : decode cX12_readsHas 145 = .ok (.aload_n 0, 1) := by decide +kernel
theorem dX12_readsHas_146 : decode cX12_readsHas 146 = .ok (.getfield 72, 3) := by decide +kernel
theorem dX12_readsHas_149 : decode cX12_readsHas 149 = .ok (.aload_n 0, 1) := by decide +kernel
theorem dX12_readsHas_150 : decode cX12_readsHas 150 = .ok (.getfield 358, 3) := by decide +kernel
theorem dX12_readsHas_153 : decode cX12_readsHas 153 = .ok (.iload_n 1, 1) := by decide +kernel
theorem dX12_readsHas_154 : decode cX12_readsHas 154 = .ok (.iastore, 1) := by decide +kernel
theorem dX12_readsHas_155 : decode cX12_readsHas 155 = .ok (.aload_n 0, 1) := by decide +kernel
theorem dX12_readsHas_156 : decode cX12_readsHas 156 = .ok (.dup, 1) := by decide +kernel
theorem dX12_readsHas_157 : decode cX12_readsHas 157 = .ok (.getfield 358, 3) := by decide +kernel
theorem dX12_readsHas_160 : decode cX12_readsHas 160 = .ok (.iconst 1, 1) := by decide +kernel
theorem dX12_readsHas_161 : decode cX12_readsHas 161 = .ok (.iadd, 1) := by decide +kernel
theorem dX12_readsHas_162 : decode cX12_readsHas 162 = .ok (.putfield 358, 3) := by decide +kernel
theorem dX12_readsHas_165 : decode cX12_readsHas 165 = .ok (.return_, 1) := by decide +kernel
theorem dX12_readsLine_0 : decode cX12_readsLine 0 = .ok (.aload_n 0, 1) := by decide +kernel
theorem dX12_readsLine_1 : decode cX12_readsLine 1 = .ok (.ldc2_w 363, 3) := by decide +kernel
theorem dX12_readsLine_4 : decode cX12_readsLine 4 = .ok (.iconst 0, 1) := by decide +kernel
theorem dX12_readsLine_5 : decode cX12_readsLine 5 = .ok (.iconst 1, 1) := by decide +kernel
theorem dX12_readsLine_6 : decode cX12_readsLine 6 = .ok (.bipush 16, 2) := by decide +kernel
theorem dX12_readsLine_8 : decode cX12_readsLine 8 = .ok (.invokevirtual 365, 3) := by decide +kernel
theorem dX12_readsLine_11 : decode cX12_readsLine 11 = .ok (.ifCond .ne 72, 3) := by decide +kernel
theorem dX12_readsLine_14 : decode cX12_readsLine 14 = .ok (.aload_n 0, 1) := by decide +kernel
theorem dX12_readsLine_15 : decode cX12_readsLine 15 = .ok (.ldc2_w 369, 3) := by decide +kernel
theorem dX12_readsLine_18 : decode cX12_readsLine 18 = .ok (.iconst 1, 1) := by decide +kernel
theorem dX12_readsLine_19 : decode cX12_readsLine 19 = .ok (.iconst 1, 1) := by decide +kernel
theorem dX12_readsLine_20 : decode cX12_readsLine 20 = .ok (.iconst 4, 1) := by decide +kernel
theorem dX12_readsLine_21 : decode cX12_readsLine 21 = .ok (.invokevirtual 365, 3) := by decide +kernel
theorem dX12_readsLine_24 : decode cX12_readsLine 24 = .ok (.ifCond .ne 59, 3) := by decide +kernel
theorem dX12_readsLine_27 : decode cX12_readsLine 27 = .ok (.aload_n 0, 1) := by decide +kernel
theorem dX12_readsLine_28 : decode cX12_readsLine 28 = .ok (.ldc2_w 371, 3) := by decide +kernel
theorem dX12_readsLine_31 : decode cX12_readsLine 31 = .ok (.iconst 2, 1) := by decide +kernel
theorem dX12_readsLine_32 : decode cX12_readsLine 32 = .ok (.iconst 0, 1) := by decide +kernel
theorem dX12_readsLine_33 : decode cX12_readsLine 33 = .ok (.iconst 4, 1) := by decide +kernel
theorem dX12_readsLine_34 : decode cX12_readsLine 34 = .ok (.invokevirtual 365, 3) := by decide +kernel
theorem dX12_readsLine_37 : decode cX12_readsLine 37 = .ok (.ifCond .ne 46, 3) := by decide +kernel
theorem dX12_readsLine_40 : decode cX12_readsLine 40 = .ok (.aload_n 0, 1) := by decide +kernel
theorem dX12_readsLine_41 : decode cX12_readsLine 41 = .ok (.ldc2_w 373, 3) := by decide +kernel
theorem dX12_readsLine_44 : decode cX12_readsLine 44 = .ok (.iconst 3, 1) := by decide +kernel
theorem dX12_readsLine_45 : decode cX12_readsLine 45 = .ok (.iconst 0, 1) := by decide +kernel
theorem dX12_readsLine_46 : decode cX12_readsLine 46 = .ok (.bipush 16, 2) := by decide +kernel
theorem dX12_readsLine_48 : decode cX12_readsLine 48 = .ok (.invokevirtual 365, 3) := by decide +kernel
theorem dX12_readsLine_51 : decode cX12_readsLine 51 = .ok (.ifCond .ne 32, 3) := by decide +kernel
theorem dX12_readsLine_54 : decode cX12_readsLine 54 = .ok (.aload_n 0, 1) := by decide +kernel
theorem dX12_readsLine_55 : decode cX12_readsLine 55 = .ok (.ldc2_w 375, 3) := by decide +kernel
theorem dX12_readsLine_58 : decode cX12_readsLine 58 = .ok (.iconst 4, 1) := by decide +kernel
theorem dX12_readsLine_59 : decode cX12_readsLine 59 = .ok (.iconst 0, 1) := by decide +kernel
theorem dX12_readsLine_60 : decode cX12_readsLine 60 = .ok (.iconst 4, 1) := by decide +kernel
theorem dX12_readsLine_61 : decode cX12_readsLine 61 = .ok (.invokevirtual 365, 3) := by decide +kernel
theorem dX12_readsLine_64 : decode cX12_readsLine 64 = .ok (.ifCond .ne 19, 3) := by decide +kernel
theorem dX12_readsLine_67 : decode cX12_readsLine 67 = .ok (.aload_n 0, 1) := by decide +kernel
theorem dX12_readsLine_68 : decode cX12_readsLine 68 = .ok (.ldc2_w 377, 3) := by decide +kernel
theorem dX12_readsLine_71 : decode cX12_readsLine 71 = .ok (.bipush 11, 2) := by decide +kernel
theorem dX12_readsLine_73 : decode cX12_readsLine 73 = .ok (.iconst 0, 1) := by decide +kernel
theorem dX12_readsLine_74 : decode cX12_readsLine 74 = .ok (.sipush 9999, 3) := by decide +kernel
theorem dX12_readsLine_77 : decode cX12_readsLine 77 = .ok (.invokevirtual 365, 3) := by decide +kernel
theorem dX12_readsLine_80 : decode cX12_readsLine 80 = .ok (.ifCond .eq 7, 3) := by decide +kernel
theorem dX12_readsLine_83 : decode cX12_readsLine 83 = .ok (.iconst 1, 1) := by decide +kernel
theorem dX12_readsLine_84 : decode cX12_readsLine 84 = .ok (.goto 4, 3) := by decide +kernel
theorem dX12_readsLine_87 : decode cX12_readsLine 87 = .ok (.iconst 0, 1) := by decide +kernel
theorem dX12_readsLine_88 : decode cX12_readsLine 88 = .ok (.istore_n 1, 1) := by decide +kernel
theorem dX12_readsLine_89 : decode cX12_readsLine 89 = .ok (.iload_n 1, 1) := by decide +kernel
theorem dX12_readsLine_90 : decode cX12_readsLine 90 = .ok (.ifCond .eq 8, 3) := by decide +kernel
theorem dX12_readsLine_93 : decode cX12_readsLine 93 = .ok (.iconst 1, 1) := by decide +kernel
theorem dX12_readsLine_94 : decode cX12_readsLine 94 = .ok (.istore_n 1, 1) := by decide +kernel
theorem dX12_readsLine_95 : decode cX12_readsLine 95 = .ok (.goto 107, 3) := by decide +kernel
theorem dX12_readsLine_98 : decode cX12_readsLine 98 = .ok (.aload_n 0, 1) := by decide +kernel
theorem dX12_readsLine_99 : decode cX12_readsLine 99 = .ok (.ldc2_w 379, 3) := by decide +kernel
theorem dX12_readsLine_102 : decode cX12_readsLine 102 = .ok (.invokevirtual 337, 3) := by decide +kernel
theorem dX12_readsLine_105 : decode cX12_readsLine 105 = .ok (.ifCond .eq 16, 3) := by decide +kernel
theorem dX12_readsLine_108 : decode cX12_readsLine 108 = .ok (.aload_n 0, 1) := by decide +kernel
theorem dX12_readsLine_109 : decode cX12_readsLine 109 = .ok (.getfield 63, 3) := by decide +kernel
theorem dX12_readsLine_112 : decode cX12_readsLine 112 = .ok (.iconst 5, 1) := by decide +kernel
theorem dX12_readsLine_113 : decode cX12_readsLine 113 = .ok (.aload_n 0, 1) := by decide +kernel
theorem dX12_readsLine_114 : decode cX12_readsLine 114 = .ok (.invokevirtual 381, 3) := by decide +kernel
theorem dX12_readsLine_117 : decode cX12_readsLine 117 = .ok (.iastore, 1) := by decide +kernel
theorem dX12_readsLine_118 : decode cX12_readsLine 118 = .ok (.goto 84, 3) := by decide +kernel
theorem dX12_readsLine_121 : decode cX12_readsLine 121 = .ok (.aload_n 0, 1) := by decide +kernel
theorem dX12_readsLine_122 : decode cX12_readsLine 122 = .ok (.ldc2_w 385, 3) := by decide +kernel
theorem dX12_readsLine_125 : decode cX12_readsLine 125 = .ok (.invokevirtual 337, 3) := by decide +kernel
theorem dX12_readsLine_128 : decode cX12_readsLine 128 = .ok (.ifCond .eq 17, 3) := by decide +kernel
theorem dX12_readsLine_131 : decode cX12_readsLine 131 = .ok (.aload_n 0, 1) := by decide +kernel
theorem dX12_readsLine_132 : decode cX12_readsLine 132 = .ok (.getfield 63, 3) := by decide +kernel
theorem dX12_readsLine_135 : decode cX12_readsLine 135 = .ok (.bipush 6, 2) := by decide +kernel
theorem dX12_readsLine_137 : decode cX12_readsLine 137 = .ok (.aload_n 0, 1) := by decide +kernel
theorem dX12_readsLine_138 : decode cX12_readsLine 138 = .ok (.invokevirtual 387, 3) := by decide +kernel
theorem dX12_readsLine_141 : decode cX12_readsLine 141 = .ok (.iastore, 1) := by decide +kernel
theorem dX12_readsLine_142 : decode cX12_readsLine 142 = .ok (.goto 60, 3) := by decide +kernel
theorem dX12_readsLine_145 : decode cX12_readsLine 145 = .ok (.aload_n 0, 1) := by decide +kernel
theorem dX12_readsLine_146 : decode cX12_readsLine 146 = .ok (.ldc2_w 390, 3) := by decide +kernel
theorem dX12_readsLine_149 : decode cX12_readsLine 149 = .ok (.invokevirtual 337, 3) := by decide +kernel
theorem dX12_readsLine_152 : decode cX12_readsLine 152 = .ok (.ifCond .eq 11, 3) := by decide +kernel
theorem dX12_readsLine_155 : decode cX12_readsLine 155 = .ok (.aload_n 0, 1) := by decide +kernel
theorem dX12_readsLine_156 : decode cX12_readsLine 156 = .ok (.iconst 0, 1) := by decide +kernel
theorem dX12_readsLine_157 : decode cX12_readsLine 157 = .ok (.invokevirtual 392, 3) := by decide +kernel
theorem dX12_readsLine_160 : decode cX12_readsLine 160 = .ok (.goto 42, 3) := by decide +kernel
theorem dX12_readsLine_163 : decode cX12_readsLine 163 = .ok (.aload_n 0, 1) := by decide +kernel
theorem dX12_readsLine_164 : decode cX12_readsLine 164 = .ok (.ldc2_w 395, 3) := by decide +kernel
theorem dX12_readsLine_167 : decode cX12_readsLine 167 = .ok (.invokevirtual 337, 3) := by decide +kernel
theorem dX12_readsLine_170 : decode cX12_readsLine 170 = .ok (.ifCond .eq 11, 3) := by decide +kernel
theorem dX12_readsLine_173 : decode cX12_readsLine 173 = .ok (.aload_n 0, 1) := by decide +kernel
theorem dX12_readsLine_174 : decode cX12_readsLine 174 = .ok (.iconst 1, 1) := by decide +kernel
theorem dX12_readsLine_175 : decode cX12_readsLine 175 = .ok (.invokevirtual 392, 3) := by decide +kernel
theorem dX12_readsLine_178 : decode cX12_readsLine 178 = .ok (.goto 24, 3) := by decide +kernel
theorem dX12_readsLine_181 : decode cX12_readsLine 181 = .ok (.aload_n 0, 1) := by decide +kernel
theorem dX12_readsLine_182 : decode cX12_readsLine 182 = .ok (.ldc2_w 397, 3) := by decide +kernel
theorem dX12_readsLine_185 : decode cX12_readsLine 185 = .ok (.invokevirtual 337, 3) := by decide +kernel
theorem dX12_readsLine_188 : decode cX12_readsLine 188 = .ok (.ifCond .eq 10, 3) := by decide +kernel
theorem dX12_readsLine_191 : decode cX12_readsLine 191 = .ok (.aload_n 0, 1) := by decide +kernel
theorem dX12_readsLine_192 : decode cX12_readsLine 192 = .ok (.invokevirtual 399, 3) := by decide +kernel
theorem dX12_readsLine_195 : decode cX12_readsLine 195 = .ok (.goto 7, 3) := by decide +kernel
theorem dX12_readsLine_198 : decode cX12_readsLine 198 = .ok (.aload_n 0, 1) := by decide +kernel
theorem dX12_readsLine_199 : decode cX12_readsLine 199 = .ok (.invokevirtual 331, 3) := by decide +kernel
theorem dX12_readsLine_202 : decode cX12_readsLine 202 = .ok (.aload_n 0, 1) := by decide +kernel
theorem dX12_readsLine_203 : decode cX12_readsLine 203 = .ok (.invokevirtual 324, 3) := by decide +kernel
theorem dX12_readsLine_206 : decode cX12_readsLine 206 = .ok (.ifCond .ne 4, 3) := by decide +kernel
theorem dX12_readsLine_209 : decode cX12_readsLine 209 = .ok (.return_, 1) := by decide +kernel
theorem dX12_readsLine_210 : decode cX12_readsLine 210 = .ok (.aload_n 0, 1) := by decide +kernel
theorem dX12_readsLine_211 : decode cX12_readsLine 211 = .ok (.getfield 301, 3) := by decide +kernel
theorem dX12_readsLine_214 : decode cX12_readsLine 214 = .ok (.iconst 3, 1) := by decide +kernel
theorem dX12_readsLine_215 : decode cX12_readsLine 215 = .ok (.if_icmp .ne 10, 3) := by decide +kernel
theorem dX12_readsLine_218 : decode cX12_readsLine 218 = .ok (.aload_n 0, 1) := by decide +kernel
theorem dX12_readsLine_219 : decode cX12_readsLine 219 = .ok (.invokevirtual 328, 3) := by decide +kernel
theorem dX12_readsLine_222 : decode cX12_readsLine 222 = .ok (.goto 7, 3) := by decide +kernel
theorem dX12_readsLine_225 : decode cX12_readsLine 225 = .ok (.aload_n 0, 1) := by decide +kernel
theorem dX12_readsLine_226 : decode cX12_readsLine 226 = .ok (.invokevirtual 331, 3) := by decide +kernel
theorem dX12_readsLine_229 : decode cX12_readsLine 229 = .ok (.return_, 1) := by decide +kernel
theorem dX12_text_0 : decode cX12_text 0 = .ok (.aload_n 0, 1) := by decide +kernel
theorem dX12_text_1 : decode cX12_text 1 = .ok (.aload_n 0, 1) := by decide +kernel
theorem dX12_text_2 : decode cX12_text 2 = .ok (.getfield 242, 3) := by decide +kernel
theorem dX12_text_5 : decode cX12_text 5 = .ok (.putfield 285, 3) := by decide +kernel
theorem dX12_text_8 : decode cX12_text 8 = .ok (.aload_n 0, 1) := by decide +kernel
theorem dX12_text_9 : decode cX12_text 9 = .ok (.iconst 0, 1) := by decide +kernel
theorem dX12_text_10 : decode cX12_text 10 = .ok (.putfield 242, 3) := by decide +kernel
theorem dX12_text_13 : decode cX12_text 13 = .ok (.aload_n 0, 1) := by decide +kernel
theorem dX12_text_14 : decode cX12_text 14 = .ok (.iconst 0, 1) := by decide +kernel
theorem dX12_text_15 : decode cX12_text 15 = .ok (.putfield 245, 3) := by decide +kernel
theorem dX12_text_18 : decode cX12_text 18 = .ok (.aload_n 0, 1) := by decide +kernel
theorem dX12_text_19 : decode cX12_text 19 = .ok (.iconst (-1), 1) := by decide +kernel
theorem dX12_text_20 : decode cX12_text 20 = .ok (.putfield 20, 3) := by decide +kernel
theorem dX12_text_23 : decode cX12_text 23 = .ok (.aload_n 0, 1) := by decide +kernel
theorem dX12_text_24 : decode cX12_text 24 = .ok (.iconst 0, 1) := by decide +kernel
theorem dX12_text_25 : decode cX12_text 25 = .ok (.putfield 318, 3) := by decide +kernel
theorem dX12_text_28 : decode cX12_text 28 = .ok (.aload_n 0, 1) := by decide +kernel
theorem dX12_text_29 : decode cX12_text 29 = .ok (.iconst 0, 1) := by decide +kernel
theorem dX12_text_30 : decode cX12_text 30 = .ok (.putfield 358, 3) := by decide +kernel
theorem dX12_text_33 : decode cX12_text 33 = .ok (.aload_n 0, 1) := by decide +kernel
theorem dX12_text_34 : decode cX12_text 34 = .ok (.iconst 0, 1) := by decide +kernel
theorem dX12_text_35 : decode cX12_text 35 = .ok (.putfield 288, 3) := by decide +kernel
theorem dX12_text_38 : decode cX12_text 38 = .ok (.aload_n 0, 1) := by decide +kernel
theorem dX12_text_39 : decode cX12_text 39 = .ok (.sipush 292, 3) := by decide +kernel
theorem dX12_text_42 : decode cX12_text 42 = .ok (.invokevirtual 75, 3) := by decide +kernel
theorem dX12_text_45 : decode cX12_text 45 = .ok (.iconst 0, 1) := by decide +kernel
theorem dX12_text_46 : decode cX12_text 46 = .ok (.istore_n 1, 1) := by decide +kernel
theorem dX12_text_47 : decode cX12_text 47 = .ok (.iload_n 1, 1) := by decide +kernel
theorem dX12_text_48 : decode cX12_text 48 = .ok (.bipush 12, 2) := by decide +kernel
theorem dX12_text_50 : decode cX12_text 50 = .ok (.if_icmp .ge 25, 3) := by decide +kernel
theorem dX12_text_53 : decode cX12_text 53 = .ok (.aload_n 0, 1) := by decide +kernel
theorem dX12_text_54 : decode cX12_text 54 = .ok (.getfield 63, 3) := by decide +kernel
theorem dX12_text_57 : decode cX12_text 57 = .ok (.iload_n 1, 1) := by decide +kernel
theorem dX12_text_58 : decode cX12_text 58 = .ok (.aload_n 0, 1) := by decide +kernel
theorem dX12_text_59 : decode cX12_text 59 = .ok (.getfield 7, 3) := by decide +kernel
theorem dX12_text_62 : decode cX12_text 62 = .ok (.sipush 292, 3) := by decide +kernel
theorem dX12_text_65 : decode cX12_text 65 = .ok (.iload_n 1, 1) := by decide +kernel
theorem dX12_text_66 : decode cX12_text 66 = .ok (.iadd, 1) := by decide +kernel
theorem dX12_text_67 : decode cX12_text 67 = .ok (.iaload, 1) := by decide +kernel
theorem dX12_text_68 : decode cX12_text 68 = .ok (.iastore, 1) := by decide +kernel
theorem dX12_text_69 : decode cX12_text 69 = .ok (.iinc 1 1, 3) := by decide +kernel
theorem dX12_text_72 : decode cX12_text 72 = .ok (.goto (-25), 3) := by decide +kernel
theorem dX12_text_75 : decode cX12_text 75 = .ok (.aload_n 0, 1) := by decide +kernel
theorem dX12_text_76 : decode cX12_text 76 = .ok (.invokevirtual 328, 3) := by decide +kernel
theorem dX12_text_79 : decode cX12_text 79 = .ok (.aload_n 0, 1) := by decide +kernel
theorem dX12_text_80 : decode cX12_text 80 = .ok (.invokevirtual 324, 3) := by decide +kernel
theorem dX12_text_83 : decode cX12_text 83 = .ok (.ifCond .eq 17, 3) := by decide +kernel
theorem dX12_text_86 : decode cX12_text 86 = .ok (.aload_n 0, 1) := by decide +kernel
theorem dX12_text_87 : decode cX12_text 87 = .ok (.getfield 301, 3) := by decide +kernel
theorem dX12_text_90 : decode cX12_text 90 = .ok (.ifCond .eq 10, 3) := by decide +kernel
theorem dX12_text_93 : decode cX12_text 93 = .ok (.aload_n 0, 1) := by decide +kernel
theorem dX12_text_94 : decode cX12_text 94 = .ok (.invokevirtual 402, 3) := by decide +kernel
theorem dX12_text_97 : decode cX12_text 97 = .ok (.goto (-18), 3) := by decide +kernel
theorem dX12_text_100 : decode cX12_text 100 = .ok (.aload_n 0, 1) := by decide +kernel
theorem dX12_text_101 : decode cX12_text 101 = .ok (.invokevirtual 324, 3) := by decide +kernel
theorem dX12_text_104 : decode cX12_text 104 = .ok (.ifCond .ne 5, 3) := by decide +kernel
theorem dX12_text_107 : decode cX12_text 107 = .ok (.iconst (-1), 1) := by decide +kernel
theorem dX12_text_108 : decode cX12_text 108 = .ok (.ireturn, 1) := by decide +kernel
theorem dX12_text_109 : decode cX12_text 109 = .ok (.iconst 0, 1) := by decide +kernel
theorem dX12_text_110 : decode cX12_text 110 = .ok (.istore_n 1, 1) := by decide +kernel
theorem dX12_text_111 : decode cX12_text 111 = .ok (.iload_n 1, 1) := by decide +kernel
theorem dX12_text_112 : decode cX12_text 112 = .ok (.bipush 12, 2) := by decide +kernel
theorem dX12_text_114 : decode cX12_text 114 = .ok (.if_icmp .ge 25, 3) := by decide +kernel
theorem dX12_text_117 : decode cX12_text 117 = .ok (.aload_n 0, 1) := by decide +kernel
theorem dX12_text_118 : decode cX12_text 118 = .ok (.getfield 7, 3) := by decide +kernel
theorem dX12_text_121 : decode cX12_text 121 = .ok (.sipush 292, 3) := by decide +kernel
theorem dX12_text_124 : decode cX12_text 124 = .ok (.iload_n 1, 1) := by decide +kernel
theorem dX12_text_125 : decode cX12_text 125 = .ok (.iadd, 1) := by decide +kernel
theorem dX12_text_126 : decode cX12_text 126 = .ok (.aload_n 0, 1) := by decide +kernel
theorem dX12_text_127 : decode cX12_text 127 = .ok (.getfield 63, 3) := by decide +kernel
theorem dX12_text_130 : decode cX12_text 130 = .ok (.iload_n 1, 1) := by decide +kernel
theorem dX12_text_131 : decode cX12_text 131 = .ok (.iaload, 1) := by decide +kernel
theorem dX12_text_132 : decode cX12_text 132 = .ok (.iastore, 1) := by decide +kernel
theorem dX12_text_133 : decode cX12_text 133 = .ok (.iinc 1 1, 3) := by decide +kernel
theorem dX12_text_136 : decode cX12_text 136 = .ok (.goto (-25), 3) := by decide +kernel
theorem dX12_text_139 : decode cX12_text 139 = .ok (.iconst 0, 1) := by decide +kernel
theorem dX12_text_140 : decode cX12_text 140 = .ok (.istore_n 1, 1) := by decide +kernel
theorem dX12_text_141 : decode cX12_text 141 = .ok (.iload_n 1, 1) := by decide +kernel
theorem dX12_text_142 : decode cX12_text 142 = .ok (.aload_n 0, 1) := by decide +kernel
theorem dX12_text_143 : decode cX12_text 143 = .ok (.getfield 358, 3) := by decide +kernel
theorem dX12_text_146 : decode cX12_text 146 = .ok (.if_icmp .ge 50, 3) := by decide +kernel
theorem dX12_text_149 : decode cX12_text 149 = .ok (.aload_n 0, 1) := by decide +kernel
theorem dX12_text_150 : decode cX12_text 150 = .ok (.getfield 318, 3) := by decide +kernel
theorem dX12_text_153 : decode cX12_text 153 = .ok (.ifCond .ne 43, 3) := by decide +kernel
theorem dX12_text_156 : decode cX12_text 156 = .ok (.aload_n 0, 1) := by decide +kernel
theorem dX12_text_157 : decode cX12_text 157 = .ok (.sipush 292, 3) := by decide +kernel
theorem dX12_text_160 : decode cX12_text 160 = .ok (.aload_n 0, 1) := by decide +kernel
theorem dX12_text_161 : decode cX12_text 161 = .ok (.getfield 66, 3) := by decide +kernel
theorem dX12_text_164 : decode cX12_text 164 = .ok (.iload_n 1, 1) := by decide +kernel
theorem dX12_text_165 : decode cX12_text 165 = .ok (.iaload, 1) := by decide +kernel
theorem dX12_text_166 : decode cX12_text 166 = .ok (.aload_n 0, 1) := by decide +kernel
theorem dX12_text_167 : decode cX12_text 167 = .ok (.getfield 69, 3) := by decide +kernel
theorem dX12_text_170 : decode cX12_text 170 = .ok (.iload_n 1, 1) := by decide +kernel
theorem dX12_text_171 : decode cX12_text 171 = .ok (.iaload, 1) := by decide +kernel
theorem dX12_text_172 : decode cX12_text 172 = .ok (.invokevirtual 188, 3) := by decide +kernel
theorem dX12_text_175 : decode cX12_text 175 = .ok (.iconst (-1), 1) := by decide +kernel
theorem dX12_text_176 : decode cX12_text 176 = .ok (.if_icmp .ne 14, 3) := by decide +kernel
theorem dX12_text_179 : decode cX12_text 179 = .ok (.aload_n 0, 1) := by decide +kernel
theorem dX12_text_180 : decode cX12_text 180 = .ok (.iconst 4, 1) := by decide +kernel
theorem dX12_text_181 : decode cX12_text 181 = .ok (.aload_n 0, 1) := by decide +kernel
theorem dX12_text_182 : decode cX12_text 182 = .ok (.getfield 72, 3) := by decide +kernel
theorem dX12_text_185 : decode cX12_text 185 = .ok (.iload_n 1, 1) := by decide +kernel
theorem dX12_text_186 : decode cX12_text 186 = .ok (.iaload, 1) := by decide +kernel
theorem dX12_text_187 : decode cX12_text 187 = .ok (.invokevirtual 334, 3) := by decide +kernel
theorem dX12_text_190 : decode cX12_text 190 = .ok (.iinc 1 1, 3) := by decide +kernel
theorem dX12_text_193 : decode cX12_text 193 = .ok (.goto (-52), 3) := by decide +kernel
theorem dX12_text_196 : decode cX12_text 196 = .ok (.aload_n 0, 1) := by decide +kernel
theorem dX12_text_197 : decode cX12_text 197 = .ok (.aload_n 0, 1) := by decide +kernel
theorem dX12_text_198 : decode cX12_text 198 = .ok (.getfield 318, 3) := by decide +kernel
theorem dX12_text_201 : decode cX12_text 201 = .ok (.putfield 245, 3) := by decide +kernel
theorem dX12_text_204 : decode cX12_text 204 = .ok (.aload_n 0, 1) := by decide +kernel
theorem dX12_text_205 : decode cX12_text 205 = .ok (.aload_n 0, 1) := by decide +kernel
theorem dX12_text_206 : decode cX12_text 206 = .ok (.getfield 318, 3) := by decide +kernel
theorem dX12_text_209 : decode cX12_text 209 = .ok (.ifCond .le 10, 3) := by decide +kernel
theorem dX12_text_212 : decode cX12_text 212 = .ok (.aload_n 0, 1) := by decide +kernel
theorem dX12_text_213 : decode cX12_text 213 = .ok (.getfield 321, 3) := by decide +kernel
theorem dX12_text_216 : decode cX12_text 216 = .ok (.goto 4, 3) := by decide +kernel
theorem dX12_text_219 : decode cX12_text 219 = .ok (.iconst (-1), 1) := by decide +kernel
theorem dX12_text_220 : decode cX12_text 220 = .ok (.putfield 20, 3) := by decide +kernel
theorem dX12_text_223 : decode cX12_text 223 = .ok (.aload_n 0, 1) := by decide +kernel
theorem dX12_text_224 : decode cX12_text 224 = .ok (.getfield 318, 3) := by decide +kernel
theorem dX12_text_227 : decode cX12_text 227 = .ok (.ifCond .le 5, 3) := by decide +kernel
theorem dX12_text_230 : decode cX12_text 230 = .ok (.iconst (-1), 1) := by decide +kernel
theorem dX12_text_231 : decode cX12_text 231 = .ok (.ireturn, 1) := by decide +kernel
theorem dX12_text_232 : decode cX12_text 232 = .ok (.aload_n 0, 1) := by decide +kernel
theorem dX12_text_233 : decode cX12_text 233 = .ok (.sipush 292, 3) := by decide +kernel
theorem dX12_text_236 : decode cX12_text 236 = .ok (.iconst 0, 1) := by decide +kernel
theorem dX12_text_237 : decode cX12_text 237 = .ok (.invokevirtual 83, 3) := by decide +kernel
theorem dX12_text_240 : decode cX12_text 240 = .ok (.aload_n 0, 1) := by decide +kernel
theorem dX12_text_241 : decode cX12_text 241 = .ok (.iconst 0, 1) := by decide +kernel
theorem dX12_text_242 : decode cX12_text 242 = .ok (.invokevirtual 266, 3) := by decide +kernel
theorem dX12_text_245 : decode cX12_text 245 = .ok (.ireturn, 1) := by decide +kernel
theorem dX12_lost_0 : decode cX12_lost 0 = .ok (.iload_n 1, 1) := by decide +kernel
theorem dX12_lost_1 : decode cX12_lost 1 = .ok (.iconst 0, 1) := by decide +kernel
theorem dX12_lost_2 : decode cX12_lost 2 = .ok (.iconst 2, 1) := by decide +kernel
theorem dX12_lost_3 : decode cX12_lost 3 = .ok (.invokestatic 79, 3) := by decide +kernel
theorem dX12_lost_6 : decode cX12_lost 6 = .ok (.ifCond .eq 12, 3) := by decide +kernel
theorem dX12_lost_9 : decode cX12_lost 9 = .ok (.aload_n 0, 1) := by decide +kernel
theorem dX12_lost_10 : decode cX12_lost 10 = .ok (.getfield 16, 3) := by decide +kernel
theorem dX12_lost_13 : decode cX12_lost 13 = .ok (.iload_n 1, 1) := by decide +kernel
theorem dX12_lost_14 : decode cX12_lost 14 = .ok (.baload, 1) := by decide +kernel
theorem dX12_lost_15 : decode cX12_lost 15 = .ok (.ifCond .ne 5, 3) := by decide +kernel
theorem dX12_lost_18 : decode cX12_lost 18 = .ok (.iconst (-1), 1) := by decide +kernel
theorem dX12_lost_19 : decode cX12_lost 19 = .ok (.ireturn, 1) := by decide +kernel
theorem dX12_lost_20 : decode cX12_lost 20 = .ok (.aload_n 0, 1) := by decide +kernel
theorem dX12_lost_21 : decode cX12_lost 21 = .ok (.sipush 1168, 3) := by decide +kernel
theorem dX12_lost_24 : decode cX12_lost 24 = .ok (.sipush 695, 3) := by decide +kernel
theorem dX12_lost_27 : decode cX12_lost 27 = .ok (.iload_n 1, 1) := by decide +kernel
theorem dX12_lost_28 : decode cX12_lost 28 = .ok (.imul, 1) := by decide +kernel
theorem dX12_lost_29 : decode cX12_lost 29 = .ok (.iadd, 1) := by decide +kernel
theorem dX12_lost_30 : decode cX12_lost 30 = .ok (.invokevirtual 152, 3) := by decide +kernel
theorem dX12_lost_33 : decode cX12_lost 33 = .ok (.iconst 0, 1) := by decide +kernel
theorem dX12_lost_34 : decode cX12_lost 34 = .ok (.istore_n 2, 1) := by decide +kernel
theorem dX12_lost_35 : decode cX12_lost 35 = .ok (.iconst 0, 1) := by decide +kernel
theorem dX12_lost_36 : decode cX12_lost 36 = .ok (.istore_n 3, 1) := by decide +kernel
theorem dX12_lost_37 : decode cX12_lost 37 = .ok (.iload_n 3, 1) := by decide +kernel
theorem dX12_lost_38 : decode cX12_lost 38 = .ok (.aload_n 0, 1) := by decide +kernel
theorem dX12_lost_39 : decode cX12_lost 39 = .ok (.getfield 142, 3) := by decide +kernel
theorem dX12_lost_42 : decode cX12_lost 42 = .ok (.if_icmp .ge 61, 3) := by decide +kernel
theorem dX12_lost_45 : decode cX12_lost 45 = .ok (.aload_n 0, 1) := by decide +kernel
theorem dX12_lost_46 : decode cX12_lost 46 = .ok (.iconst 0, 1) := by decide +kernel
theorem dX12_lost_47 : decode cX12_lost 47 = .ok (.aload_n 0, 1) := by decide +kernel
theorem dX12_lost_48 : decode cX12_lost 48 = .ok (.getfield 39, 3) := by decide +kernel
theorem dX12_lost_51 : decode cX12_lost 51 = .ok (.iconst 4, 1) := by decide +kernel
theorem dX12_lost_52 : decode cX12_lost 52 = .ok (.iload_n 3, 1) := by decide +kernel
theorem dX12_lost_53 : decode cX12_lost 53 = .ok (.imul, 1) := by decide +kernel
theorem dX12_lost_54 : decode cX12_lost 54 = .ok (.iaload, 1) := by decide +kernel
theorem dX12_lost_55 : decode cX12_lost 55 = .ok (.iconst 1, 1) := by decide +kernel
theorem dX12_lost_56 : decode cX12_lost 56 = .ok (.isub, 1) := by decide +kernel
theorem dX12_lost_57 : decode cX12_lost 57 = .ok (.invokevirtual 166, 3) := by decide +kernel
theorem dX12_lost_60 : decode cX12_lost 60 = .ok (.istore 4, 2) := by decide +kernel
theorem dX12_lost_62 : decode cX12_lost 62 = .ok (.iload_n 2, 1) := by decide +kernel
theorem dX12_lost_63 : decode cX12_lost 63 = .ok (.iload 4, 2) := by decide +kernel
theorem dX12_lost_65 : decode cX12_lost 65 = .ok (.ifCond .lt 25, 3) := by decide +kernel
theorem dX12_lost_68 : decode cX12_lost 68 = .ok (.aload_n 0, 1) := by decide +kernel
theorem dX12_lost_69 : decode cX12_lost 69 = .ok (.getfield 7, 3) := by decide +kernel
theorem dX12_lost_72 : decode cX12_lost 72 = .ok (.iload 4, 2) := by decide +kernel
theorem dX12_lost_74 : decode cX12_lost 74 = .ok (.iconst 1, 1) := by decide +kernel
theorem dX12_lost_75 : decode cX12_lost 75 = .ok (.iadd, 1) := by decide +kernel
theorem dX12_lost_76 : decode cX12_lost 76 = .ok (.iaload, 1) := by decide +kernel
theorem dX12_lost_77 : decode cX12_lost 77 = .ok (.aload_n 0, 1) := by decide +kernel
theorem dX12_lost_78 : decode cX12_lost 78 = .ok (.getfield 39, 3) := by decide +kernel
theorem dX12_lost_81 : decode cX12_lost 81 = .ok (.iconst 4, 1) := by decide +kernel
theorem dX12_lost_82 : decode cX12_lost 82 = .ok (.iload_n 3, 1) := by decide +kernel
theorem dX12_lost_83 : decode cX12_lost 83 = .ok (.imul, 1) := by decide +kernel
theorem dX12_lost_84 : decode cX12_lost 84 = .ok (.iconst 1, 1) := by decide +kernel
theorem dX12_lost_85 : decode cX12_lost 85 = .ok (.iadd, 1) := by decide +kernel
theorem dX12_lost_86 : decode cX12_lost 86 = .ok (.iaload, 1) := by decide +kernel
theorem dX12_lost_87 : decode cX12_lost 87 = .ok (.if_icmp .eq 7, 3) := by decide +kernel
theorem dX12_lost_90 : decode cX12_lost 90 = .ok (.iconst 1, 1) := by decide +kernel
theorem dX12_lost_91 : decode cX12_lost 91 = .ok (.goto 4, 3) := by decide +kernel
theorem dX12_lost_94 : decode cX12_lost 94 = .ok (.iconst 0, 1) := by decide +kernel
theorem dX12_lost_95 : decode cX12_lost 95 = .ok (.iadd, 1) := by decide +kernel
theorem dX12_lost_96 : decode cX12_lost 96 = .ok (.istore_n 2, 1) := by decide +kernel
theorem dX12_lost_97 : decode cX12_lost 97 = .ok (.iinc 3 1, 3) := by decide +kernel
theorem dX12_lost_100 : decode cX12_lost 100 = .ok (.goto (-63), 3) := by decide +kernel
theorem dX12_lost_103 : decode cX12_lost 103 = .ok (.iload_n 2, 1) := by decide +kernel
theorem dX12_lost_104 : decode cX12_lost 104 = .ok (.ireturn, 1) := by decide +kernel
theorem dX12_image_0 : decode cX12_image 0 = .ok (.iload_n 1, 1) := by decide +kernel
theorem dX12_image_1 : decode cX12_image 1 = .ok (.iconst 0, 1) := by decide +kernel
theorem dX12_image_2 : decode cX12_image 2 = .ok (.iconst 2, 1) := by decide +kernel
theorem dX12_image_3 : decode cX12_image 3 = .ok (.invokestatic 79, 3) := by decide +kernel
theorem dX12_image_6 : decode cX12_image 6 = .ok (.ifCond .ne 5, 3) := by decide +kernel
theorem dX12_image_9 : decode cX12_image 9 = .ok (.iconst 0, 1) := by decide +kernel
theorem dX12_image_10 : decode cX12_image 10 = .ok (.ireturn, 1) := by decide +kernel
theorem dX12_image_11 : decode cX12_image 11 = .ok (.sipush 1168, 3) := by decide +kernel
theorem dX12_image_14 : decode cX12_image 14 = .ok (.sipush 695, 3) := by decide +kernel
theorem dX12_image_17 : decode cX12_image 17 = .ok (.iload_n 1, 1) := by decide +kernel
theorem dX12_image_18 : decode cX12_image 18 = .ok (.imul, 1) := by decide +kernel
theorem dX12_image_19 : decode cX12_image 19 = .ok (.iadd, 1) := by decide +kernel
theorem dX12_image_20 : decode cX12_image 20 = .ok (.istore_n 2, 1) := by decide +kernel
theorem dX12_image_21 : decode cX12_image 21 = .ok (.aload_n 0, 1) := by decide +kernel
theorem dX12_image_22 : decode cX12_image 22 = .ok (.iconst 0, 1) := by decide +kernel
theorem dX12_image_23 : decode cX12_image 23 = .ok (.iload_n 2, 1) := by decide +kernel
theorem dX12_image_24 : decode cX12_image 24 = .ok (.invokevirtual 83, 3) := by decide +kernel
theorem dX12_image_27 : decode cX12_image 27 = .ok (.iconst 0, 1) := by decide +kernel
theorem dX12_image_28 : decode cX12_image 28 = .ok (.istore_n 3, 1) := by decide +kernel
theorem dX12_image_29 : decode cX12_image 29 = .ok (.iload_n 3, 1) := by decide +kernel
theorem dX12_image_30 : decode cX12_image 30 = .ok (.sipush 400, 3) := by decide +kernel
theorem dX12_image_33 : decode cX12_image 33 = .ok (.if_icmp .ge 27, 3) := by decide +kernel
theorem dX12_image_36 : decode cX12_image 36 = .ok (.aload_n 0, 1) := by decide +kernel
theorem dX12_image_37 : decode cX12_image 37 = .ok (.getfield 7, 3) := by decide +kernel
theorem dX12_image_40 : decode cX12_image 40 = .ok (.iload_n 2, 1) := by decide +kernel
theorem dX12_image_41 : decode cX12_image 41 = .ok (.sipush 292, 3) := by decide +kernel
theorem dX12_image_44 : decode cX12_image 44 = .ok (.iadd, 1) := by decide +kernel
theorem dX12_image_45 : decode cX12_image 45 = .ok (.iload_n 3, 1) := by decide +kernel
theorem dX12_image_46 : decode cX12_image 46 = .ok (.iadd, 1) := by decide +kernel
theorem dX12_image_47 : decode cX12_image 47 = .ok (.aload_n 0, 1) := by decide +kernel
theorem dX12_image_48 : decode cX12_image 48 = .ok (.getfield 13, 3) := by decide +kernel
theorem dX12_image_51 : decode cX12_image 51 = .ok (.iload_n 3, 1) := by decide +kernel
theorem dX12_image_52 : decode cX12_image 52 = .ok (.iaload, 1) := by decide +kernel
theorem dX12_image_53 : decode cX12_image 53 = .ok (.iastore, 1) := by decide +kernel
theorem dX12_image_54 : decode cX12_image 54 = .ok (.iinc 3 1, 3) := by decide +kernel
theorem dX12_image_57 : decode cX12_image 57 = .ok (.goto (-28), 3) := by decide +kernel
theorem dX12_image_60 : decode cX12_image 60 = .ok (.aload_n 0, 1) := by decide +kernel
theorem dX12_image_61 : decode cX12_image 61 = .ok (.getfield 7, 3) := by decide +kernel
theorem dX12_image_64 : decode cX12_image 64 = .ok (.iload_n 2, 1) := by decide +kernel
theorem dX12_image_65 : decode cX12_image 65 = .ok (.sipush 292, 3) := by decide +kernel
theorem dX12_image_68 : decode cX12_image 68 = .ok (.iadd, 1) := by decide +kernel
theorem dX12_image_69 : decode cX12_image 69 = .ok (.sipush 400, 3) := by decide +kernel
theorem dX12_image_72 : decode cX12_image 72 = .ok (.iadd, 1) := by decide +kernel
theorem dX12_image_73 : decode cX12_image 73 = .ok (.aload_n 0, 1) := by decide +kernel
theorem dX12_image_74 : decode cX12_image 74 = .ok (.getfield 242, 3) := by decide +kernel
theorem dX12_image_77 : decode cX12_image 77 = .ok (.iastore, 1) := by decide +kernel
theorem dX12_image_78 : decode cX12_image 78 = .ok (.aload_n 0, 1) := by decide +kernel
theorem dX12_image_79 : decode cX12_image 79 = .ok (.getfield 7, 3) := by decide +kernel
theorem dX12_image_82 : decode cX12_image 82 = .ok (.iload_n 2, 1) := by decide +kernel
theorem dX12_image_83 : decode cX12_image 83 = .ok (.sipush 292, 3) := by decide +kernel
theorem dX12_image_86 : decode cX12_image 86 = .ok (.iadd, 1) := by decide +kernel
theorem dX12_image_87 : decode cX12_image 87 = .ok (.sipush 400, 3) := by decide +kernel
theorem dX12_image_90 : decode cX12_image 90 = .ok (.iadd, 1) := by decide +kernel
theorem dX12_image_91 : decode cX12_image 91 = .ok (.iconst 1, 1) := by decide +kernel
theorem dX12_image_92 : decode cX12_image 92 = .ok (.iadd, 1) := by decide +kernel
theorem dX12_image_93 : decode cX12_image 93 = .ok (.aload_n 0, 1) := by decide +kernel
theorem dX12_image_94 : decode cX12_image 94 = .ok (.getfield 245, 3) := by decide +kernel
theorem dX12_image_97 : decode cX12_image 97 = .ok (.iastore, 1) := by decide +kernel
theorem dX12_image_98 : decode cX12_image 98 = .ok (.aload_n 0, 1) := by decide +kernel
theorem dX12_image_99 : decode cX12_image 99 = .ok (.getfield 7, 3) := by decide +kernel
theorem dX12_image_102 : decode cX12_image 102 = .ok (.iload_n 2, 1) := by decide +kernel
theorem dX12_image_103 : decode cX12_image 103 = .ok (.sipush 292, 3) := by decide +kernel
theorem dX12_image_106 : decode cX12_image 106 = .ok (.iadd, 1) := by decide +kernel
theorem dX12_image_107 : decode cX12_image 107 = .ok (.sipush 400, 3) := by decide +kernel
theorem dX12_image_110 : decode cX12_image 110 = .ok (.iadd, 1) := by decide +kernel
theorem dX12_image_111 : decode cX12_image 111 = .ok (.iconst 2, 1) := by decide +kernel
theorem dX12_image_112 : decode cX12_image 112 = .ok (.iadd, 1) := by decide +kernel
theorem dX12_image_113 : decode cX12_image 113 = .ok (.aload_n 0, 1) := by decide +kernel
theorem dX12_image_114 : decode cX12_image 114 = .ok (.getfield 20, 3) := by decide +kernel
theorem dX12_image_117 : decode cX12_image 117 = .ok (.iastore, 1) := by decide +kernel
theorem dX12_image_118 : decode cX12_image 118 = .ok (.aload_n 0, 1) := by decide +kernel
theorem dX12_image_119 : decode cX12_image 119 = .ok (.getfield 16, 3) := by decide +kernel
theorem dX12_image_122 : decode cX12_image 122 = .ok (.iload_n 1, 1) := by decide +kernel
theorem dX12_image_123 : decode cX12_image 123 = .ok (.iconst 1, 1) := by decide +kernel
theorem dX12_image_124 : decode cX12_image 124 = .ok (.bastore, 1) := by decide +kernel
theorem dX12_image_125 : decode cX12_image 125 = .ok (.iconst 1, 1) := by decide +kernel
theorem dX12_image_126 : decode cX12_image 126 = .ok (.ireturn, 1) := by decide +kernel
theorem dX12_again_0 : decode cX12_again 0 = .ok (.iload_n 1, 1) := by decide +kernel
theorem dX12_again_1 : decode cX12_again 1 = .ok (.iconst 0, 1) := by decide +kernel
theorem dX12_again_2 : decode cX12_again 2 = .ok (.iconst 2, 1) := by decide +kernel
theorem dX12_again_3 : decode cX12_again 3 = .ok (.invokestatic 79, 3) := by decide +kernel
theorem dX12_again_6 : decode cX12_again 6 = .ok (.ifCond .eq 12, 3) := by decide +kernel
theorem dX12_again_9 : decode cX12_again 9 = .ok (.aload_n 0, 1) := by decide +kernel
theorem dX12_again_10 : decode cX12_again 10 = .ok (.getfield 16, 3) := by decide +kernel
theorem dX12_again_13 : decode cX12_again 13 = .ok (.iload_n 1, 1) := by decide +kernel
theorem dX12_again_14 : decode cX12_again 14 = .ok (.baload, 1) := by decide +kernel
theorem dX12_again_15 : decode cX12_again 15 = .ok (.ifCond .ne 5, 3) := by decide +kernel
theorem dX12_again_18 : decode cX12_again 18 = .ok (.iconst 0, 1) := by decide +kernel
theorem dX12_again_19 : decode cX12_again 19 = .ok (.ireturn, 1) := by decide +kernel
theorem dX12_again_20 : decode cX12_again 20 = .ok (.sipush 1168, 3) := by decide +kernel
theorem dX12_again_23 : decode cX12_again 23 = .ok (.sipush 695, 3) := by decide +kernel
theorem dX12_again_26 : decode cX12_again 26 = .ok (.iload_n 1, 1) := by decide +kernel
theorem dX12_again_27 : decode cX12_again 27 = .ok (.imul, 1) := by decide +kernel
theorem dX12_again_28 : decode cX12_again 28 = .ok (.iadd, 1) := by decide +kernel
theorem dX12_again_29 : decode cX12_again 29 = .ok (.istore_n 2, 1) := by decide +kernel
theorem dX12_again_30 : decode cX12_again 30 = .ok (.aload_n 0, 1) := by decide +kernel
theorem dX12_again_31 : decode cX12_again 31 = .ok (.iload_n 2, 1) := by decide +kernel
theorem dX12_again_32 : decode cX12_again 32 = .ok (.iconst 0, 1) := by decide +kernel
theorem dX12_again_33 : decode cX12_again 33 = .ok (.invokevirtual 83, 3) := by decide +kernel
theorem dX12_again_36 : decode cX12_again 36 = .ok (.iconst 0, 1) := by decide +kernel
theorem dX12_again_37 : decode cX12_again 37 = .ok (.istore_n 3, 1) := by decide +kernel
theorem dX12_again_38 : decode cX12_again 38 = .ok (.iload_n 3, 1) := by decide +kernel
theorem dX12_again_39 : decode cX12_again 39 = .ok (.sipush 400, 3) := by decide +kernel
theorem dX12_again_42 : decode cX12_again 42 = .ok (.if_icmp .ge 27, 3) := by decide +kernel
theorem dX12_again_45 : decode cX12_again 45 = .ok (.aload_n 0, 1) := by decide +kernel
theorem dX12_again_46 : decode cX12_again 46 = .ok (.getfield 13, 3) := by decide +kernel
theorem dX12_again_49 : decode cX12_again 49 = .ok (.iload_n 3, 1) := by decide +kernel
theorem dX12_again_50 : decode cX12_again 50 = .ok (.aload_n 0, 1) := by decide +kernel
theorem dX12_again_51 : decode cX12_again 51 = .ok (.getfield 7, 3) := by decide +kernel
theorem dX12_again_54 : decode cX12_again 54 = .ok (.iload_n 2, 1) := by decide +kernel
theorem dX12_again_55 : decode cX12_again 55 = .ok (.sipush 292, 3) := by decide +kernel
theorem dX12_again_58 : decode cX12_again 58 = .ok (.iadd, 1) := by decide +kernel
theorem dX12_again_59 : decode cX12_again 59 = .ok (.iload_n 3, 1) := by decide +kernel
theorem dX12_again_60 : decode cX12_again 60 = .ok (.iadd, 1) := by decide +kernel
theorem dX12_again_61 : decode cX12_again 61 = .ok (.iaload, 1) := by decide +kernel
theorem dX12_again_62 : decode cX12_again 62 = .ok (.iastore, 1) := by decide +kernel
theorem dX12_again_63 : decode cX12_again 63 = .ok (.iinc 3 1, 3) := by decide +kernel
theorem dX12_again_66 : decode cX12_again 66 = .ok (.goto (-28), 3) := by decide +kernel
theorem dX12_again_69 : decode cX12_again 69 = .ok (.aload_n 0, 1) := by decide +kernel
theorem dX12_again_70 : decode cX12_again 70 = .ok (.aload_n 0, 1) := by decide +kernel
theorem dX12_again_71 : decode cX12_again 71 = .ok (.getfield 7, 3) := by decide +kernel
theorem dX12_again_74 : decode cX12_again 74 = .ok (.iload_n 2, 1) := by decide +kernel
theorem dX12_again_75 : decode cX12_again 75 = .ok (.sipush 292, 3) := by decide +kernel
theorem dX12_again_78 : decode cX12_again 78 = .ok (.iadd, 1) := by decide +kernel
theorem dX12_again_79 : decode cX12_again 79 = .ok (.sipush 400, 3) := by decide +kernel
theorem dX12_again_82 : decode cX12_again 82 = .ok (.iadd, 1) := by decide +kernel
theorem dX12_again_83 : decode cX12_again 83 = .ok (.iaload, 1) := by decide +kernel
theorem dX12_again_84 : decode cX12_again 84 = .ok (.putfield 242, 3) := by decide +kernel
theorem dX12_again_87 : decode cX12_again 87 = .ok (.aload_n 0, 1) := by decide +kernel
theorem dX12_again_88 : decode cX12_again 88 = .ok (.aload_n 0, 1) := by decide +kernel
theorem dX12_again_89 : decode cX12_again 89 = .ok (.getfield 7, 3) := by decide +kernel
theorem dX12_again_92 : decode cX12_again 92 = .ok (.iload_n 2, 1) := by decide +kernel
theorem dX12_again_93 : decode cX12_again 93 = .ok (.sipush 292, 3) := by decide +kernel
theorem dX12_again_96 : decode cX12_again 96 = .ok (.iadd, 1) := by decide +kernel
theorem dX12_again_97 : decode cX12_again 97 = .ok (.sipush 400, 3) := by decide +kernel
theorem dX12_again_100 : decode cX12_again 100 = .ok (.iadd, 1) := by decide +kernel
theorem dX12_again_101 : decode cX12_again 101 = .ok (.iconst 1, 1) := by decide +kernel
theorem dX12_again_102 : decode cX12_again 102 = .ok (.iadd, 1) := by decide +kernel
theorem dX12_again_103 : decode cX12_again 103 = .ok (.iaload, 1) := by decide +kernel
theorem dX12_again_104 : decode cX12_again 104 = .ok (.putfield 245, 3) := by decide +kernel
theorem dX12_again_107 : decode cX12_again 107 = .ok (.aload_n 0, 1) := by decide +kernel
theorem dX12_again_108 : decode cX12_again 108 = .ok (.aload_n 0, 1) := by decide +kernel
theorem dX12_again_109 : decode cX12_again 109 = .ok (.getfield 7, 3) := by decide +kernel
theorem dX12_again_112 : decode cX12_again 112 = .ok (.iload_n 2, 1) := by decide +kernel
theorem dX12_again_113 : decode cX12_again 113 = .ok (.sipush 292, 3) := by decide +kernel
theorem dX12_again_116 : decode cX12_again 116 = .ok (.iadd, 1) := by decide +kernel
theorem dX12_again_117 : decode cX12_again 117 = .ok (.sipush 400, 3) := by decide +kernel
theorem dX12_again_120 : decode cX12_again 120 = .ok (.iadd, 1) := by decide +kernel
theorem dX12_again_121 : decode cX12_again 121 = .ok (.iconst 2, 1) := by decide +kernel
theorem dX12_again_122 : decode cX12_again 122 = .ok (.iadd, 1) := by decide +kernel
theorem dX12_again_123 : decode cX12_again 123 = .ok (.iaload, 1) := by decide +kernel
theorem dX12_again_124 : decode cX12_again 124 = .ok (.putfield 20, 3) := by decide +kernel
theorem dX12_again_127 : decode cX12_again 127 = .ok (.iconst 1, 1) := by decide +kernel
theorem dX12_again_128 : decode cX12_again 128 = .ok (.ireturn, 1) := by decide +kernel
