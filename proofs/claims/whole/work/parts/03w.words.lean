theorem cl_X12_307 : Cond.constantLong RX12 307 27 ∈ tc_T := tc_mem (List.mem_of_getElem? (i := 1650) (by decide +kernel)) (by decide +kernel)
theorem cl_X12_309 : Cond.constantLong RX12 309 97 ∈ tc_T := tc_mem (List.mem_of_getElem? (i := 1651) (by decide +kernel)) (by decide +kernel)
theorem cl_X12_314 : Cond.constantLong RX12 314 10 ∈ tc_T := tc_mem (List.mem_of_getElem? (i := 1655) (by decide +kernel)) (by decide +kernel)
theorem cl_X12_316 : Cond.constantLong RX12 316 48 ∈ tc_T := tc_mem (List.mem_of_getElem? (i := 1656) (by decide +kernel)) (by decide +kernel)
theorem cl_X12_344 : Cond.constantLong RX12 344 286880 ∈ tc_T := tc_mem (List.mem_of_getElem? (i := 1696) (by decide +kernel)) (by decide +kernel)
theorem cl_X12_346 : Cond.constantLong RX12 346 453773 ∈ tc_T := tc_mem (List.mem_of_getElem? (i := 1697) (by decide +kernel)) (by decide +kernel)
theorem cl_X12_348 : Cond.constantLong RX12 348 202071272150 ∈ tc_T := tc_mem (List.mem_of_getElem? (i := 1698) (by decide +kernel)) (by decide +kernel)
theorem cl_X12_350 : Cond.constantLong RX12 350 261071456 ∈ tc_T := tc_mem (List.mem_of_getElem? (i := 1704) (by decide +kernel)) (by decide +kernel)
theorem cl_X12_352 : Cond.constantLong RX12 352 261096245 ∈ tc_T := tc_mem (List.mem_of_getElem? (i := 1705) (by decide +kernel)) (by decide +kernel)
theorem cl_X12_354 : Cond.constantLong RX12 354 151331 ∈ tc_T := tc_mem (List.mem_of_getElem? (i := 1706) (by decide +kernel)) (by decide +kernel)
theorem cl_X12_356 : Cond.constantLong RX12 356 397838 ∈ tc_T := tc_mem (List.mem_of_getElem? (i := 1707) (by decide +kernel)) (by decide +kernel)
theorem cl_X12_361 : Cond.constantLong RX12 361 999 ∈ tc_T := tc_mem (List.mem_of_getElem? (i := 1719) (by decide +kernel)) (by decide +kernel)
theorem cl_X12_363 : Cond.constantLong RX12 363 1077983065 ∈ tc_T := tc_mem (List.mem_of_getElem? (i := 1665) (by decide +kernel)) (by decide +kernel)
theorem cl_X12_369 : Cond.constantLong RX12 369 10345069 ∈ tc_T := tc_mem (List.mem_of_getElem? (i := 1686) (by decide +kernel)) (by decide +kernel)
theorem cl_X12_371 : Cond.constantLong RX12 371 10492289 ∈ tc_T := tc_mem (List.mem_of_getElem? (i := 1687) (by decide +kernel)) (by decide +kernel)
theorem cl_X12_373 : Cond.constantLong RX12 373 2236391 ∈ tc_T := tc_mem (List.mem_of_getElem? (i := 1688) (by decide +kernel)) (by decide +kernel)
theorem cl_X12_375 : Cond.constantLong RX12 375 10989829 ∈ tc_T := tc_mem (List.mem_of_getElem? (i := 1689) (by decide +kernel)) (by decide +kernel)
theorem cl_X12_377 : Cond.constantLong RX12 377 377761 ∈ tc_T := tc_mem (List.mem_of_getElem? (i := 1690) (by decide +kernel)) (by decide +kernel)
theorem cl_X12_379 : Cond.constantLong RX12 379 223166 ∈ tc_T := tc_mem (List.mem_of_getElem? (i := 1691) (by decide +kernel)) (by decide +kernel)
theorem cl_X12_385 : Cond.constantLong RX12 385 133743 ∈ tc_T := tc_mem (List.mem_of_getElem? (i := 1699) (by decide +kernel)) (by decide +kernel)
theorem cl_X12_390 : Cond.constantLong RX12 390 11318 ∈ tc_T := tc_mem (List.mem_of_getElem? (i := 1708) (by decide +kernel)) (by decide +kernel)
theorem cl_X12_395 : Cond.constantLong RX12 395 15216 ∈ tc_T := tc_mem (List.mem_of_getElem? (i := 1713) (by decide +kernel)) (by decide +kernel)
theorem cl_X12_397 : Cond.constantLong RX12 397 5878 ∈ tc_T := tc_mem (List.mem_of_getElem? (i := 1714) (by decide +kernel)) (by decide +kernel)
theorem co_X12_87 : Cond.constant RX12 87 1103515245 ∈ tc_T := tc_mem (List.mem_of_getElem? (i := 1418) (by decide +kernel)) (by decide +kernel)
theorem co_X2_13 : Cond.constant RX2 13 1103515245 ∈ tc_T := tc_mem (List.mem_of_getElem? (i := 830) (by decide +kernel)) (by decide +kernel)
theorem fl_X0_103 : tc_FL RX0 103 2 0 := ⟨_, rfl, by decide, tc_mem (List.mem_of_getElem? (i := 154) (by decide +kernel)) (by decide +kernel)⟩
theorem fl_X0_14 : tc_FL RX0 14 0 1 := ⟨_, rfl, by decide, tc_mem (List.mem_of_getElem? (i := 529) (by decide +kernel)) (by decide +kernel)⟩
theorem fl_X0_20 : tc_FL RX0 20 0 0 := ⟨_, rfl, by decide, tc_mem (List.mem_of_getElem? (i := 528) (by decide +kernel)) (by decide +kernel)⟩
theorem fl_X0_24 : tc_FL RX0 24 9 0 := ⟨_, rfl, by decide, tc_mem (List.mem_of_getElem? (i := 258) (by decide +kernel)) (by decide +kernel)⟩
theorem fl_X0_45 : tc_FL RX0 45 9 2 := ⟨_, rfl, by decide, tc_mem (List.mem_of_getElem? (i := 272) (by decide +kernel)) (by decide +kernel)⟩
theorem fl_X0_49 : tc_FL RX0 49 9 3 := ⟨_, rfl, by decide, tc_mem (List.mem_of_getElem? (i := 278) (by decide +kernel)) (by decide +kernel)⟩
theorem fl_X0_93 : tc_FL RX0 93 8 0 := ⟨_, rfl, by decide, tc_mem (List.mem_of_getElem? (i := 174) (by decide +kernel)) (by decide +kernel)⟩
theorem fl_X0_96 : tc_FL RX0 96 8 1 := ⟨_, rfl, by decide, tc_mem (List.mem_of_getElem? (i := 183) (by decide +kernel)) (by decide +kernel)⟩
theorem fl_X0_99 : tc_FL RX0 99 8 11 := ⟨_, rfl, by decide, tc_mem (List.mem_of_getElem? (i := 221) (by decide +kernel)) (by decide +kernel)⟩
theorem fl_X1_15 : tc_FL RX1 15 1 3 := ⟨_, rfl, by decide, tc_mem (List.mem_of_getElem? (i := 403) (by decide +kernel)) (by decide +kernel)⟩
theorem fl_X1_18 : tc_FL RX1 18 1 4 := ⟨_, rfl, by decide, tc_mem (List.mem_of_getElem? (i := 404) (by decide +kernel)) (by decide +kernel)⟩
theorem fl_X1_21 : tc_FL RX1 21 1 5 := ⟨_, rfl, by decide, tc_mem (List.mem_of_getElem? (i := 405) (by decide +kernel)) (by decide +kernel)⟩
theorem fl_X1_24 : tc_FL RX1 24 1 6 := ⟨_, rfl, by decide, tc_mem (List.mem_of_getElem? (i := 406) (by decide +kernel)) (by decide +kernel)⟩
theorem fl_X1_28 : tc_FL RX1 28 9 0 := ⟨_, rfl, by decide, tc_mem (List.mem_of_getElem? (i := 257) (by decide +kernel)) (by decide +kernel)⟩
theorem fl_X1_34 : tc_FL RX1 34 8 0 := ⟨_, rfl, by decide, tc_mem (List.mem_of_getElem? (i := 170) (by decide +kernel)) (by decide +kernel)⟩
theorem fl_X1_44 : tc_FL RX1 44 8 1 := ⟨_, rfl, by decide, tc_mem (List.mem_of_getElem? (i := 178) (by decide +kernel)) (by decide +kernel)⟩
theorem fl_X1_47 : tc_FL RX1 47 1 7 := ⟨_, rfl, by decide, tc_mem (List.mem_of_getElem? (i := 407) (by decide +kernel)) (by decide +kernel)⟩
theorem fl_X1_50 : tc_FL RX1 50 9 3 := ⟨_, rfl, by decide, tc_mem (List.mem_of_getElem? (i := 277) (by decide +kernel)) (by decide +kernel)⟩
theorem fl_X1_53 : tc_FL RX1 53 9 7 := ⟨_, rfl, by decide, tc_mem (List.mem_of_getElem? (i := 295) (by decide +kernel)) (by decide +kernel)⟩
theorem fl_X1_56 : tc_FL RX1 56 9 8 := ⟨_, rfl, by decide, tc_mem (List.mem_of_getElem? (i := 301) (by decide +kernel)) (by decide +kernel)⟩
theorem fl_X1_59 : tc_FL RX1 59 9 9 := ⟨_, rfl, by decide, tc_mem (List.mem_of_getElem? (i := 304) (by decide +kernel)) (by decide +kernel)⟩
theorem fl_X1_66 : tc_FL RX1 66 1 1 := ⟨_, rfl, by decide, tc_mem (List.mem_of_getElem? (i := 399) (by decide +kernel)) (by decide +kernel)⟩
theorem fl_X1_69 : tc_FL RX1 69 1 2 := ⟨_, rfl, by decide, tc_mem (List.mem_of_getElem? (i := 401) (by decide +kernel)) (by decide +kernel)⟩
theorem fl_X1_9 : tc_FL RX1 9 1 0 := ⟨_, rfl, by decide, tc_mem (List.mem_of_getElem? (i := 395) (by decide +kernel)) (by decide +kernel)⟩
theorem fl_X10_14 : tc_FL RX10 14 10 0 := ⟨_, rfl, by decide, tc_mem (List.mem_of_getElem? (i := 364) (by decide +kernel)) (by decide +kernel)⟩
theorem fl_X10_20 : tc_FL RX10 20 10 1 := ⟨_, rfl, by decide, tc_mem (List.mem_of_getElem? (i := 366) (by decide +kernel)) (by decide +kernel)⟩
theorem fl_X10_24 : tc_FL RX10 24 10 4 := ⟨_, rfl, by decide, tc_mem (List.mem_of_getElem? (i := 372) (by decide +kernel)) (by decide +kernel)⟩
theorem fl_X10_28 : tc_FL RX10 28 10 2 := ⟨_, rfl, by decide, tc_mem (List.mem_of_getElem? (i := 369) (by decide +kernel)) (by decide +kernel)⟩
theorem fl_X10_41 : tc_FL RX10 41 10 3 := ⟨_, rfl, by decide, tc_mem (List.mem_of_getElem? (i := 370) (by decide +kernel)) (by decide +kernel)⟩
theorem fl_X11_105 : tc_FL RX11 105 6 0 := ⟨_, rfl, by decide, tc_mem (List.mem_of_getElem? (i := 544) (by decide +kernel)) (by decide +kernel)⟩
theorem fl_X11_108 : tc_FL RX11 108 10 3 := ⟨_, rfl, by decide, tc_mem (List.mem_of_getElem? (i := 371) (by decide +kernel)) (by decide +kernel)⟩
theorem fl_X11_109 : tc_FL RX11 109 6 1 := ⟨_, rfl, by decide, tc_mem (List.mem_of_getElem? (i := 546) (by decide +kernel)) (by decide +kernel)⟩
theorem fl_X11_112 : tc_FL RX11 112 10 4 := ⟨_, rfl, by decide, tc_mem (List.mem_of_getElem? (i := 373) (by decide +kernel)) (by decide +kernel)⟩
theorem fl_X11_113 : tc_FL RX11 113 10 0 := ⟨_, rfl, by decide, tc_mem (List.mem_of_getElem? (i := 365) (by decide +kernel)) (by decide +kernel)⟩
theorem fl_X11_12 : tc_FL RX11 12 11 0 := ⟨_, rfl, by decide, tc_mem (List.mem_of_getElem? (i := 588) (by decide +kernel)) (by decide +kernel)⟩
theorem fl_X11_135 : tc_FL RX11 135 9 15 := ⟨_, rfl, by decide, tc_mem (List.mem_of_getElem? (i := 324) (by decide +kernel)) (by decide +kernel)⟩
theorem fl_X11_141 : tc_FL RX11 141 9 4 := ⟨_, rfl, by decide, tc_mem (List.mem_of_getElem? (i := 283) (by decide +kernel)) (by decide +kernel)⟩
theorem fl_X11_16 : tc_FL RX11 16 11 1 := ⟨_, rfl, by decide, tc_mem (List.mem_of_getElem? (i := 589) (by decide +kernel)) (by decide +kernel)⟩
theorem fl_X11_168 : tc_FL RX11 168 7 5 := ⟨_, rfl, by decide, tc_mem (List.mem_of_getElem? (i := 461) (by decide +kernel)) (by decide +kernel)⟩
theorem fl_X11_171 : tc_FL RX11 171 9 3 := ⟨_, rfl, by decide, tc_mem (List.mem_of_getElem? (i := 280) (by decide +kernel)) (by decide +kernel)⟩
theorem fl_X11_174 : tc_FL RX11 174 7 3 := ⟨_, rfl, by decide, tc_mem (List.mem_of_getElem? (i := 455) (by decide +kernel)) (by decide +kernel)⟩
theorem fl_X11_177 : tc_FL RX11 177 7 4 := ⟨_, rfl, by decide, tc_mem (List.mem_of_getElem? (i := 458) (by decide +kernel)) (by decide +kernel)⟩
theorem fl_X11_186 : tc_FL RX11 186 9 1 := ⟨_, rfl, by decide, tc_mem (List.mem_of_getElem? (i := 266) (by decide +kernel)) (by decide +kernel)⟩
theorem fl_X11_195 : tc_FL RX11 195 9 5 := ⟨_, rfl, by decide, tc_mem (List.mem_of_getElem? (i := 287) (by decide +kernel)) (by decide +kernel)⟩
theorem fl_X11_198 : tc_FL RX11 198 9 6 := ⟨_, rfl, by decide, tc_mem (List.mem_of_getElem? (i := 291) (by decide +kernel)) (by decide +kernel)⟩
theorem fl_X11_207 : tc_FL RX11 207 9 7 := ⟨_, rfl, by decide, tc_mem (List.mem_of_getElem? (i := 297) (by decide +kernel)) (by decide +kernel)⟩
theorem fl_X11_213 : tc_FL RX11 213 9 0 := ⟨_, rfl, by decide, tc_mem (List.mem_of_getElem? (i := 262) (by decide +kernel)) (by decide +kernel)⟩
theorem fl_X11_229 : tc_FL RX11 229 1 1 := ⟨_, rfl, by decide, tc_mem (List.mem_of_getElem? (i := 400) (by decide +kernel)) (by decide +kernel)⟩
theorem fl_X11_230 : tc_FL RX11 230 1 0 := ⟨_, rfl, by decide, tc_mem (List.mem_of_getElem? (i := 397) (by decide +kernel)) (by decide +kernel)⟩
theorem fl_X11_236 : tc_FL RX11 236 8 0 := ⟨_, rfl, by decide, tc_mem (List.mem_of_getElem? (i := 176) (by decide +kernel)) (by decide +kernel)⟩
theorem fl_X11_243 : tc_FL RX11 243 5 0 := ⟨_, rfl, by decide, tc_mem (List.mem_of_getElem? (i := 508) (by decide +kernel)) (by decide +kernel)⟩
theorem fl_X11_249 : tc_FL RX11 249 5 1 := ⟨_, rfl, by decide, tc_mem (List.mem_of_getElem? (i := 510) (by decide +kernel)) (by decide +kernel)⟩
theorem fl_X11_25 : tc_FL RX11 25 11 2 := ⟨_, rfl, by decide, tc_mem (List.mem_of_getElem? (i := 590) (by decide +kernel)) (by decide +kernel)⟩
theorem fl_X11_252 : tc_FL RX11 252 5 2 := ⟨_, rfl, by decide, tc_mem (List.mem_of_getElem? (i := 512) (by decide +kernel)) (by decide +kernel)⟩
theorem fl_X11_255 : tc_FL RX11 255 8 1 := ⟨_, rfl, by decide, tc_mem (List.mem_of_getElem? (i := 184) (by decide +kernel)) (by decide +kernel)⟩
theorem fl_X11_281 : tc_FL RX11 281 7 1 := ⟨_, rfl, by decide, tc_mem (List.mem_of_getElem? (i := 450) (by decide +kernel)) (by decide +kernel)⟩
theorem fl_X11_284 : tc_FL RX11 284 7 0 := ⟨_, rfl, by decide, tc_mem (List.mem_of_getElem? (i := 447) (by decide +kernel)) (by decide +kernel)⟩
theorem fl_X11_290 : tc_FL RX11 290 9 9 := ⟨_, rfl, by decide, tc_mem (List.mem_of_getElem? (i := 307) (by decide +kernel)) (by decide +kernel)⟩
theorem fl_X11_297 : tc_FL RX11 297 9 2 := ⟨_, rfl, by decide, tc_mem (List.mem_of_getElem? (i := 273) (by decide +kernel)) (by decide +kernel)⟩
theorem fl_X11_306 : tc_FL RX11 306 9 11 := ⟨_, rfl, by decide, tc_mem (List.mem_of_getElem? (i := 313) (by decide +kernel)) (by decide +kernel)⟩
theorem fl_X11_309 : tc_FL RX11 309 9 12 := ⟨_, rfl, by decide, tc_mem (List.mem_of_getElem? (i := 316) (by decide +kernel)) (by decide +kernel)⟩
theorem fl_X11_312 : tc_FL RX11 312 9 13 := ⟨_, rfl, by decide, tc_mem (List.mem_of_getElem? (i := 319) (by decide +kernel)) (by decide +kernel)⟩
theorem fl_X11_315 : tc_FL RX11 315 9 14 := ⟨_, rfl, by decide, tc_mem (List.mem_of_getElem? (i := 322) (by decide +kernel)) (by decide +kernel)⟩
theorem fl_X11_32 : tc_FL RX11 32 11 3 := ⟨_, rfl, by decide, tc_mem (List.mem_of_getElem? (i := 591) (by decide +kernel)) (by decide +kernel)⟩
theorem fl_X11_327 : tc_FL RX11 327 9 16 := ⟨_, rfl, by decide, tc_mem (List.mem_of_getElem? (i := 327) (by decide +kernel)) (by decide +kernel)⟩
theorem fl_X11_333 : tc_FL RX11 333 8 11 := ⟨_, rfl, by decide, tc_mem (List.mem_of_getElem? (i := 222) (by decide +kernel)) (by decide +kernel)⟩
theorem fl_X11_337 : tc_FL RX11 337 2 0 := ⟨_, rfl, by decide, tc_mem (List.mem_of_getElem? (i := 156) (by decide +kernel)) (by decide +kernel)⟩
theorem fl_X11_342 : tc_FL RX11 342 8 2 := ⟨_, rfl, by decide, tc_mem (List.mem_of_getElem? (i := 188) (by decide +kernel)) (by decide +kernel)⟩
theorem fl_X11_345 : tc_FL RX11 345 9 10 := ⟨_, rfl, by decide, tc_mem (List.mem_of_getElem? (i := 310) (by decide +kernel)) (by decide +kernel)⟩
theorem fl_X11_348 : tc_FL RX11 348 8 3 := ⟨_, rfl, by decide, tc_mem (List.mem_of_getElem? (i := 192) (by decide +kernel)) (by decide +kernel)⟩
theorem fl_X11_351 : tc_FL RX11 351 8 4 := ⟨_, rfl, by decide, tc_mem (List.mem_of_getElem? (i := 196) (by decide +kernel)) (by decide +kernel)⟩
theorem fl_X11_354 : tc_FL RX11 354 8 5 := ⟨_, rfl, by decide, tc_mem (List.mem_of_getElem? (i := 200) (by decide +kernel)) (by decide +kernel)⟩
theorem fl_X11_357 : tc_FL RX11 357 8 6 := ⟨_, rfl, by decide, tc_mem (List.mem_of_getElem? (i := 204) (by decide +kernel)) (by decide +kernel)⟩
theorem fl_X11_360 : tc_FL RX11 360 8 7 := ⟨_, rfl, by decide, tc_mem (List.mem_of_getElem? (i := 207) (by decide +kernel)) (by decide +kernel)⟩
theorem fl_X11_363 : tc_FL RX11 363 8 8 := ⟨_, rfl, by decide, tc_mem (List.mem_of_getElem? (i := 210) (by decide +kernel)) (by decide +kernel)⟩
theorem fl_X11_366 : tc_FL RX11 366 8 9 := ⟨_, rfl, by decide, tc_mem (List.mem_of_getElem? (i := 213) (by decide +kernel)) (by decide +kernel)⟩
theorem fl_X11_369 : tc_FL RX11 369 8 10 := ⟨_, rfl, by decide, tc_mem (List.mem_of_getElem? (i := 216) (by decide +kernel)) (by decide +kernel)⟩
theorem fl_X11_41 : tc_FL RX11 41 11 4 := ⟨_, rfl, by decide, tc_mem (List.mem_of_getElem? (i := 592) (by decide +kernel)) (by decide +kernel)⟩
theorem fl_X11_48 : tc_FL RX11 48 11 5 := ⟨_, rfl, by decide, tc_mem (List.mem_of_getElem? (i := 593) (by decide +kernel)) (by decide +kernel)⟩
theorem fl_X11_57 : tc_FL RX11 57 11 6 := ⟨_, rfl, by decide, tc_mem (List.mem_of_getElem? (i := 594) (by decide +kernel)) (by decide +kernel)⟩
theorem fl_X11_64 : tc_FL RX11 64 11 7 := ⟨_, rfl, by decide, tc_mem (List.mem_of_getElem? (i := 595) (by decide +kernel)) (by decide +kernel)⟩
theorem fl_X11_73 : tc_FL RX11 73 11 8 := ⟨_, rfl, by decide, tc_mem (List.mem_of_getElem? (i := 596) (by decide +kernel)) (by decide +kernel)⟩
theorem fl_X11_86 : tc_FL RX11 86 11 9 := ⟨_, rfl, by decide, tc_mem (List.mem_of_getElem? (i := 597) (by decide +kernel)) (by decide +kernel)⟩
theorem fl_X11_90 : tc_FL RX11 90 10 2 := ⟨_, rfl, by decide, tc_mem (List.mem_of_getElem? (i := 368) (by decide +kernel)) (by decide +kernel)⟩
theorem fl_X12_13 : tc_FL RX12 13 12 1 := ⟨_, rfl, by decide, tc_mem (List.mem_of_getElem? (i := 1202) (by decide +kernel)) (by decide +kernel)⟩
theorem fl_X12_142 : tc_FL RX12 142 12 12 := ⟨_, rfl, by decide, tc_mem (List.mem_of_getElem? (i := 1213) (by decide +kernel)) (by decide +kernel)⟩
theorem fl_X12_16 : tc_FL RX12 16 12 2 := ⟨_, rfl, by decide, tc_mem (List.mem_of_getElem? (i := 1203) (by decide +kernel)) (by decide +kernel)⟩
theorem fl_X12_179 : tc_FL RX12 179 12 13 := ⟨_, rfl, by decide, tc_mem (List.mem_of_getElem? (i := 1214) (by decide +kernel)) (by decide +kernel)⟩
theorem fl_X12_197 : tc_FL RX12 197 12 17 := ⟨_, rfl, by decide, tc_mem (List.mem_of_getElem? (i := 1218) (by decide +kernel)) (by decide +kernel)⟩
theorem fl_X12_20 : tc_FL RX12 20 12 5 := ⟨_, rfl, by decide, tc_mem (List.mem_of_getElem? (i := 1206) (by decide +kernel)) (by decide +kernel)⟩
theorem fl_X12_24 : tc_FL RX12 24 12 6 := ⟨_, rfl, by decide, tc_mem (List.mem_of_getElem? (i := 1207) (by decide +kernel)) (by decide +kernel)⟩
theorem fl_X12_242 : tc_FL RX12 242 12 3 := ⟨_, rfl, by decide, tc_mem (List.mem_of_getElem? (i := 1204) (by decide +kernel)) (by decide +kernel)⟩
theorem fl_X12_245 : tc_FL RX12 245 12 4 := ⟨_, rfl, by decide, tc_mem (List.mem_of_getElem? (i := 1205) (by decide +kernel)) (by decide +kernel)⟩
theorem fl_X12_27 : tc_FL RX12 27 12 7 := ⟨_, rfl, by decide, tc_mem (List.mem_of_getElem? (i := 1208) (by decide +kernel)) (by decide +kernel)⟩
theorem fl_X12_285 : tc_FL RX12 285 12 22 := ⟨_, rfl, by decide, tc_mem (List.mem_of_getElem? (i := 1223) (by decide +kernel)) (by decide +kernel)⟩
theorem fl_X12_288 : tc_FL RX12 288 12 23 := ⟨_, rfl, by decide, tc_mem (List.mem_of_getElem? (i := 1224) (by decide +kernel)) (by decide +kernel)⟩
theorem fl_X12_294 : tc_FL RX12 294 12 25 := ⟨_, rfl, by decide, tc_mem (List.mem_of_getElem? (i := 1226) (by decide +kernel)) (by decide +kernel)⟩
theorem fl_X12_297 : tc_FL RX12 297 12 29 := ⟨_, rfl, by decide, tc_mem (List.mem_of_getElem? (i := 1230) (by decide +kernel)) (by decide +kernel)⟩
theorem fl_X12_30 : tc_FL RX12 30 12 8 := ⟨_, rfl, by decide, tc_mem (List.mem_of_getElem? (i := 1209) (by decide +kernel)) (by decide +kernel)⟩
theorem fl_X12_301 : tc_FL RX12 301 12 24 := ⟨_, rfl, by decide, tc_mem (List.mem_of_getElem? (i := 1225) (by decide +kernel)) (by decide +kernel)⟩
theorem fl_X12_318 : tc_FL RX12 318 12 26 := ⟨_, rfl, by decide, tc_mem (List.mem_of_getElem? (i := 1227) (by decide +kernel)) (by decide +kernel)⟩
theorem fl_X12_321 : tc_FL RX12 321 12 27 := ⟨_, rfl, by decide, tc_mem (List.mem_of_getElem? (i := 1228) (by decide +kernel)) (by decide +kernel)⟩
theorem fl_X12_33 : tc_FL RX12 33 12 9 := ⟨_, rfl, by decide, tc_mem (List.mem_of_getElem? (i := 1210) (by decide +kernel)) (by decide +kernel)⟩
theorem fl_X12_358 : tc_FL RX12 358 12 28 := ⟨_, rfl, by decide, tc_mem (List.mem_of_getElem? (i := 1229) (by decide +kernel)) (by decide +kernel)⟩
theorem fl_X12_36 : tc_FL RX12 36 12 10 := ⟨_, rfl, by decide, tc_mem (List.mem_of_getElem? (i := 1211) (by decide +kernel)) (by decide +kernel)⟩
theorem fl_X12_39 : tc_FL RX12 39 12 11 := ⟨_, rfl, by decide, tc_mem (List.mem_of_getElem? (i := 1212) (by decide +kernel)) (by decide +kernel)⟩
theorem fl_X12_42 : tc_FL RX12 42 12 14 := ⟨_, rfl, by decide, tc_mem (List.mem_of_getElem? (i := 1215) (by decide +kernel)) (by decide +kernel)⟩
theorem fl_X12_45 : tc_FL RX12 45 12 15 := ⟨_, rfl, by decide, tc_mem (List.mem_of_getElem? (i := 1216) (by decide +kernel)) (by decide +kernel)⟩
theorem fl_X12_48 : tc_FL RX12 48 12 16 := ⟨_, rfl, by decide, tc_mem (List.mem_of_getElem? (i := 1217) (by decide +kernel)) (by decide +kernel)⟩
theorem fl_X12_51 : tc_FL RX12 51 12 18 := ⟨_, rfl, by decide, tc_mem (List.mem_of_getElem? (i := 1219) (by decide +kernel)) (by decide +kernel)⟩
theorem fl_X12_54 : tc_FL RX12 54 12 19 := ⟨_, rfl, by decide, tc_mem (List.mem_of_getElem? (i := 1220) (by decide +kernel)) (by decide +kernel)⟩
theorem fl_X12_57 : tc_FL RX12 57 12 20 := ⟨_, rfl, by decide, tc_mem (List.mem_of_getElem? (i := 1221) (by decide +kernel)) (by decide +kernel)⟩
theorem fl_X12_60 : tc_FL RX12 60 12 21 := ⟨_, rfl, by decide, tc_mem (List.mem_of_getElem? (i := 1222) (by decide +kernel)) (by decide +kernel)⟩
theorem fl_X12_63 : tc_FL RX12 63 12 30 := ⟨_, rfl, by decide, tc_mem (List.mem_of_getElem? (i := 1231) (by decide +kernel)) (by decide +kernel)⟩
theorem fl_X12_66 : tc_FL RX12 66 12 31 := ⟨_, rfl, by decide, tc_mem (List.mem_of_getElem? (i := 1232) (by decide +kernel)) (by decide +kernel)⟩
theorem fl_X12_69 : tc_FL RX12 69 12 32 := ⟨_, rfl, by decide, tc_mem (List.mem_of_getElem? (i := 1233) (by decide +kernel)) (by decide +kernel)⟩
theorem fl_X12_7 : tc_FL RX12 7 12 0 := ⟨_, rfl, by decide, tc_mem (List.mem_of_getElem? (i := 1201) (by decide +kernel)) (by decide +kernel)⟩
theorem fl_X12_72 : tc_FL RX12 72 12 33 := ⟨_, rfl, by decide, tc_mem (List.mem_of_getElem? (i := 1234) (by decide +kernel)) (by decide +kernel)⟩
theorem fl_X2_7 : tc_FL RX2 7 2 0 := ⟨_, rfl, by decide, tc_mem (List.mem_of_getElem? (i := 150) (by decide +kernel)) (by decide +kernel)⟩
theorem fl_X3_103 : tc_FL RX3 103 9 13 := ⟨_, rfl, by decide, tc_mem (List.mem_of_getElem? (i := 318) (by decide +kernel)) (by decide +kernel)⟩
theorem fl_X3_109 : tc_FL RX3 109 8 0 := ⟨_, rfl, by decide, tc_mem (List.mem_of_getElem? (i := 172) (by decide +kernel)) (by decide +kernel)⟩
theorem fl_X3_112 : tc_FL RX3 112 9 14 := ⟨_, rfl, by decide, tc_mem (List.mem_of_getElem? (i := 321) (by decide +kernel)) (by decide +kernel)⟩
theorem fl_X3_121 : tc_FL RX3 121 9 3 := ⟨_, rfl, by decide, tc_mem (List.mem_of_getElem? (i := 279) (by decide +kernel)) (by decide +kernel)⟩
theorem fl_X3_127 : tc_FL RX3 127 9 5 := ⟨_, rfl, by decide, tc_mem (List.mem_of_getElem? (i := 286) (by decide +kernel)) (by decide +kernel)⟩
theorem fl_X3_130 : tc_FL RX3 130 9 6 := ⟨_, rfl, by decide, tc_mem (List.mem_of_getElem? (i := 290) (by decide +kernel)) (by decide +kernel)⟩
theorem fl_X3_138 : tc_FL RX3 138 7 5 := ⟨_, rfl, by decide, tc_mem (List.mem_of_getElem? (i := 460) (by decide +kernel)) (by decide +kernel)⟩
theorem fl_X3_14 : tc_FL RX3 14 3 2 := ⟨_, rfl, by decide, tc_mem (List.mem_of_getElem? (i := 490) (by decide +kernel)) (by decide +kernel)⟩
theorem fl_X3_141 : tc_FL RX3 141 7 3 := ⟨_, rfl, by decide, tc_mem (List.mem_of_getElem? (i := 454) (by decide +kernel)) (by decide +kernel)⟩
theorem fl_X3_144 : tc_FL RX3 144 7 4 := ⟨_, rfl, by decide, tc_mem (List.mem_of_getElem? (i := 457) (by decide +kernel)) (by decide +kernel)⟩
theorem fl_X3_154 : tc_FL RX3 154 7 1 := ⟨_, rfl, by decide, tc_mem (List.mem_of_getElem? (i := 449) (by decide +kernel)) (by decide +kernel)⟩
theorem fl_X3_157 : tc_FL RX3 157 7 2 := ⟨_, rfl, by decide, tc_mem (List.mem_of_getElem? (i := 452) (by decide +kernel)) (by decide +kernel)⟩
theorem fl_X3_161 : tc_FL RX3 161 7 0 := ⟨_, rfl, by decide, tc_mem (List.mem_of_getElem? (i := 446) (by decide +kernel)) (by decide +kernel)⟩
theorem fl_X3_164 : tc_FL RX3 164 9 1 := ⟨_, rfl, by decide, tc_mem (List.mem_of_getElem? (i := 265) (by decide +kernel)) (by decide +kernel)⟩
theorem fl_X3_174 : tc_FL RX3 174 2 0 := ⟨_, rfl, by decide, tc_mem (List.mem_of_getElem? (i := 155) (by decide +kernel)) (by decide +kernel)⟩
theorem fl_X3_23 : tc_FL RX3 23 3 3 := ⟨_, rfl, by decide, tc_mem (List.mem_of_getElem? (i := 491) (by decide +kernel)) (by decide +kernel)⟩
theorem fl_X3_27 : tc_FL RX3 27 3 0 := ⟨_, rfl, by decide, tc_mem (List.mem_of_getElem? (i := 488) (by decide +kernel)) (by decide +kernel)⟩
theorem fl_X3_31 : tc_FL RX3 31 3 1 := ⟨_, rfl, by decide, tc_mem (List.mem_of_getElem? (i := 489) (by decide +kernel)) (by decide +kernel)⟩
theorem fl_X3_35 : tc_FL RX3 35 9 11 := ⟨_, rfl, by decide, tc_mem (List.mem_of_getElem? (i := 311) (by decide +kernel)) (by decide +kernel)⟩
theorem fl_X3_43 : tc_FL RX3 43 9 4 := ⟨_, rfl, by decide, tc_mem (List.mem_of_getElem? (i := 282) (by decide +kernel)) (by decide +kernel)⟩
theorem fl_X3_57 : tc_FL RX3 57 9 0 := ⟨_, rfl, by decide, tc_mem (List.mem_of_getElem? (i := 260) (by decide +kernel)) (by decide +kernel)⟩
theorem fl_X3_61 : tc_FL RX3 61 8 6 := ⟨_, rfl, by decide, tc_mem (List.mem_of_getElem? (i := 202) (by decide +kernel)) (by decide +kernel)⟩
theorem fl_X3_66 : tc_FL RX3 66 9 2 := ⟨_, rfl, by decide, tc_mem (List.mem_of_getElem? (i := 271) (by decide +kernel)) (by decide +kernel)⟩
theorem fl_X3_87 : tc_FL RX3 87 9 12 := ⟨_, rfl, by decide, tc_mem (List.mem_of_getElem? (i := 315) (by decide +kernel)) (by decide +kernel)⟩
theorem fl_X3_94 : tc_FL RX3 94 8 4 := ⟨_, rfl, by decide, tc_mem (List.mem_of_getElem? (i := 194) (by decide +kernel)) (by decide +kernel)⟩
theorem fl_X4_104 : tc_FL RX4 104 8 11 := ⟨_, rfl, by decide, tc_mem (List.mem_of_getElem? (i := 219) (by decide +kernel)) (by decide +kernel)⟩
theorem fl_X4_117 : tc_FL RX4 117 9 9 := ⟨_, rfl, by decide, tc_mem (List.mem_of_getElem? (i := 306) (by decide +kernel)) (by decide +kernel)⟩
theorem fl_X4_15 : tc_FL RX4 15 4 0 := ⟨_, rfl, by decide, tc_mem (List.mem_of_getElem? (i := 432) (by decide +kernel)) (by decide +kernel)⟩
theorem fl_X4_19 : tc_FL RX4 19 9 2 := ⟨_, rfl, by decide, tc_mem (List.mem_of_getElem? (i := 268) (by decide +kernel)) (by decide +kernel)⟩
theorem fl_X4_25 : tc_FL RX4 25 9 0 := ⟨_, rfl, by decide, tc_mem (List.mem_of_getElem? (i := 259) (by decide +kernel)) (by decide +kernel)⟩
theorem fl_X4_40 : tc_FL RX4 40 8 5 := ⟨_, rfl, by decide, tc_mem (List.mem_of_getElem? (i := 198) (by decide +kernel)) (by decide +kernel)⟩
theorem fl_X4_45 : tc_FL RX4 45 9 7 := ⟨_, rfl, by decide, tc_mem (List.mem_of_getElem? (i := 293) (by decide +kernel)) (by decide +kernel)⟩
theorem fl_X4_48 : tc_FL RX4 48 9 8 := ⟨_, rfl, by decide, tc_mem (List.mem_of_getElem? (i := 299) (by decide +kernel)) (by decide +kernel)⟩
theorem fl_X4_57 : tc_FL RX4 57 1 1 := ⟨_, rfl, by decide, tc_mem (List.mem_of_getElem? (i := 398) (by decide +kernel)) (by decide +kernel)⟩
theorem fl_X4_60 : tc_FL RX4 60 8 3 := ⟨_, rfl, by decide, tc_mem (List.mem_of_getElem? (i := 190) (by decide +kernel)) (by decide +kernel)⟩
theorem fl_X4_71 : tc_FL RX4 71 9 10 := ⟨_, rfl, by decide, tc_mem (List.mem_of_getElem? (i := 308) (by decide +kernel)) (by decide +kernel)⟩
theorem fl_X4_74 : tc_FL RX4 74 8 2 := ⟨_, rfl, by decide, tc_mem (List.mem_of_getElem? (i := 186) (by decide +kernel)) (by decide +kernel)⟩
theorem fl_X4_77 : tc_FL RX4 77 9 1 := ⟨_, rfl, by decide, tc_mem (List.mem_of_getElem? (i := 264) (by decide +kernel)) (by decide +kernel)⟩
theorem fl_X4_80 : tc_FL RX4 80 1 2 := ⟨_, rfl, by decide, tc_mem (List.mem_of_getElem? (i := 402) (by decide +kernel)) (by decide +kernel)⟩
theorem fl_X4_83 : tc_FL RX4 83 1 0 := ⟨_, rfl, by decide, tc_mem (List.mem_of_getElem? (i := 396) (by decide +kernel)) (by decide +kernel)⟩
theorem fl_X4_86 : tc_FL RX4 86 9 6 := ⟨_, rfl, by decide, tc_mem (List.mem_of_getElem? (i := 289) (by decide +kernel)) (by decide +kernel)⟩
theorem fl_X4_89 : tc_FL RX4 89 9 16 := ⟨_, rfl, by decide, tc_mem (List.mem_of_getElem? (i := 326) (by decide +kernel)) (by decide +kernel)⟩
theorem fl_X4_9 : tc_FL RX4 9 4 1 := ⟨_, rfl, by decide, tc_mem (List.mem_of_getElem? (i := 433) (by decide +kernel)) (by decide +kernel)⟩
theorem fl_X4_98 : tc_FL RX4 98 8 1 := ⟨_, rfl, by decide, tc_mem (List.mem_of_getElem? (i := 180) (by decide +kernel)) (by decide +kernel)⟩
theorem fl_X5_15 : tc_FL RX5 15 5 1 := ⟨_, rfl, by decide, tc_mem (List.mem_of_getElem? (i := 509) (by decide +kernel)) (by decide +kernel)⟩
theorem fl_X5_18 : tc_FL RX5 18 5 2 := ⟨_, rfl, by decide, tc_mem (List.mem_of_getElem? (i := 511) (by decide +kernel)) (by decide +kernel)⟩
theorem fl_X5_21 : tc_FL RX5 21 9 0 := ⟨_, rfl, by decide, tc_mem (List.mem_of_getElem? (i := 256) (by decide +kernel)) (by decide +kernel)⟩
theorem fl_X5_27 : tc_FL RX5 27 8 0 := ⟨_, rfl, by decide, tc_mem (List.mem_of_getElem? (i := 169) (by decide +kernel)) (by decide +kernel)⟩
theorem fl_X5_33 : tc_FL RX5 33 9 2 := ⟨_, rfl, by decide, tc_mem (List.mem_of_getElem? (i := 270) (by decide +kernel)) (by decide +kernel)⟩
theorem fl_X5_36 : tc_FL RX5 36 9 3 := ⟨_, rfl, by decide, tc_mem (List.mem_of_getElem? (i := 276) (by decide +kernel)) (by decide +kernel)⟩
theorem fl_X5_39 : tc_FL RX5 39 9 7 := ⟨_, rfl, by decide, tc_mem (List.mem_of_getElem? (i := 294) (by decide +kernel)) (by decide +kernel)⟩
theorem fl_X5_42 : tc_FL RX5 42 9 8 := ⟨_, rfl, by decide, tc_mem (List.mem_of_getElem? (i := 300) (by decide +kernel)) (by decide +kernel)⟩
theorem fl_X5_49 : tc_FL RX5 49 9 9 := ⟨_, rfl, by decide, tc_mem (List.mem_of_getElem? (i := 305) (by decide +kernel)) (by decide +kernel)⟩
theorem fl_X5_9 : tc_FL RX5 9 5 0 := ⟨_, rfl, by decide, tc_mem (List.mem_of_getElem? (i := 507) (by decide +kernel)) (by decide +kernel)⟩
theorem fl_X6_110 : tc_FL RX6 110 6 13 := ⟨_, rfl, by decide, tc_mem (List.mem_of_getElem? (i := 558) (by decide +kernel)) (by decide +kernel)⟩
theorem fl_X6_113 : tc_FL RX6 113 8 0 := ⟨_, rfl, by decide, tc_mem (List.mem_of_getElem? (i := 173) (by decide +kernel)) (by decide +kernel)⟩
theorem fl_X6_116 : tc_FL RX6 116 8 1 := ⟨_, rfl, by decide, tc_mem (List.mem_of_getElem? (i := 181) (by decide +kernel)) (by decide +kernel)⟩
theorem fl_X6_119 : tc_FL RX6 119 8 2 := ⟨_, rfl, by decide, tc_mem (List.mem_of_getElem? (i := 187) (by decide +kernel)) (by decide +kernel)⟩
theorem fl_X6_12 : tc_FL RX6 12 6 2 := ⟨_, rfl, by decide, tc_mem (List.mem_of_getElem? (i := 547) (by decide +kernel)) (by decide +kernel)⟩
theorem fl_X6_122 : tc_FL RX6 122 8 3 := ⟨_, rfl, by decide, tc_mem (List.mem_of_getElem? (i := 191) (by decide +kernel)) (by decide +kernel)⟩
theorem fl_X6_125 : tc_FL RX6 125 8 4 := ⟨_, rfl, by decide, tc_mem (List.mem_of_getElem? (i := 195) (by decide +kernel)) (by decide +kernel)⟩
theorem fl_X6_128 : tc_FL RX6 128 8 11 := ⟨_, rfl, by decide, tc_mem (List.mem_of_getElem? (i := 220) (by decide +kernel)) (by decide +kernel)⟩
theorem fl_X6_132 : tc_FL RX6 132 2 0 := ⟨_, rfl, by decide, tc_mem (List.mem_of_getElem? (i := 153) (by decide +kernel)) (by decide +kernel)⟩
theorem fl_X6_141 : tc_FL RX6 141 8 5 := ⟨_, rfl, by decide, tc_mem (List.mem_of_getElem? (i := 199) (by decide +kernel)) (by decide +kernel)⟩
theorem fl_X6_144 : tc_FL RX6 144 8 6 := ⟨_, rfl, by decide, tc_mem (List.mem_of_getElem? (i := 203) (by decide +kernel)) (by decide +kernel)⟩
theorem fl_X6_147 : tc_FL RX6 147 8 9 := ⟨_, rfl, by decide, tc_mem (List.mem_of_getElem? (i := 212) (by decide +kernel)) (by decide +kernel)⟩
theorem fl_X6_150 : tc_FL RX6 150 8 10 := ⟨_, rfl, by decide, tc_mem (List.mem_of_getElem? (i := 215) (by decide +kernel)) (by decide +kernel)⟩
theorem fl_X6_157 : tc_FL RX6 157 8 7 := ⟨_, rfl, by decide, tc_mem (List.mem_of_getElem? (i := 206) (by decide +kernel)) (by decide +kernel)⟩
theorem fl_X6_160 : tc_FL RX6 160 8 8 := ⟨_, rfl, by decide, tc_mem (List.mem_of_getElem? (i := 209) (by decide +kernel)) (by decide +kernel)⟩
theorem fl_X6_163 : tc_FL RX6 163 6 11 := ⟨_, rfl, by decide, tc_mem (List.mem_of_getElem? (i := 556) (by decide +kernel)) (by decide +kernel)⟩
theorem fl_X6_170 : tc_FL RX6 170 6 12 := ⟨_, rfl, by decide, tc_mem (List.mem_of_getElem? (i := 557) (by decide +kernel)) (by decide +kernel)⟩
theorem fl_X6_18 : tc_FL RX6 18 6 3 := ⟨_, rfl, by decide, tc_mem (List.mem_of_getElem? (i := 548) (by decide +kernel)) (by decide +kernel)⟩
theorem fl_X6_22 : tc_FL RX6 22 6 4 := ⟨_, rfl, by decide, tc_mem (List.mem_of_getElem? (i := 549) (by decide +kernel)) (by decide +kernel)⟩
theorem fl_X6_25 : tc_FL RX6 25 6 5 := ⟨_, rfl, by decide, tc_mem (List.mem_of_getElem? (i := 550) (by decide +kernel)) (by decide +kernel)⟩
theorem fl_X6_28 : tc_FL RX6 28 6 7 := ⟨_, rfl, by decide, tc_mem (List.mem_of_getElem? (i := 552) (by decide +kernel)) (by decide +kernel)⟩
theorem fl_X6_38 : tc_FL RX6 38 6 8 := ⟨_, rfl, by decide, tc_mem (List.mem_of_getElem? (i := 553) (by decide +kernel)) (by decide +kernel)⟩
theorem fl_X6_42 : tc_FL RX6 42 6 0 := ⟨_, rfl, by decide, tc_mem (List.mem_of_getElem? (i := 543) (by decide +kernel)) (by decide +kernel)⟩
theorem fl_X6_45 : tc_FL RX6 45 6 1 := ⟨_, rfl, by decide, tc_mem (List.mem_of_getElem? (i := 545) (by decide +kernel)) (by decide +kernel)⟩
theorem fl_X6_48 : tc_FL RX6 48 6 6 := ⟨_, rfl, by decide, tc_mem (List.mem_of_getElem? (i := 551) (by decide +kernel)) (by decide +kernel)⟩
theorem fl_X6_54 : tc_FL RX6 54 6 9 := ⟨_, rfl, by decide, tc_mem (List.mem_of_getElem? (i := 554) (by decide +kernel)) (by decide +kernel)⟩
theorem fl_X6_60 : tc_FL RX6 60 6 10 := ⟨_, rfl, by decide, tc_mem (List.mem_of_getElem? (i := 555) (by decide +kernel)) (by decide +kernel)⟩
theorem fl_X7_15 : tc_FL RX7 15 7 2 := ⟨_, rfl, by decide, tc_mem (List.mem_of_getElem? (i := 451) (by decide +kernel)) (by decide +kernel)⟩
theorem fl_X7_19 : tc_FL RX7 19 7 3 := ⟨_, rfl, by decide, tc_mem (List.mem_of_getElem? (i := 453) (by decide +kernel)) (by decide +kernel)⟩
theorem fl_X7_22 : tc_FL RX7 22 7 4 := ⟨_, rfl, by decide, tc_mem (List.mem_of_getElem? (i := 456) (by decide +kernel)) (by decide +kernel)⟩
theorem fl_X7_25 : tc_FL RX7 25 7 6 := ⟨_, rfl, by decide, tc_mem (List.mem_of_getElem? (i := 462) (by decide +kernel)) (by decide +kernel)⟩
theorem fl_X7_28 : tc_FL RX7 28 9 5 := ⟨_, rfl, by decide, tc_mem (List.mem_of_getElem? (i := 285) (by decide +kernel)) (by decide +kernel)⟩
theorem fl_X7_33 : tc_FL RX7 33 9 3 := ⟨_, rfl, by decide, tc_mem (List.mem_of_getElem? (i := 275) (by decide +kernel)) (by decide +kernel)⟩
theorem fl_X7_36 : tc_FL RX7 36 7 1 := ⟨_, rfl, by decide, tc_mem (List.mem_of_getElem? (i := 448) (by decide +kernel)) (by decide +kernel)⟩
theorem fl_X7_40 : tc_FL RX7 40 9 2 := ⟨_, rfl, by decide, tc_mem (List.mem_of_getElem? (i := 269) (by decide +kernel)) (by decide +kernel)⟩
theorem fl_X7_53 : tc_FL RX7 53 7 5 := ⟨_, rfl, by decide, tc_mem (List.mem_of_getElem? (i := 459) (by decide +kernel)) (by decide +kernel)⟩
theorem fl_X7_60 : tc_FL RX7 60 9 0 := ⟨_, rfl, by decide, tc_mem (List.mem_of_getElem? (i := 261) (by decide +kernel)) (by decide +kernel)⟩
theorem fl_X7_64 : tc_FL RX7 64 8 0 := ⟨_, rfl, by decide, tc_mem (List.mem_of_getElem? (i := 171) (by decide +kernel)) (by decide +kernel)⟩
theorem fl_X7_69 : tc_FL RX7 69 8 1 := ⟨_, rfl, by decide, tc_mem (List.mem_of_getElem? (i := 179) (by decide +kernel)) (by decide +kernel)⟩
theorem fl_X7_80 : tc_FL RX7 80 9 7 := ⟨_, rfl, by decide, tc_mem (List.mem_of_getElem? (i := 296) (by decide +kernel)) (by decide +kernel)⟩
theorem fl_X7_83 : tc_FL RX7 83 9 8 := ⟨_, rfl, by decide, tc_mem (List.mem_of_getElem? (i := 302) (by decide +kernel)) (by decide +kernel)⟩
theorem fl_X7_9 : tc_FL RX7 9 7 0 := ⟨_, rfl, by decide, tc_mem (List.mem_of_getElem? (i := 445) (by decide +kernel)) (by decide +kernel)⟩
theorem fl_X8_12 : tc_FL RX8 12 8 11 := ⟨_, rfl, by decide, tc_mem (List.mem_of_getElem? (i := 217) (by decide +kernel)) (by decide +kernel)⟩
theorem fl_X8_21 : tc_FL RX8 21 8 0 := ⟨_, rfl, by decide, tc_mem (List.mem_of_getElem? (i := 168) (by decide +kernel)) (by decide +kernel)⟩
theorem fl_X8_25 : tc_FL RX8 25 8 1 := ⟨_, rfl, by decide, tc_mem (List.mem_of_getElem? (i := 177) (by decide +kernel)) (by decide +kernel)⟩
theorem fl_X8_28 : tc_FL RX8 28 8 2 := ⟨_, rfl, by decide, tc_mem (List.mem_of_getElem? (i := 185) (by decide +kernel)) (by decide +kernel)⟩
theorem fl_X8_31 : tc_FL RX8 31 8 3 := ⟨_, rfl, by decide, tc_mem (List.mem_of_getElem? (i := 189) (by decide +kernel)) (by decide +kernel)⟩
theorem fl_X8_34 : tc_FL RX8 34 8 4 := ⟨_, rfl, by decide, tc_mem (List.mem_of_getElem? (i := 193) (by decide +kernel)) (by decide +kernel)⟩
theorem fl_X8_37 : tc_FL RX8 37 8 5 := ⟨_, rfl, by decide, tc_mem (List.mem_of_getElem? (i := 197) (by decide +kernel)) (by decide +kernel)⟩
theorem fl_X8_40 : tc_FL RX8 40 8 6 := ⟨_, rfl, by decide, tc_mem (List.mem_of_getElem? (i := 201) (by decide +kernel)) (by decide +kernel)⟩
theorem fl_X8_47 : tc_FL RX8 47 2 0 := ⟨_, rfl, by decide, tc_mem (List.mem_of_getElem? (i := 151) (by decide +kernel)) (by decide +kernel)⟩
theorem fl_X8_50 : tc_FL RX8 50 8 7 := ⟨_, rfl, by decide, tc_mem (List.mem_of_getElem? (i := 205) (by decide +kernel)) (by decide +kernel)⟩
theorem fl_X8_53 : tc_FL RX8 53 8 8 := ⟨_, rfl, by decide, tc_mem (List.mem_of_getElem? (i := 208) (by decide +kernel)) (by decide +kernel)⟩
theorem fl_X8_56 : tc_FL RX8 56 8 9 := ⟨_, rfl, by decide, tc_mem (List.mem_of_getElem? (i := 211) (by decide +kernel)) (by decide +kernel)⟩
theorem fl_X8_59 : tc_FL RX8 59 8 10 := ⟨_, rfl, by decide, tc_mem (List.mem_of_getElem? (i := 214) (by decide +kernel)) (by decide +kernel)⟩
theorem fl_X9_101 : tc_FL RX9 101 8 0 := ⟨_, rfl, by decide, tc_mem (List.mem_of_getElem? (i := 175) (by decide +kernel)) (by decide +kernel)⟩
theorem fl_X9_12 : tc_FL RX9 12 9 0 := ⟨_, rfl, by decide, tc_mem (List.mem_of_getElem? (i := 255) (by decide +kernel)) (by decide +kernel)⟩
theorem fl_X9_18 : tc_FL RX9 18 9 9 := ⟨_, rfl, by decide, tc_mem (List.mem_of_getElem? (i := 303) (by decide +kernel)) (by decide +kernel)⟩
theorem fl_X9_22 : tc_FL RX9 22 9 1 := ⟨_, rfl, by decide, tc_mem (List.mem_of_getElem? (i := 263) (by decide +kernel)) (by decide +kernel)⟩
theorem fl_X9_26 : tc_FL RX9 26 9 2 := ⟨_, rfl, by decide, tc_mem (List.mem_of_getElem? (i := 267) (by decide +kernel)) (by decide +kernel)⟩
theorem fl_X9_29 : tc_FL RX9 29 9 3 := ⟨_, rfl, by decide, tc_mem (List.mem_of_getElem? (i := 274) (by decide +kernel)) (by decide +kernel)⟩
theorem fl_X9_32 : tc_FL RX9 32 9 4 := ⟨_, rfl, by decide, tc_mem (List.mem_of_getElem? (i := 281) (by decide +kernel)) (by decide +kernel)⟩
theorem fl_X9_35 : tc_FL RX9 35 9 5 := ⟨_, rfl, by decide, tc_mem (List.mem_of_getElem? (i := 284) (by decide +kernel)) (by decide +kernel)⟩
theorem fl_X9_38 : tc_FL RX9 38 9 6 := ⟨_, rfl, by decide, tc_mem (List.mem_of_getElem? (i := 288) (by decide +kernel)) (by decide +kernel)⟩
theorem fl_X9_41 : tc_FL RX9 41 9 7 := ⟨_, rfl, by decide, tc_mem (List.mem_of_getElem? (i := 292) (by decide +kernel)) (by decide +kernel)⟩
theorem fl_X9_44 : tc_FL RX9 44 9 8 := ⟨_, rfl, by decide, tc_mem (List.mem_of_getElem? (i := 298) (by decide +kernel)) (by decide +kernel)⟩
theorem fl_X9_54 : tc_FL RX9 54 9 11 := ⟨_, rfl, by decide, tc_mem (List.mem_of_getElem? (i := 312) (by decide +kernel)) (by decide +kernel)⟩
theorem fl_X9_57 : tc_FL RX9 57 9 12 := ⟨_, rfl, by decide, tc_mem (List.mem_of_getElem? (i := 314) (by decide +kernel)) (by decide +kernel)⟩
theorem fl_X9_60 : tc_FL RX9 60 9 13 := ⟨_, rfl, by decide, tc_mem (List.mem_of_getElem? (i := 317) (by decide +kernel)) (by decide +kernel)⟩
theorem fl_X9_63 : tc_FL RX9 63 9 14 := ⟨_, rfl, by decide, tc_mem (List.mem_of_getElem? (i := 320) (by decide +kernel)) (by decide +kernel)⟩
theorem fl_X9_66 : tc_FL RX9 66 9 15 := ⟨_, rfl, by decide, tc_mem (List.mem_of_getElem? (i := 323) (by decide +kernel)) (by decide +kernel)⟩
theorem fl_X9_69 : tc_FL RX9 69 9 16 := ⟨_, rfl, by decide, tc_mem (List.mem_of_getElem? (i := 325) (by decide +kernel)) (by decide +kernel)⟩
theorem fl_X9_77 : tc_FL RX9 77 9 10 := ⟨_, rfl, by decide, tc_mem (List.mem_of_getElem? (i := 309) (by decide +kernel)) (by decide +kernel)⟩
theorem fl_X9_86 : tc_FL RX9 86 8 11 := ⟨_, rfl, by decide, tc_mem (List.mem_of_getElem? (i := 218) (by decide +kernel)) (by decide +kernel)⟩
theorem fl_X9_90 : tc_FL RX9 90 2 0 := ⟨_, rfl, by decide, tc_mem (List.mem_of_getElem? (i := 152) (by decide +kernel)) (by decide +kernel)⟩
theorem fl_X9_98 : tc_FL RX9 98 8 1 := ⟨_, rfl, by decide, tc_mem (List.mem_of_getElem? (i := 182) (by decide +kernel)) (by decide +kernel)⟩
theorem jv_J0_charAt_5068e : Cond.instanceMethod yJ0_charAt_5068e ∈ tc_T ∧ Cond.selects "java/lang/String" yJ0_charAt_5068e yJ0_charAt_5068e ∈ tc_T := ⟨tc_mem (List.mem_of_getElem? (i := 674) (by decide +kernel)) (by decide +kernel), tc_mem (List.mem_of_getElem? (i := 675) (by decide +kernel)) (by decide +kernel)⟩
theorem jv_J0_coder_7d493 : Cond.instanceMethod yJ0_coder_7d493 ∈ tc_T ∧ Cond.selects "java/lang/String" yJ0_coder_7d493 yJ0_coder_7d493 ∈ tc_T := ⟨tc_mem (List.mem_of_getElem? (i := 668) (by decide +kernel)) (by decide +kernel), tc_mem (List.mem_of_getElem? (i := 669) (by decide +kernel)) (by decide +kernel)⟩
theorem jv_J0_isLatin1_aae02 : Cond.instanceMethod yJ0_isLatin1_aae02 ∈ tc_T ∧ Cond.selects "java/lang/String" yJ0_isLatin1_aae02 yJ0_isLatin1_aae02 ∈ tc_T := ⟨tc_mem (List.mem_of_getElem? (i := 678) (by decide +kernel)) (by decide +kernel), tc_mem (List.mem_of_getElem? (i := 679) (by decide +kernel)) (by decide +kernel)⟩
theorem jv_J0_length_8abf5 : Cond.instanceMethod yJ0_length_8abf5 ∈ tc_T ∧ Cond.selects "java/lang/String" yJ0_length_8abf5 yJ0_length_8abf5 ∈ tc_T := ⟨tc_mem (List.mem_of_getElem? (i := 664) (by decide +kernel)) (by decide +kernel), tc_mem (List.mem_of_getElem? (i := 665) (by decide +kernel)) (by decide +kernel)⟩
theorem wm_max_s : Cond.static Lib.Math.max.name ∈ tc_T := tc_mem (List.mem_of_getElem? (i := 819) (by decide +kernel)) (by decide +kernel)
set_option maxRecDepth 100000 in
theorem wm_max_c : Cond.code Lib.Math.max.name Lib.Math.max.code 2 (some .int) ∈ tc_T := tc_mem (List.mem_of_getElem? (i := 820) rfl) (by decide +kernel)
theorem wm_min_s : Cond.static Lib.Math.min.name ∈ tc_T := tc_mem (List.mem_of_getElem? (i := 640) (by decide +kernel)) (by decide +kernel)
set_option maxRecDepth 100000 in
theorem wm_min_c : Cond.code Lib.Math.min.name Lib.Math.min.code 2 (some .int) ∈ tc_T := tc_mem (List.mem_of_getElem? (i := 641) rfl) (by decide +kernel)
theorem ml_J0_1059 : Cond.methodLink RJ0 1059 yJ3_checkIndex_8e157 ∈ tc_T := tc_mem (List.mem_of_getElem? (i := 689) (by decide +kernel)) (by decide +kernel)
theorem ml_J0_335 : Cond.methodLink RJ0 335 yJ0_coder_7d493 ∈ tc_T := tc_mem (List.mem_of_getElem? (i := 667) (by decide +kernel)) (by decide +kernel)
theorem ml_J0_492 : Cond.methodLink RJ0 492 yJ0_isLatin1_aae02 ∈ tc_T := tc_mem (List.mem_of_getElem? (i := 677) (by decide +kernel)) (by decide +kernel)
theorem ml_J0_495 : Cond.methodLink RJ0 495 yJ1_charAt_3b067 ∈ tc_T := tc_mem (List.mem_of_getElem? (i := 681) (by decide +kernel)) (by decide +kernel)
theorem ml_J1_9 : Cond.methodLink RJ1 9 yJ0_checkIndex_df160 ∈ tc_T := tc_mem (List.mem_of_getElem? (i := 684) (by decide +kernel)) (by decide +kernel)
theorem ml_X0_108 : Cond.methodLink RX0 108 yX8_drawHashes ∈ tc_T := tc_mem (List.mem_of_getElem? (i := 1117) (by decide +kernel)) (by decide +kernel)
theorem ml_X0_28 : Cond.methodLink RX0 28 yX8_copyFrom ∈ tc_T := tc_mem (List.mem_of_getElem? (i := 1075) (by decide +kernel)) (by decide +kernel)
theorem ml_X0_34 : Cond.methodLink RX0 34 yX0_leftOut ∈ tc_T := tc_mem (List.mem_of_getElem? (i := 1080) (by decide +kernel)) (by decide +kernel)
theorem ml_X0_38 : Cond.methodLink RX0 38 yX9_clear ∈ tc_T := tc_mem (List.mem_of_getElem? (i := 1084) (by decide +kernel)) (by decide +kernel)
theorem ml_X0_41 : Cond.methodLink RX0 41 yX0_layKey ∈ tc_T := tc_mem (List.mem_of_getElem? (i := 1085) (by decide +kernel)) (by decide +kernel)
theorem ml_X0_53 : Cond.methodLink RX0 53 yX9_takeInHand ∈ tc_T := tc_mem (List.mem_of_getElem? (i := 1089) (by decide +kernel)) (by decide +kernel)
theorem ml_X0_57 : Cond.methodLink RX0 57 yX9_openBucketFor ∈ tc_T := tc_mem (List.mem_of_getElem? (i := 1090) (by decide +kernel)) (by decide +kernel)
theorem ml_X0_60 : Cond.methodLink RX0 60 yX9_emptyPlaceIn ∈ tc_T := tc_mem (List.mem_of_getElem? (i := 1091) (by decide +kernel)) (by decide +kernel)
theorem ml_X0_63 : Cond.methodLink RX0 63 yX9_move ∈ tc_T := tc_mem (List.mem_of_getElem? (i := 1092) (by decide +kernel)) (by decide +kernel)
theorem ml_X0_67 : Cond.methodLink RX0 67 yX4_seekFor ∈ tc_T := tc_mem (List.mem_of_getElem? (i := 1093) (by decide +kernel)) (by decide +kernel)
theorem ml_X0_73 : Cond.methodLink RX0 73 yX4_follow ∈ tc_T := tc_mem (List.mem_of_getElem? (i := 1094) (by decide +kernel)) (by decide +kernel)
theorem ml_X0_77 : Cond.methodLink RX0 77 yX9_emptyHand ∈ tc_T := tc_mem (List.mem_of_getElem? (i := 1095) (by decide +kernel)) (by decide +kernel)
theorem ml_X0_80 : Cond.methodLink RX0 80 yX0_takeSettings ∈ tc_T := tc_mem (List.mem_of_getElem? (i := 1109) (by decide +kernel)) (by decide +kernel)
theorem ml_X0_84 : Cond.methodLink RX0 84 yX0_mostOf ∈ tc_T := tc_mem (List.mem_of_getElem? (i := 1110) (by decide +kernel)) (by decide +kernel)
theorem ml_X0_87 : Cond.methodLink RX0 87 yX0_change ∈ tc_T := tc_mem (List.mem_of_getElem? (i := 1113) (by decide +kernel)) (by decide +kernel)
theorem ml_X0_90 : Cond.methodLink RX0 90 yX0_allFit ∈ tc_T := tc_mem (List.mem_of_getElem? (i := 1118) (by decide +kernel)) (by decide +kernel)
theorem ml_X1_40 : Cond.methodLink RX1 40 yX1_begin ∈ tc_T := tc_mem (List.mem_of_getElem? (i := 806) (by decide +kernel)) (by decide +kernel)
theorem ml_X1_62 : Cond.methodLink RX1 62 yX1_trace ∈ tc_T := tc_mem (List.mem_of_getElem? (i := 810) (by decide +kernel)) (by decide +kernel)
theorem ml_X10_31 : Cond.methodLink RX10 31 yX9_copyFrom ∈ tc_T := tc_mem (List.mem_of_getElem? (i := 1185) (by decide +kernel)) (by decide +kernel)
theorem ml_X10_35 : Cond.methodLink RX10 35 arraycopyName ∈ tc_T := tc_mem (List.mem_of_getElem? (i := 1186) (by decide +kernel)) (by decide +kernel)
theorem ml_X11_101 : Cond.methodLink RX11 101 yX6_enterAll ∈ tc_T := tc_mem (List.mem_of_getElem? (i := 746) (by decide +kernel)) (by decide +kernel)
theorem ml_X11_116 : Cond.methodLink RX11 116 yX9_copyFrom ∈ tc_T := tc_mem (List.mem_of_getElem? (i := 878) (by decide +kernel)) (by decide +kernel)
theorem ml_X11_120 : Cond.methodLink RX11 120 yX9_entries ∈ tc_T := tc_mem (List.mem_of_getElem? (i := 879) (by decide +kernel)) (by decide +kernel)
theorem ml_X11_124 : Cond.methodLink RX11 124 yX11_isNumber ∈ tc_T := tc_mem (List.mem_of_getElem? (i := 895) (by decide +kernel)) (by decide +kernel)
theorem ml_X11_127 : Cond.methodLink RX11 127 yX3_enter ∈ tc_T := tc_mem (List.mem_of_getElem? (i := 898) (by decide +kernel)) (by decide +kernel)
theorem ml_X11_131 : Cond.methodLink RX11 131 yX9_locate ∈ tc_T := tc_mem (List.mem_of_getElem? (i := 903) (by decide +kernel)) (by decide +kernel)
theorem ml_X11_137 : Cond.methodLink RX11 137 yX9_readsTill ∈ tc_T := tc_mem (List.mem_of_getElem? (i := 904) (by decide +kernel)) (by decide +kernel)
theorem ml_X11_145 : Cond.methodLink RX11 145 yX3_remove ∈ tc_T := tc_mem (List.mem_of_getElem? (i := 916) (by decide +kernel)) (by decide +kernel)
theorem ml_X11_149 : Cond.methodLink RX11 149 yX4_emptyStash ∈ tc_T := tc_mem (List.mem_of_getElem? (i := 940) (by decide +kernel)) (by decide +kernel)
theorem ml_X11_153 : Cond.methodLink RX11 153 yX11_areHashes ∈ tc_T := tc_mem (List.mem_of_getElem? (i := 945) (by decide +kernel)) (by decide +kernel)
theorem ml_X11_157 : Cond.methodLink RX11 157 yX3_rehashBy ∈ tc_T := tc_mem (List.mem_of_getElem? (i := 948) (by decide +kernel)) (by decide +kernel)
theorem ml_X11_161 : Cond.methodLink RX11 161 yX3_layBatch ∈ tc_T := tc_mem (List.mem_of_getElem? (i := 957) (by decide +kernel)) (by decide +kernel)
theorem ml_X11_165 : Cond.methodLink RX11 165 yX7_peelOff ∈ tc_T := tc_mem (List.mem_of_getElem? (i := 987) (by decide +kernel)) (by decide +kernel)
theorem ml_X11_180 : Cond.methodLink RX11 180 yX11_isLoad ∈ tc_T := tc_mem (List.mem_of_getElem? (i := 992) (by decide +kernel)) (by decide +kernel)
theorem ml_X11_183 : Cond.methodLink RX11 183 yX3_loadBy ∈ tc_T := tc_mem (List.mem_of_getElem? (i := 995) (by decide +kernel)) (by decide +kernel)
theorem ml_X11_189 : Cond.methodLink RX11 189 yX9_bucketOf ∈ tc_T := tc_mem (List.mem_of_getElem? (i := 1006) (by decide +kernel)) (by decide +kernel)
theorem ml_X11_192 : Cond.methodLink RX11 192 yX9_startOf ∈ tc_T := tc_mem (List.mem_of_getElem? (i := 1007) (by decide +kernel)) (by decide +kernel)
theorem ml_X11_201 : Cond.methodLink RX11 201 yX9_entriesTill ∈ tc_T := tc_mem (List.mem_of_getElem? (i := 1008) (by decide +kernel)) (by decide +kernel)
theorem ml_X11_204 : Cond.methodLink RX11 204 yX9_indexOf ∈ tc_T := tc_mem (List.mem_of_getElem? (i := 1016) (by decide +kernel)) (by decide +kernel)
theorem ml_X11_210 : Cond.methodLink RX11 210 yX9_otherOf ∈ tc_T := tc_mem (List.mem_of_getElem? (i := 1020) (by decide +kernel)) (by decide +kernel)
theorem ml_X11_217 : Cond.methodLink RX11 217 yX8_secondOf ∈ tc_T := tc_mem (List.mem_of_getElem? (i := 1028) (by decide +kernel)) (by decide +kernel)
theorem ml_X11_222 : Cond.methodLink RX11 222 yX8_firstOf ∈ tc_T := tc_mem (List.mem_of_getElem? (i := 1029) (by decide +kernel)) (by decide +kernel)
theorem ml_X11_225 : Cond.methodLink RX11 225 yX1_seek ∈ tc_T := tc_mem (List.mem_of_getElem? (i := 1034) (by decide +kernel)) (by decide +kernel)
theorem ml_X11_233 : Cond.methodLink RX11 233 yX11_answerFor ∈ tc_T := tc_mem (List.mem_of_getElem? (i := 1039) (by decide +kernel)) (by decide +kernel)
theorem ml_X11_239 : Cond.methodLink RX11 239 yX5_join ∈ tc_T := tc_mem (List.mem_of_getElem? (i := 1047) (by decide +kernel)) (by decide +kernel)
theorem ml_X11_246 : Cond.methodLink RX11 246 yX5_bits ∈ tc_T := tc_mem (List.mem_of_getElem? (i := 1055) (by decide +kernel)) (by decide +kernel)
theorem ml_X11_258 : Cond.methodLink RX11 258 yX5_kindOf ∈ tc_T := tc_mem (List.mem_of_getElem? (i := 1059) (by decide +kernel)) (by decide +kernel)
theorem ml_X11_261 : Cond.methodLink RX11 261 yX5_entriesIn ∈ tc_T := tc_mem (List.mem_of_getElem? (i := 1063) (by decide +kernel)) (by decide +kernel)
theorem ml_X11_264 : Cond.methodLink RX11 264 yX0_takeSettings ∈ tc_T := tc_mem (List.mem_of_getElem? (i := 1071) (by decide +kernel)) (by decide +kernel)
theorem ml_X11_267 : Cond.methodLink RX11 267 yX0_allFit ∈ tc_T := tc_mem (List.mem_of_getElem? (i := 1076) (by decide +kernel)) (by decide +kernel)
theorem ml_X11_271 : Cond.methodLink RX11 271 yX0_leftOut ∈ tc_T := tc_mem (List.mem_of_getElem? (i := 1100) (by decide +kernel)) (by decide +kernel)
theorem ml_X11_274 : Cond.methodLink RX11 274 yX0_leastOf ∈ tc_T := tc_mem (List.mem_of_getElem? (i := 1105) (by decide +kernel)) (by decide +kernel)
theorem ml_X11_277 : Cond.methodLink RX11 277 yX7_gather ∈ tc_T := tc_mem (List.mem_of_getElem? (i := 1123) (by decide +kernel)) (by decide +kernel)
theorem ml_X11_287 : Cond.methodLink RX11 287 yX11_tell ∈ tc_T := tc_mem (List.mem_of_getElem? (i := 1128) (by decide +kernel)) (by decide +kernel)
theorem ml_X11_293 : Cond.methodLink RX11 293 yX11_imageOf ∈ tc_T := tc_mem (List.mem_of_getElem? (i := 1173) (by decide +kernel)) (by decide +kernel)
theorem ml_X11_300 : Cond.methodLink RX11 300 yX10_copyFrom ∈ tc_T := tc_mem (List.mem_of_getElem? (i := 1181) (by decide +kernel)) (by decide +kernel)
theorem ml_X11_303 : Cond.methodLink RX11 303 yX11_tellOfSettings ∈ tc_T := tc_mem (List.mem_of_getElem? (i := 1132) (by decide +kernel)) (by decide +kernel)
theorem ml_X11_318 : Cond.methodLink RX11 318 yX9_movedInAll ∈ tc_T := tc_mem (List.mem_of_getElem? (i := 1135) (by decide +kernel)) (by decide +kernel)
theorem ml_X11_321 : Cond.methodLink RX11 321 yX9_movedMost ∈ tc_T := tc_mem (List.mem_of_getElem? (i := 1139) (by decide +kernel)) (by decide +kernel)
theorem ml_X11_324 : Cond.methodLink RX11 324 yX9_readsMost ∈ tc_T := tc_mem (List.mem_of_getElem? (i := 1143) (by decide +kernel)) (by decide +kernel)
theorem ml_X11_330 : Cond.methodLink RX11 330 yX5_tangled ∈ tc_T := tc_mem (List.mem_of_getElem? (i := 1148) (by decide +kernel)) (by decide +kernel)
theorem ml_X11_94 : Cond.methodLink RX11 94 yX10_append ∈ tc_T := tc_mem (List.mem_of_getElem? (i := 623) (by decide +kernel)) (by decide +kernel)
theorem ml_X11_97 : Cond.methodLink RX11 97 yX6_read ∈ tc_T := tc_mem (List.mem_of_getElem? (i := 635) (by decide +kernel)) (by decide +kernel)
theorem ml_X12_103 : Cond.methodLink RX12 103 yX12_keyOf ∈ tc_T := tc_mem (List.mem_of_getElem? (i := 1311) (by decide +kernel)) (by decide +kernel)
theorem ml_X12_107 : Cond.methodLink RX12 107 yX12_otherOf ∈ tc_T := tc_mem (List.mem_of_getElem? (i := 1339) (by decide +kernel)) (by decide +kernel)
theorem ml_X12_110 : Cond.methodLink RX12 110 yX12_laysAway ∈ tc_T := tc_mem (List.mem_of_getElem? (i := 1335) (by decide +kernel)) (by decide +kernel)
theorem ml_X12_113 : Cond.methodLink RX12 113 yX12_leads ∈ tc_T := tc_mem (List.mem_of_getElem? (i := 1343) (by decide +kernel)) (by decide +kernel)
theorem ml_X12_116 : Cond.methodLink RX12 116 yX12_moves ∈ tc_T := tc_mem (List.mem_of_getElem? (i := 1351) (by decide +kernel)) (by decide +kernel)
theorem ml_X12_119 : Cond.methodLink RX12 119 yX12_draws ∈ tc_T := tc_mem (List.mem_of_getElem? (i := 1414) (by decide +kernel)) (by decide +kernel)
theorem ml_X12_122 : Cond.methodLink RX12 122 yX12_comesBack ∈ tc_T := tc_mem (List.mem_of_getElem? (i := 1419) (by decide +kernel)) (by decide +kernel)
theorem ml_X12_125 : Cond.methodLink RX12 125 yX12_freeFor ∈ tc_T := tc_mem (List.mem_of_getElem? (i := 1315) (by decide +kernel)) (by decide +kernel)
theorem ml_X12_128 : Cond.methodLink RX12 128 yX12_lays ∈ tc_T := tc_mem (List.mem_of_getElem? (i := 1402) (by decide +kernel)) (by decide +kernel)
theorem ml_X12_132 : Cond.methodLink RX12 132 yX12_chainOf ∈ tc_T := tc_mem (List.mem_of_getElem? (i := 1331) (by decide +kernel)) (by decide +kernel)
theorem ml_X12_135 : Cond.methodLink RX12 135 yX12_opens ∈ tc_T := tc_mem (List.mem_of_getElem? (i := 1347) (by decide +kernel)) (by decide +kernel)
theorem ml_X12_138 : Cond.methodLink RX12 138 yX12_walks ∈ tc_T := tc_mem (List.mem_of_getElem? (i := 1410) (by decide +kernel)) (by decide +kernel)
theorem ml_X12_145 : Cond.methodLink RX12 145 yX12_adds ∈ tc_T := tc_mem (List.mem_of_getElem? (i := 1375) (by decide +kernel)) (by decide +kernel)
theorem ml_X12_148 : Cond.methodLink RX12 148 yX12_comesIn ∈ tc_T := tc_mem (List.mem_of_getElem? (i := 1406) (by decide +kernel)) (by decide +kernel)
theorem ml_X12_152 : Cond.methodLink RX12 152 yX12_lists ∈ tc_T := tc_mem (List.mem_of_getElem? (i := 1371) (by decide +kernel)) (by decide +kernel)
theorem ml_X12_155 : Cond.methodLink RX12 155 yX12_addsNew ∈ tc_T := tc_mem (List.mem_of_getElem? (i := 1470) (by decide +kernel)) (by decide +kernel)
theorem ml_X12_159 : Cond.methodLink RX12 159 yX12_empties ∈ tc_T := tc_mem (List.mem_of_getElem? (i := 1398) (by decide +kernel)) (by decide +kernel)
theorem ml_X12_162 : Cond.methodLink RX12 162 yX12_doAllCome ∈ tc_T := tc_mem (List.mem_of_getElem? (i := 1431) (by decide +kernel)) (by decide +kernel)
theorem ml_X12_166 : Cond.methodLink RX12 166 yX12_lies ∈ tc_T := tc_mem (List.mem_of_getElem? (i := 1466) (by decide +kernel)) (by decide +kernel)
theorem ml_X12_169 : Cond.methodLink RX12 169 yX12_rehashes ∈ tc_T := tc_mem (List.mem_of_getElem? (i := 1525) (by decide +kernel)) (by decide +kernel)
theorem ml_X12_173 : Cond.methodLink RX12 173 yX12_grows ∈ tc_T := tc_mem (List.mem_of_getElem? (i := 1529) (by decide +kernel)) (by decide +kernel)
theorem ml_X12_176 : Cond.methodLink RX12 176 yX12_goesOut ∈ tc_T := tc_mem (List.mem_of_getElem? (i := 1355) (by decide +kernel)) (by decide +kernel)
theorem ml_X12_182 : Cond.methodLink RX12 182 yX12_below ∈ tc_T := tc_mem (List.mem_of_getElem? (i := 1482) (by decide +kernel)) (by decide +kernel)
theorem ml_X12_185 : Cond.methodLink RX12 185 yX12_drops ∈ tc_T := tc_mem (List.mem_of_getElem? (i := 1545) (by decide +kernel)) (by decide +kernel)
theorem ml_X12_188 : Cond.methodLink RX12 188 yX12_puts ∈ tc_T := tc_mem (List.mem_of_getElem? (i := 1521) (by decide +kernel)) (by decide +kernel)
theorem ml_X12_191 : Cond.methodLink RX12 191 yX12_meets ∈ tc_T := tc_mem (List.mem_of_getElem? (i := 1387) (by decide +kernel)) (by decide +kernel)
theorem ml_X12_194 : Cond.methodLink RX12 194 yX12_leftIn ∈ tc_T := tc_mem (List.mem_of_getElem? (i := 1383) (by decide +kernel)) (by decide +kernel)
theorem ml_X12_200 : Cond.methodLink RX12 200 yX12_peelable ∈ tc_T := tc_mem (List.mem_of_getElem? (i := 1379) (by decide +kernel)) (by decide +kernel)
theorem ml_X12_203 : Cond.methodLink RX12 203 yX12_leastLeft ∈ tc_T := tc_mem (List.mem_of_getElem? (i := 1394) (by decide +kernel)) (by decide +kernel)
theorem ml_X12_206 : Cond.methodLink RX12 206 yX12_peelsAll ∈ tc_T := tc_mem (List.mem_of_getElem? (i := 1367) (by decide +kernel)) (by decide +kernel)
theorem ml_X12_209 : Cond.methodLink RX12 209 yX12_hashBy ∈ tc_T := tc_mem (List.mem_of_getElem? (i := 1455) (by decide +kernel)) (by decide +kernel)
theorem ml_X12_212 : Cond.methodLink RX12 212 yX12_otherBy ∈ tc_T := tc_mem (List.mem_of_getElem? (i := 1451) (by decide +kernel)) (by decide +kernel)
theorem ml_X12_215 : Cond.methodLink RX12 215 yX12_laysFar ∈ tc_T := tc_mem (List.mem_of_getElem? (i := 1447) (by decide +kernel)) (by decide +kernel)
theorem ml_X12_218 : Cond.methodLink RX12 218 yX12_asNow ∈ tc_T := tc_mem (List.mem_of_getElem? (i := 1439) (by decide +kernel)) (by decide +kernel)
theorem ml_X12_221 : Cond.methodLink RX12 221 yX12_overBy ∈ tc_T := tc_mem (List.mem_of_getElem? (i := 1443) (by decide +kernel)) (by decide +kernel)
theorem ml_X12_224 : Cond.methodLink RX12 224 yX12_isKey ∈ tc_T := tc_mem (List.mem_of_getElem? (i := 1463) (by decide +kernel)) (by decide +kernel)
theorem ml_X12_227 : Cond.methodLink RX12 227 yX12_drawsBy ∈ tc_T := tc_mem (List.mem_of_getElem? (i := 1478) (by decide +kernel)) (by decide +kernel)
theorem ml_X12_230 : Cond.methodLink RX12 230 yX12_partOf ∈ tc_T := tc_mem (List.mem_of_getElem? (i := 1490) (by decide +kernel)) (by decide +kernel)
theorem ml_X12_233 : Cond.methodLink RX12 233 yX12_membersOf ∈ tc_T := tc_mem (List.mem_of_getElem? (i := 1494) (by decide +kernel)) (by decide +kernel)
theorem ml_X12_236 : Cond.methodLink RX12 236 yX12_bitsOf ∈ tc_T := tc_mem (List.mem_of_getElem? (i := 1498) (by decide +kernel)) (by decide +kernel)
theorem ml_X12_239 : Cond.methodLink RX12 239 yX12_inBucket ∈ tc_T := tc_mem (List.mem_of_getElem? (i := 1501) (by decide +kernel)) (by decide +kernel)
theorem ml_X12_248 : Cond.methodLink RX12 248 yX12_reads ∈ tc_T := tc_mem (List.mem_of_getElem? (i := 1537) (by decide +kernel)) (by decide +kernel)
theorem ml_X12_251 : Cond.methodLink RX12 251 yX12_loads ∈ tc_T := tc_mem (List.mem_of_getElem? (i := 1553) (by decide +kernel)) (by decide +kernel)
theorem ml_X12_254 : Cond.methodLink RX12 254 yX12_bucketOf ∈ tc_T := tc_mem (List.mem_of_getElem? (i := 1561) (by decide +kernel)) (by decide +kernel)
theorem ml_X12_257 : Cond.methodLink RX12 257 yX12_placeOf ∈ tc_T := tc_mem (List.mem_of_getElem? (i := 1565) (by decide +kernel)) (by decide +kernel)
theorem ml_X12_260 : Cond.methodLink RX12 260 yX12_readTo ∈ tc_T := tc_mem (List.mem_of_getElem? (i := 1569) (by decide +kernel)) (by decide +kernel)
theorem ml_X12_263 : Cond.methodLink RX12 263 yX12_would ∈ tc_T := tc_mem (List.mem_of_getElem? (i := 1593) (by decide +kernel)) (by decide +kernel)
theorem ml_X12_266 : Cond.methodLink RX12 266 yX12_entries ∈ tc_T := tc_mem (List.mem_of_getElem? (i := 1618) (by decide +kernel)) (by decide +kernel)
theorem ml_X12_269 : Cond.methodLink RX12 269 yX12_moved ∈ tc_T := tc_mem (List.mem_of_getElem? (i := 1622) (by decide +kernel)) (by decide +kernel)
theorem ml_X12_273 : Cond.methodLink RX12 273 yX12_greatestRead ∈ tc_T := tc_mem (List.mem_of_getElem? (i := 1626) (by decide +kernel)) (by decide +kernel)
theorem ml_X12_276 : Cond.methodLink RX12 276 yX12_parts ∈ tc_T := tc_mem (List.mem_of_getElem? (i := 1610) (by decide +kernel)) (by decide +kernel)
theorem ml_X12_280 : Cond.methodLink RX12 280 yX12_counts ∈ tc_T := tc_mem (List.mem_of_getElem? (i := 1614) (by decide +kernel)) (by decide +kernel)
theorem ml_X12_283 : Cond.methodLink RX12 283 yX12_count ∈ tc_T := tc_mem (List.mem_of_getElem? (i := 1634) (by decide +kernel)) (by decide +kernel)
theorem ml_X12_291 : Cond.methodLink RX12 291 yX12_byteAt ∈ tc_T := tc_mem (List.mem_of_getElem? (i := 1643) (by decide +kernel)) (by decide +kernel)
theorem ml_X12_304 : Cond.methodLink RX12 304 yX12_isLetter ∈ tc_T := tc_mem (List.mem_of_getElem? (i := 1647) (by decide +kernel)) (by decide +kernel)
theorem ml_X12_311 : Cond.methodLink RX12 311 yX12_isDigit ∈ tc_T := tc_mem (List.mem_of_getElem? (i := 1652) (by decide +kernel)) (by decide +kernel)
theorem ml_X12_324 : Cond.methodLink RX12 324 yX12_isGood ∈ tc_T := tc_mem (List.mem_of_getElem? (i := 1657) (by decide +kernel)) (by decide +kernel)
theorem ml_X12_328 : Cond.methodLink RX12 328 yX12_takes ∈ tc_T := tc_mem (List.mem_of_getElem? (i := 1639) (by decide +kernel)) (by decide +kernel)
theorem ml_X12_331 : Cond.methodLink RX12 331 yX12_fails ∈ tc_T := tc_mem (List.mem_of_getElem? (i := 1678) (by decide +kernel)) (by decide +kernel)
theorem ml_X12_334 : Cond.methodLink RX12 334 yX12_alsoWrong ∈ tc_T := tc_mem (List.mem_of_getElem? (i := 1682) (by decide +kernel)) (by decide +kernel)
theorem ml_X12_337 : Cond.methodLink RX12 337 yX12_hasWord ∈ tc_T := tc_mem (List.mem_of_getElem? (i := 1670) (by decide +kernel)) (by decide +kernel)
theorem ml_X12_341 : Cond.methodLink RX12 341 yX12_numeral ∈ tc_T := tc_mem (List.mem_of_getElem? (i := 1674) (by decide +kernel)) (by decide +kernel)
theorem ml_X12_365 : Cond.methodLink RX12 365 yX12_setsNumber ∈ tc_T := tc_mem (List.mem_of_getElem? (i := 1666) (by decide +kernel)) (by decide +kernel)
theorem ml_X12_381 : Cond.methodLink RX12 381 yX12_kickTaken ∈ tc_T := tc_mem (List.mem_of_getElem? (i := 1692) (by decide +kernel)) (by decide +kernel)
theorem ml_X12_387 : Cond.methodLink RX12 387 yX12_fullTaken ∈ tc_T := tc_mem (List.mem_of_getElem? (i := 1700) (by decide +kernel)) (by decide +kernel)
theorem ml_X12_392 : Cond.methodLink RX12 392 yX12_readsHash ∈ tc_T := tc_mem (List.mem_of_getElem? (i := 1709) (by decide +kernel)) (by decide +kernel)
theorem ml_X12_399 : Cond.methodLink RX12 399 yX12_readsHas ∈ tc_T := tc_mem (List.mem_of_getElem? (i := 1715) (by decide +kernel)) (by decide +kernel)
theorem ml_X12_402 : Cond.methodLink RX12 402 yX12_readsLine ∈ tc_T := tc_mem (List.mem_of_getElem? (i := 1661) (by decide +kernel)) (by decide +kernel)
theorem ml_X12_75 : Cond.methodLink RX12 75 yX12_begins ∈ tc_T := tc_mem (List.mem_of_getElem? (i := 1197) (by decide +kernel)) (by decide +kernel)
theorem ml_X12_79 : Cond.methodLink RX12 79 yX12_isIn ∈ tc_T := tc_mem (List.mem_of_getElem? (i := 1391) (by decide +kernel)) (by decide +kernel)
theorem ml_X12_83 : Cond.methodLink RX12 83 yX12_copies ∈ tc_T := tc_mem (List.mem_of_getElem? (i := 1363) (by decide +kernel)) (by decide +kernel)
theorem ml_X12_88 : Cond.methodLink RX12 88 yX12_hashOf ∈ tc_T := tc_mem (List.mem_of_getElem? (i := 1319) (by decide +kernel)) (by decide +kernel)
theorem ml_X12_92 : Cond.methodLink RX12 92 yX12_cell ∈ tc_T := tc_mem (List.mem_of_getElem? (i := 1308) (by decide +kernel)) (by decide +kernel)
theorem ml_X12_95 : Cond.methodLink RX12 95 yX12_isEntry ∈ tc_T := tc_mem (List.mem_of_getElem? (i := 1327) (by decide +kernel)) (by decide +kernel)
theorem ml_X12_99 : Cond.methodLink RX12 99 yX12_emptyIn ∈ tc_T := tc_mem (List.mem_of_getElem? (i := 1323) (by decide +kernel)) (by decide +kernel)
theorem ml_X3_100 : Cond.methodLink RX3 100 yX3_layAnew ∈ tc_T := tc_mem (List.mem_of_getElem? (i := 851) (by decide +kernel)) (by decide +kernel)
theorem ml_X3_106 : Cond.methodLink RX3 106 yX9_goBackTo ∈ tc_T := tc_mem (List.mem_of_getElem? (i := 860) (by decide +kernel)) (by decide +kernel)
theorem ml_X3_115 : Cond.methodLink RX3 115 yX8_takeHashes ∈ tc_T := tc_mem (List.mem_of_getElem? (i := 952) (by decide +kernel)) (by decide +kernel)
theorem ml_X3_118 : Cond.methodLink RX3 118 yX9_clear ∈ tc_T := tc_mem (List.mem_of_getElem? (i := 855) (by decide +kernel)) (by decide +kernel)
theorem ml_X3_124 : Cond.methodLink RX3 124 yX3_takeOver ∈ tc_T := tc_mem (List.mem_of_getElem? (i := 856) (by decide +kernel)) (by decide +kernel)
theorem ml_X3_133 : Cond.methodLink RX3 133 yX7_peelOff ∈ tc_T := tc_mem (List.mem_of_getElem? (i := 961) (by decide +kernel)) (by decide +kernel)
theorem ml_X3_147 : Cond.methodLink RX3 147 yX9_emptyPlaceIn ∈ tc_T := tc_mem (List.mem_of_getElem? (i := 982) (by decide +kernel)) (by decide +kernel)
theorem ml_X3_150 : Cond.methodLink RX3 150 yX9_move ∈ tc_T := tc_mem (List.mem_of_getElem? (i := 920) (by decide +kernel)) (by decide +kernel)
theorem ml_X3_167 : Cond.methodLink RX3 167 yX9_closeStash ∈ tc_T := tc_mem (List.mem_of_getElem? (i := 921) (by decide +kernel)) (by decide +kernel)
theorem ml_X3_170 : Cond.methodLink RX3 170 yX4_emptyStash ∈ tc_T := tc_mem (List.mem_of_getElem? (i := 926) (by decide +kernel)) (by decide +kernel)
theorem ml_X3_177 : Cond.methodLink RX3 177 yX2_below ∈ tc_T := tc_mem (List.mem_of_getElem? (i := 999) (by decide +kernel)) (by decide +kernel)
theorem ml_X3_180 : Cond.methodLink RX3 180 yX3_remove ∈ tc_T := tc_mem (List.mem_of_getElem? (i := 1000) (by decide +kernel)) (by decide +kernel)
theorem ml_X3_184 : Cond.methodLink RX3 184 yX3_enter ∈ tc_T := tc_mem (List.mem_of_getElem? (i := 1001) (by decide +kernel)) (by decide +kernel)
theorem ml_X3_39 : Cond.methodLink RX3 39 yX9_locate ∈ tc_T := tc_mem (List.mem_of_getElem? (i := 762) (by decide +kernel)) (by decide +kernel)
theorem ml_X3_47 : Cond.methodLink RX3 47 yX9_takeInHand ∈ tc_T := tc_mem (List.mem_of_getElem? (i := 782) (by decide +kernel)) (by decide +kernel)
theorem ml_X3_51 : Cond.methodLink RX3 51 yX4_comeIn ∈ tc_T := tc_mem (List.mem_of_getElem? (i := 786) (by decide +kernel)) (by decide +kernel)
theorem ml_X3_69 : Cond.methodLink RX3 69 yX4_seekFor ∈ tc_T := tc_mem (List.mem_of_getElem? (i := 835) (by decide +kernel)) (by decide +kernel)
theorem ml_X3_73 : Cond.methodLink RX3 73 yX4_follow ∈ tc_T := tc_mem (List.mem_of_getElem? (i := 839) (by decide +kernel)) (by decide +kernel)
theorem ml_X3_77 : Cond.methodLink RX3 77 yX3_grow ∈ tc_T := tc_mem (List.mem_of_getElem? (i := 840) (by decide +kernel)) (by decide +kernel)
theorem ml_X3_81 : Cond.methodLink RX3 81 yX3_redraw ∈ tc_T := tc_mem (List.mem_of_getElem? (i := 865) (by decide +kernel)) (by decide +kernel)
theorem ml_X3_84 : Cond.methodLink RX3 84 yX9_emptyHand ∈ tc_T := tc_mem (List.mem_of_getElem? (i := 874) (by decide +kernel)) (by decide +kernel)
theorem ml_X3_90 : Cond.methodLink RX3 90 yX9_copyFrom ∈ tc_T := tc_mem (List.mem_of_getElem? (i := 844) (by decide +kernel)) (by decide +kernel)
theorem ml_X3_97 : Cond.methodLink RX3 97 yX8_drawHashes ∈ tc_T := tc_mem (List.mem_of_getElem? (i := 869) (by decide +kernel)) (by decide +kernel)
theorem ml_X4_101 : Cond.methodLink RX4 101 Lib.Math.min.name ∈ tc_T := tc_mem (List.mem_of_getElem? (i := 825) (by decide +kernel)) (by decide +kernel)
theorem ml_X4_108 : Cond.methodLink RX4 108 yX2_below ∈ tc_T := tc_mem (List.mem_of_getElem? (i := 826) (by decide +kernel)) (by decide +kernel)
theorem ml_X4_113 : Cond.methodLink RX4 113 yX9_swapHand ∈ tc_T := tc_mem (List.mem_of_getElem? (i := 831) (by decide +kernel)) (by decide +kernel)
theorem ml_X4_120 : Cond.methodLink RX4 120 yX4_leaveStash ∈ tc_T := tc_mem (List.mem_of_getElem? (i := 930) (by decide +kernel)) (by decide +kernel)
theorem ml_X4_124 : Cond.methodLink RX4 124 yX9_closeStash ∈ tc_T := tc_mem (List.mem_of_getElem? (i := 935) (by decide +kernel)) (by decide +kernel)
theorem ml_X4_127 : Cond.methodLink RX4 127 yX4_seekFor ∈ tc_T := tc_mem (List.mem_of_getElem? (i := 934) (by decide +kernel)) (by decide +kernel)
theorem ml_X4_29 : Cond.methodLink RX4 29 yX9_openBucketFor ∈ tc_T := tc_mem (List.mem_of_getElem? (i := 790) (by decide +kernel)) (by decide +kernel)
theorem ml_X4_33 : Cond.methodLink RX4 33 yX9_emptyPlaceIn ∈ tc_T := tc_mem (List.mem_of_getElem? (i := 794) (by decide +kernel)) (by decide +kernel)
theorem ml_X4_36 : Cond.methodLink RX4 36 yX9_move ∈ tc_T := tc_mem (List.mem_of_getElem? (i := 798) (by decide +kernel)) (by decide +kernel)
theorem ml_X4_51 : Cond.methodLink RX4 51 yX1_seek ∈ tc_T := tc_mem (List.mem_of_getElem? (i := 802) (by decide +kernel)) (by decide +kernel)
theorem ml_X4_63 : Cond.methodLink RX4 63 yX4_follow ∈ tc_T := tc_mem (List.mem_of_getElem? (i := 814) (by decide +kernel)) (by decide +kernel)
theorem ml_X4_67 : Cond.methodLink RX4 67 yX4_walk ∈ tc_T := tc_mem (List.mem_of_getElem? (i := 821) (by decide +kernel)) (by decide +kernel)
theorem ml_X4_92 : Cond.methodLink RX4 92 Lib.Math.max.name ∈ tc_T := tc_mem (List.mem_of_getElem? (i := 818) (by decide +kernel)) (by decide +kernel)
theorem ml_X5_45 : Cond.methodLink RX5 45 yX5_unite ∈ tc_T := tc_mem (List.mem_of_getElem? (i := 1051) (by decide +kernel)) (by decide +kernel)
theorem ml_X5_52 : Cond.methodLink RX5 52 yX5_kindOf ∈ tc_T := tc_mem (List.mem_of_getElem? (i := 1152) (by decide +kernel)) (by decide +kernel)
theorem ml_X6_106 : Cond.methodLink RX6 106 yX6_readNumber ∈ tc_T := tc_mem (List.mem_of_getElem? (i := 723) (by decide +kernel)) (by decide +kernel)
theorem ml_X6_153 : Cond.methodLink RX6 153 yX8_takeHashes ∈ tc_T := tc_mem (List.mem_of_getElem? (i := 741) (by decide +kernel)) (by decide +kernel)
theorem ml_X6_166 : Cond.methodLink RX6 166 yX6_note ∈ tc_T := tc_mem (List.mem_of_getElem? (i := 727) (by decide +kernel)) (by decide +kernel)
theorem ml_X6_173 : Cond.methodLink RX6 173 yX6_isDigit ∈ tc_T := tc_mem (List.mem_of_getElem? (i := 647) (by decide +kernel)) (by decide +kernel)
theorem ml_X6_176 : Cond.methodLink RX6 176 yX6_stepOverDigits ∈ tc_T := tc_mem (List.mem_of_getElem? (i := 650) (by decide +kernel)) (by decide +kernel)
theorem ml_X6_179 : Cond.methodLink RX6 179 yJ0_length_8abf5 ∈ tc_T := tc_mem (List.mem_of_getElem? (i := 663) (by decide +kernel)) (by decide +kernel)
theorem ml_X6_184 : Cond.methodLink RX6 184 yJ0_charAt_5068e ∈ tc_T := tc_mem (List.mem_of_getElem? (i := 673) (by decide +kernel)) (by decide +kernel)
theorem ml_X6_32 : Cond.methodLink RX6 32 Lib.Math.min.name ∈ tc_T := tc_mem (List.mem_of_getElem? (i := 639) (by decide +kernel)) (by decide +kernel)
theorem ml_X6_51 : Cond.methodLink RX6 51 yX8_begin ∈ tc_T := tc_mem (List.mem_of_getElem? (i := 642) (by decide +kernel)) (by decide +kernel)
theorem ml_X6_57 : Cond.methodLink RX6 57 yX6_step ∈ tc_T := tc_mem (List.mem_of_getElem? (i := 643) (by decide +kernel)) (by decide +kernel)
theorem ml_X6_63 : Cond.methodLink RX6 63 yX6_readLine ∈ tc_T := tc_mem (List.mem_of_getElem? (i := 654) (by decide +kernel)) (by decide +kernel)
theorem ml_X6_67 : Cond.methodLink RX6 67 yX9_begin ∈ tc_T := tc_mem (List.mem_of_getElem? (i := 750) (by decide +kernel)) (by decide +kernel)
theorem ml_X6_72 : Cond.methodLink RX6 72 yX3_enter ∈ tc_T := tc_mem (List.mem_of_getElem? (i := 758) (by decide +kernel)) (by decide +kernel)
theorem ml_X6_80 : Cond.methodLink RX6 80 yX6_wordOf ∈ tc_T := tc_mem (List.mem_of_getElem? (i := 659) (by decide +kernel)) (by decide +kernel)
theorem ml_X6_84 : Cond.methodLink RX6 84 yX6_stop ∈ tc_T := tc_mem (List.mem_of_getElem? (i := 711) (by decide +kernel)) (by decide +kernel)
theorem ml_X6_87 : Cond.methodLink RX6 87 yX6_readSetting ∈ tc_T := tc_mem (List.mem_of_getElem? (i := 715) (by decide +kernel)) (by decide +kernel)
theorem ml_X6_91 : Cond.methodLink RX6 91 yX6_readChoice ∈ tc_T := tc_mem (List.mem_of_getElem? (i := 731) (by decide +kernel)) (by decide +kernel)
theorem ml_X6_94 : Cond.methodLink RX6 94 yX6_readHash ∈ tc_T := tc_mem (List.mem_of_getElem? (i := 737) (by decide +kernel)) (by decide +kernel)
theorem ml_X6_97 : Cond.methodLink RX6 97 yX6_readHas ∈ tc_T := tc_mem (List.mem_of_getElem? (i := 742) (by decide +kernel)) (by decide +kernel)
theorem ml_X7_43 : Cond.methodLink RX7 43 yX7_gather ∈ tc_T := tc_mem (List.mem_of_getElem? (i := 965) (by decide +kernel)) (by decide +kernel)
theorem ml_X7_47 : Cond.methodLink RX7 47 yJ7_fill_53178 ∈ tc_T := tc_mem (List.mem_of_getElem? (i := 969) (by decide +kernel)) (by decide +kernel)
theorem ml_X7_56 : Cond.methodLink RX7 56 yX7_addDegrees ∈ tc_T := tc_mem (List.mem_of_getElem? (i := 970) (by decide +kernel)) (by decide +kernel)
theorem ml_X7_72 : Cond.methodLink RX7 72 yX7_leastOpen ∈ tc_T := tc_mem (List.mem_of_getElem? (i := 974) (by decide +kernel)) (by decide +kernel)
theorem ml_X7_76 : Cond.methodLink RX7 76 yX7_peelBucket ∈ tc_T := tc_mem (List.mem_of_getElem? (i := 978) (by decide +kernel)) (by decide +kernel)
theorem ml_X8_43 : Cond.methodLink RX8 43 yX8_takeHashes ∈ tc_T := tc_mem (List.mem_of_getElem? (i := 164) (by decide +kernel)) (by decide +kernel)
theorem ml_X8_62 : Cond.methodLink RX8 62 yX2_below ∈ tc_T := tc_mem (List.mem_of_getElem? (i := 873) (by decide +kernel)) (by decide +kernel)
theorem ml_X9_104 : Cond.methodLink RX9 104 yX9_startOf ∈ tc_T := tc_mem (List.mem_of_getElem? (i := 774) (by decide +kernel)) (by decide +kernel)
theorem ml_X9_108 : Cond.methodLink RX9 108 yX8_firstOf ∈ tc_T := tc_mem (List.mem_of_getElem? (i := 766) (by decide +kernel)) (by decide +kernel)
theorem ml_X9_111 : Cond.methodLink RX9 111 yX9_indexIn ∈ tc_T := tc_mem (List.mem_of_getElem? (i := 770) (by decide +kernel)) (by decide +kernel)
theorem ml_X9_115 : Cond.methodLink RX9 115 yX8_secondOf ∈ tc_T := tc_mem (List.mem_of_getElem? (i := 778) (by decide +kernel)) (by decide +kernel)
theorem ml_X9_118 : Cond.methodLink RX9 118 yX9_bucketOf ∈ tc_T := tc_mem (List.mem_of_getElem? (i := 908) (by decide +kernel)) (by decide +kernel)
theorem ml_X9_121 : Cond.methodLink RX9 121 yX9_entriesFrom ∈ tc_T := tc_mem (List.mem_of_getElem? (i := 883) (by decide +kernel)) (by decide +kernel)
theorem ml_X9_124 : Cond.methodLink RX9 124 yX9_readsTill ∈ tc_T := tc_mem (List.mem_of_getElem? (i := 1147) (by decide +kernel)) (by decide +kernel)
theorem ml_X9_127 : Cond.methodLink RX9 127 yX9_move ∈ tc_T := tc_mem (List.mem_of_getElem? (i := 925) (by decide +kernel)) (by decide +kernel)
theorem ml_X9_47 : Cond.methodLink RX9 47 yX9_clear ∈ tc_T := tc_mem (List.mem_of_getElem? (i := 248) (by decide +kernel)) (by decide +kernel)
theorem ml_X9_50 : Cond.methodLink RX9 50 yX8_copyFrom ∈ tc_T := tc_mem (List.mem_of_getElem? (i := 754) (by decide +kernel)) (by decide +kernel)
theorem ml_X9_72 : Cond.methodLink RX9 72 yJ7_fill_53178 ∈ tc_T := tc_mem (List.mem_of_getElem? (i := 252) (by decide +kernel)) (by decide +kernel)
theorem ml_X9_80 : Cond.methodLink RX9 80 arraycopyName ∈ tc_T := tc_mem (List.mem_of_getElem? (i := 848) (by decide +kernel)) (by decide +kernel)
theorem ml_X9_95 : Cond.methodLink RX9 95 yX9_copyFrom ∈ tc_T := tc_mem (List.mem_of_getElem? (i := 864) (by decide +kernel)) (by decide +kernel)
theorem ms_J0_checkIndex_df160 : Cond.static yJ0_checkIndex_df160 ∈ tc_T := tc_mem (List.mem_of_getElem? (i := 685) (by decide +kernel)) (by decide +kernel)
theorem ms_J1_charAt_3b067 : Cond.static yJ1_charAt_3b067 ∈ tc_T := tc_mem (List.mem_of_getElem? (i := 682) (by decide +kernel)) (by decide +kernel)
theorem ms_J3_checkIndex_8e157 : Cond.static yJ3_checkIndex_8e157 ∈ tc_T := tc_mem (List.mem_of_getElem? (i := 690) (by decide +kernel)) (by decide +kernel)
theorem ms_J7_fill_53178 : Cond.static yJ7_fill_53178 ∈ tc_T := tc_mem (List.mem_of_getElem? (i := 253) (by decide +kernel)) (by decide +kernel)
theorem ms_X0_mostOf : Cond.static yX0_mostOf ∈ tc_T := tc_mem (List.mem_of_getElem? (i := 1111) (by decide +kernel)) (by decide +kernel)
theorem ms_X11_areHashes : Cond.static yX11_areHashes ∈ tc_T := tc_mem (List.mem_of_getElem? (i := 946) (by decide +kernel)) (by decide +kernel)
theorem ms_X11_isLoad : Cond.static yX11_isLoad ∈ tc_T := tc_mem (List.mem_of_getElem? (i := 993) (by decide +kernel)) (by decide +kernel)
theorem ms_X11_isNumber : Cond.static yX11_isNumber ∈ tc_T := tc_mem (List.mem_of_getElem? (i := 896) (by decide +kernel)) (by decide +kernel)
theorem ms_X11_tellOfSettings : Cond.static yX11_tellOfSettings ∈ tc_T := tc_mem (List.mem_of_getElem? (i := 1133) (by decide +kernel)) (by decide +kernel)
theorem ms_X12_bitsOf : Cond.static yX12_bitsOf ∈ tc_T := tc_mem (List.mem_of_getElem? (i := 1499) (by decide +kernel)) (by decide +kernel)
theorem ms_X12_cell : Cond.static yX12_cell ∈ tc_T := tc_mem (List.mem_of_getElem? (i := 1309) (by decide +kernel)) (by decide +kernel)
theorem ms_X12_isDigit : Cond.static yX12_isDigit ∈ tc_T := tc_mem (List.mem_of_getElem? (i := 1653) (by decide +kernel)) (by decide +kernel)
theorem ms_X12_isIn : Cond.static yX12_isIn ∈ tc_T := tc_mem (List.mem_of_getElem? (i := 1392) (by decide +kernel)) (by decide +kernel)
theorem ms_X12_isKey : Cond.static yX12_isKey ∈ tc_T := tc_mem (List.mem_of_getElem? (i := 1464) (by decide +kernel)) (by decide +kernel)
theorem ms_X12_isLetter : Cond.static yX12_isLetter ∈ tc_T := tc_mem (List.mem_of_getElem? (i := 1648) (by decide +kernel)) (by decide +kernel)
theorem ms_X6_isDigit : Cond.static yX6_isDigit ∈ tc_T := tc_mem (List.mem_of_getElem? (i := 648) (by decide +kernel)) (by decide +kernel)
theorem mv_X0_allFit : tc_MV yX0_allFit 0 := ⟨tc_mem (List.mem_of_getElem? (i := 1077) (by decide +kernel)) (by decide +kernel), _, rfl, tc_mem (List.mem_of_getElem? (i := 1078) (by decide +kernel)) (by decide +kernel)⟩
theorem mv_X0_change : tc_MV yX0_change 0 := ⟨tc_mem (List.mem_of_getElem? (i := 1115) (by decide +kernel)) (by decide +kernel), _, rfl, tc_mem (List.mem_of_getElem? (i := 27) (by decide +kernel)) (by decide +kernel)⟩
theorem mv_X0_layKey : tc_MV yX0_layKey 0 := ⟨tc_mem (List.mem_of_getElem? (i := 1087) (by decide +kernel)) (by decide +kernel), _, rfl, tc_mem (List.mem_of_getElem? (i := 26) (by decide +kernel)) (by decide +kernel)⟩
theorem mv_X0_leastOf : tc_MV yX0_leastOf 0 := ⟨tc_mem (List.mem_of_getElem? (i := 1106) (by decide +kernel)) (by decide +kernel), _, rfl, tc_mem (List.mem_of_getElem? (i := 1107) (by decide +kernel)) (by decide +kernel)⟩
theorem mv_X0_leftOut : tc_MV yX0_leftOut 0 := ⟨tc_mem (List.mem_of_getElem? (i := 1081) (by decide +kernel)) (by decide +kernel), _, rfl, tc_mem (List.mem_of_getElem? (i := 1082) (by decide +kernel)) (by decide +kernel)⟩
theorem mv_X0_takeSettings : tc_MV yX0_takeSettings 0 := ⟨tc_mem (List.mem_of_getElem? (i := 1072) (by decide +kernel)) (by decide +kernel), _, rfl, tc_mem (List.mem_of_getElem? (i := 1073) (by decide +kernel)) (by decide +kernel)⟩
theorem mv_X10_append : tc_MV yX10_append 10 := ⟨tc_mem (List.mem_of_getElem? (i := 624) (by decide +kernel)) (by decide +kernel), _, rfl, tc_mem (List.mem_of_getElem? (i := 625) (by decide +kernel)) (by decide +kernel)⟩
theorem mv_X10_copyFrom : tc_MV yX10_copyFrom 10 := ⟨tc_mem (List.mem_of_getElem? (i := 1182) (by decide +kernel)) (by decide +kernel), _, rfl, tc_mem (List.mem_of_getElem? (i := 1183) (by decide +kernel)) (by decide +kernel)⟩
theorem mv_X11_answerFor : tc_MV yX11_answerFor 11 := ⟨tc_mem (List.mem_of_getElem? (i := 1041) (by decide +kernel)) (by decide +kernel), _, rfl, tc_mem (List.mem_of_getElem? (i := 24) (by decide +kernel)) (by decide +kernel)⟩
theorem mv_X11_imageOf : tc_MV yX11_imageOf 11 := ⟨tc_mem (List.mem_of_getElem? (i := 1175) (by decide +kernel)) (by decide +kernel), _, rfl, tc_mem (List.mem_of_getElem? (i := 29) (by decide +kernel)) (by decide +kernel)⟩
theorem mv_X11_tell : tc_MV yX11_tell 11 := ⟨tc_mem (List.mem_of_getElem? (i := 1130) (by decide +kernel)) (by decide +kernel), _, rfl, tc_mem (List.mem_of_getElem? (i := 28) (by decide +kernel)) (by decide +kernel)⟩
theorem mv_X12_adds : tc_MV yX12_adds 12 := ⟨tc_mem (List.mem_of_getElem? (i := 1377) (by decide +kernel)) (by decide +kernel), _, rfl, tc_mem (List.mem_of_getElem? (i := 46) (by decide +kernel)) (by decide +kernel)⟩
theorem mv_X12_addsNew : tc_MV yX12_addsNew 12 := ⟨tc_mem (List.mem_of_getElem? (i := 1472) (by decide +kernel)) (by decide +kernel), _, rfl, tc_mem (List.mem_of_getElem? (i := 64) (by decide +kernel)) (by decide +kernel)⟩
theorem mv_X12_alsoWrong : tc_MV yX12_alsoWrong 12 := ⟨tc_mem (List.mem_of_getElem? (i := 1684) (by decide +kernel)) (by decide +kernel), _, rfl, tc_mem (List.mem_of_getElem? (i := 92) (by decide +kernel)) (by decide +kernel)⟩
theorem mv_X12_asNow : tc_MV yX12_asNow 12 := ⟨tc_mem (List.mem_of_getElem? (i := 1441) (by decide +kernel)) (by decide +kernel), _, rfl, tc_mem (List.mem_of_getElem? (i := 58) (by decide +kernel)) (by decide +kernel)⟩
theorem mv_X12_begins : tc_MV yX12_begins 12 := ⟨tc_mem (List.mem_of_getElem? (i := 1199) (by decide +kernel)) (by decide +kernel), _, rfl, tc_mem (List.mem_of_getElem? (i := 30) (by decide +kernel)) (by decide +kernel)⟩
theorem mv_X12_below : tc_MV yX12_below 12 := ⟨tc_mem (List.mem_of_getElem? (i := 1484) (by decide +kernel)) (by decide +kernel), _, rfl, tc_mem (List.mem_of_getElem? (i := 66) (by decide +kernel)) (by decide +kernel)⟩
theorem mv_X12_bucketOf : tc_MV yX12_bucketOf 12 := ⟨tc_mem (List.mem_of_getElem? (i := 1563) (by decide +kernel)) (by decide +kernel), _, rfl, tc_mem (List.mem_of_getElem? (i := 76) (by decide +kernel)) (by decide +kernel)⟩
theorem mv_X12_byteAt : tc_MV yX12_byteAt 12 := ⟨tc_mem (List.mem_of_getElem? (i := 1645) (by decide +kernel)) (by decide +kernel), _, rfl, tc_mem (List.mem_of_getElem? (i := 85) (by decide +kernel)) (by decide +kernel)⟩
theorem mv_X12_chainOf : tc_MV yX12_chainOf 12 := ⟨tc_mem (List.mem_of_getElem? (i := 1333) (by decide +kernel)) (by decide +kernel), _, rfl, tc_mem (List.mem_of_getElem? (i := 36) (by decide +kernel)) (by decide +kernel)⟩
theorem mv_X12_comesBack : tc_MV yX12_comesBack 12 := ⟨tc_mem (List.mem_of_getElem? (i := 1421) (by decide +kernel)) (by decide +kernel), _, rfl, tc_mem (List.mem_of_getElem? (i := 56) (by decide +kernel)) (by decide +kernel)⟩
theorem mv_X12_comesIn : tc_MV yX12_comesIn 12 := ⟨tc_mem (List.mem_of_getElem? (i := 1408) (by decide +kernel)) (by decide +kernel), _, rfl, tc_mem (List.mem_of_getElem? (i := 53) (by decide +kernel)) (by decide +kernel)⟩
theorem mv_X12_copies : tc_MV yX12_copies 12 := ⟨tc_mem (List.mem_of_getElem? (i := 1365) (by decide +kernel)) (by decide +kernel), _, rfl, tc_mem (List.mem_of_getElem? (i := 43) (by decide +kernel)) (by decide +kernel)⟩
theorem mv_X12_count : tc_MV yX12_count 12 := ⟨tc_mem (List.mem_of_getElem? (i := 1607) (by decide +kernel)) (by decide +kernel), _, rfl, tc_mem (List.mem_of_getElem? (i := 1608) (by decide +kernel)) (by decide +kernel)⟩
theorem mv_X12_counts : tc_MV yX12_counts 12 := ⟨tc_mem (List.mem_of_getElem? (i := 1616) (by decide +kernel)) (by decide +kernel), _, rfl, tc_mem (List.mem_of_getElem? (i := 80) (by decide +kernel)) (by decide +kernel)⟩
theorem mv_X12_doAllCome : tc_MV yX12_doAllCome 12 := ⟨tc_mem (List.mem_of_getElem? (i := 1433) (by decide +kernel)) (by decide +kernel), _, rfl, tc_mem (List.mem_of_getElem? (i := 57) (by decide +kernel)) (by decide +kernel)⟩
theorem mv_X12_draws : tc_MV yX12_draws 12 := ⟨tc_mem (List.mem_of_getElem? (i := 1416) (by decide +kernel)) (by decide +kernel), _, rfl, tc_mem (List.mem_of_getElem? (i := 55) (by decide +kernel)) (by decide +kernel)⟩
theorem mv_X12_drawsBy : tc_MV yX12_drawsBy 12 := ⟨tc_mem (List.mem_of_getElem? (i := 1480) (by decide +kernel)) (by decide +kernel), _, rfl, tc_mem (List.mem_of_getElem? (i := 65) (by decide +kernel)) (by decide +kernel)⟩
theorem mv_X12_drops : tc_MV yX12_drops 12 := ⟨tc_mem (List.mem_of_getElem? (i := 1547) (by decide +kernel)) (by decide +kernel), _, rfl, tc_mem (List.mem_of_getElem? (i := 74) (by decide +kernel)) (by decide +kernel)⟩
theorem mv_X12_empties : tc_MV yX12_empties 12 := ⟨tc_mem (List.mem_of_getElem? (i := 1400) (by decide +kernel)) (by decide +kernel), _, rfl, tc_mem (List.mem_of_getElem? (i := 51) (by decide +kernel)) (by decide +kernel)⟩
theorem mv_X12_emptyIn : tc_MV yX12_emptyIn 12 := ⟨tc_mem (List.mem_of_getElem? (i := 1325) (by decide +kernel)) (by decide +kernel), _, rfl, tc_mem (List.mem_of_getElem? (i := 34) (by decide +kernel)) (by decide +kernel)⟩
theorem mv_X12_entries : tc_MV yX12_entries 12 := ⟨tc_mem (List.mem_of_getElem? (i := 1620) (by decide +kernel)) (by decide +kernel), _, rfl, tc_mem (List.mem_of_getElem? (i := 81) (by decide +kernel)) (by decide +kernel)⟩
theorem mv_X12_fails : tc_MV yX12_fails 12 := ⟨tc_mem (List.mem_of_getElem? (i := 1680) (by decide +kernel)) (by decide +kernel), _, rfl, tc_mem (List.mem_of_getElem? (i := 91) (by decide +kernel)) (by decide +kernel)⟩
theorem mv_X12_freeFor : tc_MV yX12_freeFor 12 := ⟨tc_mem (List.mem_of_getElem? (i := 1317) (by decide +kernel)) (by decide +kernel), _, rfl, tc_mem (List.mem_of_getElem? (i := 32) (by decide +kernel)) (by decide +kernel)⟩
theorem mv_X12_fullTaken : tc_MV yX12_fullTaken 12 := ⟨tc_mem (List.mem_of_getElem? (i := 1702) (by decide +kernel)) (by decide +kernel), _, rfl, tc_mem (List.mem_of_getElem? (i := 94) (by decide +kernel)) (by decide +kernel)⟩
theorem mv_X12_goesOut : tc_MV yX12_goesOut 12 := ⟨tc_mem (List.mem_of_getElem? (i := 1357) (by decide +kernel)) (by decide +kernel), _, rfl, tc_mem (List.mem_of_getElem? (i := 42) (by decide +kernel)) (by decide +kernel)⟩
theorem mv_X12_greatestRead : tc_MV yX12_greatestRead 12 := ⟨tc_mem (List.mem_of_getElem? (i := 1628) (by decide +kernel)) (by decide +kernel), _, rfl, tc_mem (List.mem_of_getElem? (i := 83) (by decide +kernel)) (by decide +kernel)⟩
theorem mv_X12_grows : tc_MV yX12_grows 12 := ⟨tc_mem (List.mem_of_getElem? (i := 1531) (by decide +kernel)) (by decide +kernel), _, rfl, tc_mem (List.mem_of_getElem? (i := 72) (by decide +kernel)) (by decide +kernel)⟩
theorem mv_X12_hasWord : tc_MV yX12_hasWord 12 := ⟨tc_mem (List.mem_of_getElem? (i := 1672) (by decide +kernel)) (by decide +kernel), _, rfl, tc_mem (List.mem_of_getElem? (i := 89) (by decide +kernel)) (by decide +kernel)⟩
theorem mv_X12_hashBy : tc_MV yX12_hashBy 12 := ⟨tc_mem (List.mem_of_getElem? (i := 1457) (by decide +kernel)) (by decide +kernel), _, rfl, tc_mem (List.mem_of_getElem? (i := 62) (by decide +kernel)) (by decide +kernel)⟩
theorem mv_X12_hashOf : tc_MV yX12_hashOf 12 := ⟨tc_mem (List.mem_of_getElem? (i := 1321) (by decide +kernel)) (by decide +kernel), _, rfl, tc_mem (List.mem_of_getElem? (i := 33) (by decide +kernel)) (by decide +kernel)⟩
theorem mv_X12_inBucket : tc_MV yX12_inBucket 12 := ⟨tc_mem (List.mem_of_getElem? (i := 1503) (by decide +kernel)) (by decide +kernel), _, rfl, tc_mem (List.mem_of_getElem? (i := 69) (by decide +kernel)) (by decide +kernel)⟩
theorem mv_X12_isEntry : tc_MV yX12_isEntry 12 := ⟨tc_mem (List.mem_of_getElem? (i := 1329) (by decide +kernel)) (by decide +kernel), _, rfl, tc_mem (List.mem_of_getElem? (i := 35) (by decide +kernel)) (by decide +kernel)⟩
theorem mv_X12_isGood : tc_MV yX12_isGood 12 := ⟨tc_mem (List.mem_of_getElem? (i := 1659) (by decide +kernel)) (by decide +kernel), _, rfl, tc_mem (List.mem_of_getElem? (i := 86) (by decide +kernel)) (by decide +kernel)⟩
theorem mv_X12_keyOf : tc_MV yX12_keyOf 12 := ⟨tc_mem (List.mem_of_getElem? (i := 1313) (by decide +kernel)) (by decide +kernel), _, rfl, tc_mem (List.mem_of_getElem? (i := 31) (by decide +kernel)) (by decide +kernel)⟩
theorem mv_X12_kickTaken : tc_MV yX12_kickTaken 12 := ⟨tc_mem (List.mem_of_getElem? (i := 1694) (by decide +kernel)) (by decide +kernel), _, rfl, tc_mem (List.mem_of_getElem? (i := 93) (by decide +kernel)) (by decide +kernel)⟩
theorem mv_X12_lays : tc_MV yX12_lays 12 := ⟨tc_mem (List.mem_of_getElem? (i := 1404) (by decide +kernel)) (by decide +kernel), _, rfl, tc_mem (List.mem_of_getElem? (i := 52) (by decide +kernel)) (by decide +kernel)⟩
theorem mv_X12_laysAway : tc_MV yX12_laysAway 12 := ⟨tc_mem (List.mem_of_getElem? (i := 1337) (by decide +kernel)) (by decide +kernel), _, rfl, tc_mem (List.mem_of_getElem? (i := 37) (by decide +kernel)) (by decide +kernel)⟩
theorem mv_X12_laysFar : tc_MV yX12_laysFar 12 := ⟨tc_mem (List.mem_of_getElem? (i := 1449) (by decide +kernel)) (by decide +kernel), _, rfl, tc_mem (List.mem_of_getElem? (i := 60) (by decide +kernel)) (by decide +kernel)⟩
theorem mv_X12_leads : tc_MV yX12_leads 12 := ⟨tc_mem (List.mem_of_getElem? (i := 1345) (by decide +kernel)) (by decide +kernel), _, rfl, tc_mem (List.mem_of_getElem? (i := 39) (by decide +kernel)) (by decide +kernel)⟩
theorem mv_X12_leastLeft : tc_MV yX12_leastLeft 12 := ⟨tc_mem (List.mem_of_getElem? (i := 1396) (by decide +kernel)) (by decide +kernel), _, rfl, tc_mem (List.mem_of_getElem? (i := 50) (by decide +kernel)) (by decide +kernel)⟩
theorem mv_X12_leftIn : tc_MV yX12_leftIn 12 := ⟨tc_mem (List.mem_of_getElem? (i := 1385) (by decide +kernel)) (by decide +kernel), _, rfl, tc_mem (List.mem_of_getElem? (i := 48) (by decide +kernel)) (by decide +kernel)⟩
theorem mv_X12_lies : tc_MV yX12_lies 12 := ⟨tc_mem (List.mem_of_getElem? (i := 1468) (by decide +kernel)) (by decide +kernel), _, rfl, tc_mem (List.mem_of_getElem? (i := 63) (by decide +kernel)) (by decide +kernel)⟩
theorem mv_X12_lists : tc_MV yX12_lists 12 := ⟨tc_mem (List.mem_of_getElem? (i := 1373) (by decide +kernel)) (by decide +kernel), _, rfl, tc_mem (List.mem_of_getElem? (i := 45) (by decide +kernel)) (by decide +kernel)⟩
theorem mv_X12_loads : tc_MV yX12_loads 12 := ⟨tc_mem (List.mem_of_getElem? (i := 1555) (by decide +kernel)) (by decide +kernel), _, rfl, tc_mem (List.mem_of_getElem? (i := 75) (by decide +kernel)) (by decide +kernel)⟩
theorem mv_X12_meets : tc_MV yX12_meets 12 := ⟨tc_mem (List.mem_of_getElem? (i := 1389) (by decide +kernel)) (by decide +kernel), _, rfl, tc_mem (List.mem_of_getElem? (i := 49) (by decide +kernel)) (by decide +kernel)⟩
theorem mv_X12_membersOf : tc_MV yX12_membersOf 12 := ⟨tc_mem (List.mem_of_getElem? (i := 1496) (by decide +kernel)) (by decide +kernel), _, rfl, tc_mem (List.mem_of_getElem? (i := 68) (by decide +kernel)) (by decide +kernel)⟩
theorem mv_X12_moved : tc_MV yX12_moved 12 := ⟨tc_mem (List.mem_of_getElem? (i := 1624) (by decide +kernel)) (by decide +kernel), _, rfl, tc_mem (List.mem_of_getElem? (i := 82) (by decide +kernel)) (by decide +kernel)⟩
theorem mv_X12_moves : tc_MV yX12_moves 12 := ⟨tc_mem (List.mem_of_getElem? (i := 1353) (by decide +kernel)) (by decide +kernel), _, rfl, tc_mem (List.mem_of_getElem? (i := 41) (by decide +kernel)) (by decide +kernel)⟩
theorem mv_X12_numeral : tc_MV yX12_numeral 12 := ⟨tc_mem (List.mem_of_getElem? (i := 1676) (by decide +kernel)) (by decide +kernel), _, rfl, tc_mem (List.mem_of_getElem? (i := 90) (by decide +kernel)) (by decide +kernel)⟩
theorem mv_X12_opens : tc_MV yX12_opens 12 := ⟨tc_mem (List.mem_of_getElem? (i := 1349) (by decide +kernel)) (by decide +kernel), _, rfl, tc_mem (List.mem_of_getElem? (i := 40) (by decide +kernel)) (by decide +kernel)⟩
theorem mv_X12_otherBy : tc_MV yX12_otherBy 12 := ⟨tc_mem (List.mem_of_getElem? (i := 1453) (by decide +kernel)) (by decide +kernel), _, rfl, tc_mem (List.mem_of_getElem? (i := 61) (by decide +kernel)) (by decide +kernel)⟩
theorem mv_X12_otherOf : tc_MV yX12_otherOf 12 := ⟨tc_mem (List.mem_of_getElem? (i := 1341) (by decide +kernel)) (by decide +kernel), _, rfl, tc_mem (List.mem_of_getElem? (i := 38) (by decide +kernel)) (by decide +kernel)⟩
theorem mv_X12_overBy : tc_MV yX12_overBy 12 := ⟨tc_mem (List.mem_of_getElem? (i := 1445) (by decide +kernel)) (by decide +kernel), _, rfl, tc_mem (List.mem_of_getElem? (i := 59) (by decide +kernel)) (by decide +kernel)⟩
theorem mv_X12_partOf : tc_MV yX12_partOf 12 := ⟨tc_mem (List.mem_of_getElem? (i := 1492) (by decide +kernel)) (by decide +kernel), _, rfl, tc_mem (List.mem_of_getElem? (i := 67) (by decide +kernel)) (by decide +kernel)⟩
theorem mv_X12_parts : tc_MV yX12_parts 12 := ⟨tc_mem (List.mem_of_getElem? (i := 1612) (by decide +kernel)) (by decide +kernel), _, rfl, tc_mem (List.mem_of_getElem? (i := 79) (by decide +kernel)) (by decide +kernel)⟩
theorem mv_X12_peelable : tc_MV yX12_peelable 12 := ⟨tc_mem (List.mem_of_getElem? (i := 1381) (by decide +kernel)) (by decide +kernel), _, rfl, tc_mem (List.mem_of_getElem? (i := 47) (by decide +kernel)) (by decide +kernel)⟩
theorem mv_X12_peelsAll : tc_MV yX12_peelsAll 12 := ⟨tc_mem (List.mem_of_getElem? (i := 1369) (by decide +kernel)) (by decide +kernel), _, rfl, tc_mem (List.mem_of_getElem? (i := 44) (by decide +kernel)) (by decide +kernel)⟩
theorem mv_X12_placeOf : tc_MV yX12_placeOf 12 := ⟨tc_mem (List.mem_of_getElem? (i := 1567) (by decide +kernel)) (by decide +kernel), _, rfl, tc_mem (List.mem_of_getElem? (i := 77) (by decide +kernel)) (by decide +kernel)⟩
theorem mv_X12_puts : tc_MV yX12_puts 12 := ⟨tc_mem (List.mem_of_getElem? (i := 1523) (by decide +kernel)) (by decide +kernel), _, rfl, tc_mem (List.mem_of_getElem? (i := 70) (by decide +kernel)) (by decide +kernel)⟩
theorem mv_X12_readTo : tc_MV yX12_readTo 12 := ⟨tc_mem (List.mem_of_getElem? (i := 1571) (by decide +kernel)) (by decide +kernel), _, rfl, tc_mem (List.mem_of_getElem? (i := 78) (by decide +kernel)) (by decide +kernel)⟩
theorem mv_X12_reads : tc_MV yX12_reads 12 := ⟨tc_mem (List.mem_of_getElem? (i := 1539) (by decide +kernel)) (by decide +kernel), _, rfl, tc_mem (List.mem_of_getElem? (i := 73) (by decide +kernel)) (by decide +kernel)⟩
theorem mv_X12_readsHas : tc_MV yX12_readsHas 12 := ⟨tc_mem (List.mem_of_getElem? (i := 1717) (by decide +kernel)) (by decide +kernel), _, rfl, tc_mem (List.mem_of_getElem? (i := 96) (by decide +kernel)) (by decide +kernel)⟩
theorem mv_X12_readsHash : tc_MV yX12_readsHash 12 := ⟨tc_mem (List.mem_of_getElem? (i := 1711) (by decide +kernel)) (by decide +kernel), _, rfl, tc_mem (List.mem_of_getElem? (i := 95) (by decide +kernel)) (by decide +kernel)⟩
theorem mv_X12_readsLine : tc_MV yX12_readsLine 12 := ⟨tc_mem (List.mem_of_getElem? (i := 1663) (by decide +kernel)) (by decide +kernel), _, rfl, tc_mem (List.mem_of_getElem? (i := 87) (by decide +kernel)) (by decide +kernel)⟩
theorem mv_X12_rehashes : tc_MV yX12_rehashes 12 := ⟨tc_mem (List.mem_of_getElem? (i := 1527) (by decide +kernel)) (by decide +kernel), _, rfl, tc_mem (List.mem_of_getElem? (i := 71) (by decide +kernel)) (by decide +kernel)⟩
theorem mv_X12_setsNumber : tc_MV yX12_setsNumber 12 := ⟨tc_mem (List.mem_of_getElem? (i := 1668) (by decide +kernel)) (by decide +kernel), _, rfl, tc_mem (List.mem_of_getElem? (i := 88) (by decide +kernel)) (by decide +kernel)⟩
theorem mv_X12_takes : tc_MV yX12_takes 12 := ⟨tc_mem (List.mem_of_getElem? (i := 1641) (by decide +kernel)) (by decide +kernel), _, rfl, tc_mem (List.mem_of_getElem? (i := 84) (by decide +kernel)) (by decide +kernel)⟩
theorem mv_X12_walks : tc_MV yX12_walks 12 := ⟨tc_mem (List.mem_of_getElem? (i := 1412) (by decide +kernel)) (by decide +kernel), _, rfl, tc_mem (List.mem_of_getElem? (i := 54) (by decide +kernel)) (by decide +kernel)⟩
theorem mv_X12_would : tc_MV yX12_would 12 := ⟨tc_mem (List.mem_of_getElem? (i := 1586) (by decide +kernel)) (by decide +kernel), _, rfl, tc_mem (List.mem_of_getElem? (i := 1587) (by decide +kernel)) (by decide +kernel)⟩
theorem mv_X1_begin : tc_MV yX1_begin 1 := ⟨tc_mem (List.mem_of_getElem? (i := 808) (by decide +kernel)) (by decide +kernel), _, rfl, tc_mem (List.mem_of_getElem? (i := 12) (by decide +kernel)) (by decide +kernel)⟩
theorem mv_X1_seek : tc_MV yX1_seek 1 := ⟨tc_mem (List.mem_of_getElem? (i := 803) (by decide +kernel)) (by decide +kernel), _, rfl, tc_mem (List.mem_of_getElem? (i := 804) (by decide +kernel)) (by decide +kernel)⟩
theorem mv_X1_trace : tc_MV yX1_trace 1 := ⟨tc_mem (List.mem_of_getElem? (i := 812) (by decide +kernel)) (by decide +kernel), _, rfl, tc_mem (List.mem_of_getElem? (i := 13) (by decide +kernel)) (by decide +kernel)⟩
theorem mv_X2_below : tc_MV yX2_below 2 := ⟨tc_mem (List.mem_of_getElem? (i := 827) (by decide +kernel)) (by decide +kernel), _, rfl, tc_mem (List.mem_of_getElem? (i := 828) (by decide +kernel)) (by decide +kernel)⟩
theorem mv_X3_enter : tc_MV yX3_enter 3 := ⟨tc_mem (List.mem_of_getElem? (i := 759) (by decide +kernel)) (by decide +kernel), _, rfl, tc_mem (List.mem_of_getElem? (i := 760) (by decide +kernel)) (by decide +kernel)⟩
theorem mv_X3_grow : tc_MV yX3_grow 3 := ⟨tc_mem (List.mem_of_getElem? (i := 842) (by decide +kernel)) (by decide +kernel), _, rfl, tc_mem (List.mem_of_getElem? (i := 15) (by decide +kernel)) (by decide +kernel)⟩
theorem mv_X3_layAnew : tc_MV yX3_layAnew 3 := ⟨tc_mem (List.mem_of_getElem? (i := 853) (by decide +kernel)) (by decide +kernel), _, rfl, tc_mem (List.mem_of_getElem? (i := 16) (by decide +kernel)) (by decide +kernel)⟩
theorem mv_X3_layBatch : tc_MV yX3_layBatch 3 := ⟨tc_mem (List.mem_of_getElem? (i := 958) (by decide +kernel)) (by decide +kernel), _, rfl, tc_mem (List.mem_of_getElem? (i := 959) (by decide +kernel)) (by decide +kernel)⟩
theorem mv_X3_loadBy : tc_MV yX3_loadBy 3 := ⟨tc_mem (List.mem_of_getElem? (i := 996) (by decide +kernel)) (by decide +kernel), _, rfl, tc_mem (List.mem_of_getElem? (i := 997) (by decide +kernel)) (by decide +kernel)⟩
theorem mv_X3_redraw : tc_MV yX3_redraw 3 := ⟨tc_mem (List.mem_of_getElem? (i := 867) (by decide +kernel)) (by decide +kernel), _, rfl, tc_mem (List.mem_of_getElem? (i := 18) (by decide +kernel)) (by decide +kernel)⟩
theorem mv_X3_rehashBy : tc_MV yX3_rehashBy 3 := ⟨tc_mem (List.mem_of_getElem? (i := 949) (by decide +kernel)) (by decide +kernel), _, rfl, tc_mem (List.mem_of_getElem? (i := 950) (by decide +kernel)) (by decide +kernel)⟩
theorem mv_X3_remove : tc_MV yX3_remove 3 := ⟨tc_mem (List.mem_of_getElem? (i := 917) (by decide +kernel)) (by decide +kernel), _, rfl, tc_mem (List.mem_of_getElem? (i := 918) (by decide +kernel)) (by decide +kernel)⟩
theorem mv_X3_takeOver : tc_MV yX3_takeOver 3 := ⟨tc_mem (List.mem_of_getElem? (i := 858) (by decide +kernel)) (by decide +kernel), _, rfl, tc_mem (List.mem_of_getElem? (i := 17) (by decide +kernel)) (by decide +kernel)⟩
theorem mv_X4_comeIn : tc_MV yX4_comeIn 4 := ⟨tc_mem (List.mem_of_getElem? (i := 787) (by decide +kernel)) (by decide +kernel), _, rfl, tc_mem (List.mem_of_getElem? (i := 788) (by decide +kernel)) (by decide +kernel)⟩
theorem mv_X4_emptyStash : tc_MV yX4_emptyStash 4 := ⟨tc_mem (List.mem_of_getElem? (i := 927) (by decide +kernel)) (by decide +kernel), _, rfl, tc_mem (List.mem_of_getElem? (i := 928) (by decide +kernel)) (by decide +kernel)⟩
theorem mv_X4_follow : tc_MV yX4_follow 4 := ⟨tc_mem (List.mem_of_getElem? (i := 815) (by decide +kernel)) (by decide +kernel), _, rfl, tc_mem (List.mem_of_getElem? (i := 816) (by decide +kernel)) (by decide +kernel)⟩
theorem mv_X4_leaveStash : tc_MV yX4_leaveStash 4 := ⟨tc_mem (List.mem_of_getElem? (i := 932) (by decide +kernel)) (by decide +kernel), _, rfl, tc_mem (List.mem_of_getElem? (i := 20) (by decide +kernel)) (by decide +kernel)⟩
theorem mv_X4_seekFor : tc_MV yX4_seekFor 4 := ⟨tc_mem (List.mem_of_getElem? (i := 836) (by decide +kernel)) (by decide +kernel), _, rfl, tc_mem (List.mem_of_getElem? (i := 837) (by decide +kernel)) (by decide +kernel)⟩
theorem mv_X4_walk : tc_MV yX4_walk 4 := ⟨tc_mem (List.mem_of_getElem? (i := 823) (by decide +kernel)) (by decide +kernel), _, rfl, tc_mem (List.mem_of_getElem? (i := 14) (by decide +kernel)) (by decide +kernel)⟩
theorem mv_X5_bits : tc_MV yX5_bits 5 := ⟨tc_mem (List.mem_of_getElem? (i := 1056) (by decide +kernel)) (by decide +kernel), _, rfl, tc_mem (List.mem_of_getElem? (i := 1057) (by decide +kernel)) (by decide +kernel)⟩
theorem mv_X5_entriesIn : tc_MV yX5_entriesIn 5 := ⟨tc_mem (List.mem_of_getElem? (i := 1064) (by decide +kernel)) (by decide +kernel), _, rfl, tc_mem (List.mem_of_getElem? (i := 1065) (by decide +kernel)) (by decide +kernel)⟩
theorem mv_X5_join : tc_MV yX5_join 5 := ⟨tc_mem (List.mem_of_getElem? (i := 1048) (by decide +kernel)) (by decide +kernel), _, rfl, tc_mem (List.mem_of_getElem? (i := 1049) (by decide +kernel)) (by decide +kernel)⟩
theorem mv_X5_kindOf : tc_MV yX5_kindOf 5 := ⟨tc_mem (List.mem_of_getElem? (i := 1060) (by decide +kernel)) (by decide +kernel), _, rfl, tc_mem (List.mem_of_getElem? (i := 1061) (by decide +kernel)) (by decide +kernel)⟩
theorem mv_X5_tangled : tc_MV yX5_tangled 5 := ⟨tc_mem (List.mem_of_getElem? (i := 1149) (by decide +kernel)) (by decide +kernel), _, rfl, tc_mem (List.mem_of_getElem? (i := 1150) (by decide +kernel)) (by decide +kernel)⟩
theorem mv_X5_unite : tc_MV yX5_unite 5 := ⟨tc_mem (List.mem_of_getElem? (i := 1053) (by decide +kernel)) (by decide +kernel), _, rfl, tc_mem (List.mem_of_getElem? (i := 25) (by decide +kernel)) (by decide +kernel)⟩
theorem mv_X6_enterAll : tc_MV yX6_enterAll 6 := ⟨tc_mem (List.mem_of_getElem? (i := 747) (by decide +kernel)) (by decide +kernel), _, rfl, tc_mem (List.mem_of_getElem? (i := 748) (by decide +kernel)) (by decide +kernel)⟩
theorem mv_X6_note : tc_MV yX6_note 6 := ⟨tc_mem (List.mem_of_getElem? (i := 729) (by decide +kernel)) (by decide +kernel), _, rfl, tc_mem (List.mem_of_getElem? (i := 7) (by decide +kernel)) (by decide +kernel)⟩
theorem mv_X6_read : tc_MV yX6_read 6 := ⟨tc_mem (List.mem_of_getElem? (i := 636) (by decide +kernel)) (by decide +kernel), _, rfl, tc_mem (List.mem_of_getElem? (i := 637) (by decide +kernel)) (by decide +kernel)⟩
theorem mv_X6_readChoice : tc_MV yX6_readChoice 6 := ⟨tc_mem (List.mem_of_getElem? (i := 733) (by decide +kernel)) (by decide +kernel), _, rfl, tc_mem (List.mem_of_getElem? (i := 8) (by decide +kernel)) (by decide +kernel)⟩
theorem mv_X6_readHas : tc_MV yX6_readHas 6 := ⟨tc_mem (List.mem_of_getElem? (i := 744) (by decide +kernel)) (by decide +kernel), _, rfl, tc_mem (List.mem_of_getElem? (i := 10) (by decide +kernel)) (by decide +kernel)⟩
theorem mv_X6_readHash : tc_MV yX6_readHash 6 := ⟨tc_mem (List.mem_of_getElem? (i := 739) (by decide +kernel)) (by decide +kernel), _, rfl, tc_mem (List.mem_of_getElem? (i := 9) (by decide +kernel)) (by decide +kernel)⟩
theorem mv_X6_readLine : tc_MV yX6_readLine 6 := ⟨tc_mem (List.mem_of_getElem? (i := 656) (by decide +kernel)) (by decide +kernel), _, rfl, tc_mem (List.mem_of_getElem? (i := 2) (by decide +kernel)) (by decide +kernel)⟩
theorem mv_X6_readNumber : tc_MV yX6_readNumber 6 := ⟨tc_mem (List.mem_of_getElem? (i := 725) (by decide +kernel)) (by decide +kernel), _, rfl, tc_mem (List.mem_of_getElem? (i := 6) (by decide +kernel)) (by decide +kernel)⟩
theorem mv_X6_readSetting : tc_MV yX6_readSetting 6 := ⟨tc_mem (List.mem_of_getElem? (i := 717) (by decide +kernel)) (by decide +kernel), _, rfl, tc_mem (List.mem_of_getElem? (i := 5) (by decide +kernel)) (by decide +kernel)⟩
theorem mv_X6_step : tc_MV yX6_step 6 := ⟨tc_mem (List.mem_of_getElem? (i := 645) (by decide +kernel)) (by decide +kernel), _, rfl, tc_mem (List.mem_of_getElem? (i := 0) (by decide +kernel)) (by decide +kernel)⟩
theorem mv_X6_stepOverDigits : tc_MV yX6_stepOverDigits 6 := ⟨tc_mem (List.mem_of_getElem? (i := 652) (by decide +kernel)) (by decide +kernel), _, rfl, tc_mem (List.mem_of_getElem? (i := 1) (by decide +kernel)) (by decide +kernel)⟩
theorem mv_X6_stop : tc_MV yX6_stop 6 := ⟨tc_mem (List.mem_of_getElem? (i := 713) (by decide +kernel)) (by decide +kernel), _, rfl, tc_mem (List.mem_of_getElem? (i := 4) (by decide +kernel)) (by decide +kernel)⟩
theorem mv_X6_wordOf : tc_MV yX6_wordOf 6 := ⟨tc_mem (List.mem_of_getElem? (i := 661) (by decide +kernel)) (by decide +kernel), _, rfl, tc_mem (List.mem_of_getElem? (i := 3) (by decide +kernel)) (by decide +kernel)⟩
theorem mv_X7_addDegrees : tc_MV yX7_addDegrees 7 := ⟨tc_mem (List.mem_of_getElem? (i := 972) (by decide +kernel)) (by decide +kernel), _, rfl, tc_mem (List.mem_of_getElem? (i := 21) (by decide +kernel)) (by decide +kernel)⟩
theorem mv_X7_gather : tc_MV yX7_gather 7 := ⟨tc_mem (List.mem_of_getElem? (i := 966) (by decide +kernel)) (by decide +kernel), _, rfl, tc_mem (List.mem_of_getElem? (i := 967) (by decide +kernel)) (by decide +kernel)⟩
theorem mv_X7_leastOpen : tc_MV yX7_leastOpen 7 := ⟨tc_mem (List.mem_of_getElem? (i := 976) (by decide +kernel)) (by decide +kernel), _, rfl, tc_mem (List.mem_of_getElem? (i := 22) (by decide +kernel)) (by decide +kernel)⟩
theorem mv_X7_peelBucket : tc_MV yX7_peelBucket 7 := ⟨tc_mem (List.mem_of_getElem? (i := 980) (by decide +kernel)) (by decide +kernel), _, rfl, tc_mem (List.mem_of_getElem? (i := 23) (by decide +kernel)) (by decide +kernel)⟩
theorem mv_X7_peelOff : tc_MV yX7_peelOff 7 := ⟨tc_mem (List.mem_of_getElem? (i := 962) (by decide +kernel)) (by decide +kernel), _, rfl, tc_mem (List.mem_of_getElem? (i := 963) (by decide +kernel)) (by decide +kernel)⟩
theorem mv_X8_begin : tc_MV yX8_begin 8 := ⟨tc_mem (List.mem_of_getElem? (i := 161) (by decide +kernel)) (by decide +kernel), _, rfl, tc_mem (List.mem_of_getElem? (i := 162) (by decide +kernel)) (by decide +kernel)⟩
theorem mv_X8_copyFrom : tc_MV yX8_copyFrom 8 := ⟨tc_mem (List.mem_of_getElem? (i := 755) (by decide +kernel)) (by decide +kernel), _, rfl, tc_mem (List.mem_of_getElem? (i := 756) (by decide +kernel)) (by decide +kernel)⟩
theorem mv_X8_drawHashes : tc_MV yX8_drawHashes 8 := ⟨tc_mem (List.mem_of_getElem? (i := 870) (by decide +kernel)) (by decide +kernel), _, rfl, tc_mem (List.mem_of_getElem? (i := 871) (by decide +kernel)) (by decide +kernel)⟩
theorem mv_X8_firstOf : tc_MV yX8_firstOf 8 := ⟨tc_mem (List.mem_of_getElem? (i := 767) (by decide +kernel)) (by decide +kernel), _, rfl, tc_mem (List.mem_of_getElem? (i := 768) (by decide +kernel)) (by decide +kernel)⟩
theorem mv_X8_secondOf : tc_MV yX8_secondOf 8 := ⟨tc_mem (List.mem_of_getElem? (i := 779) (by decide +kernel)) (by decide +kernel), _, rfl, tc_mem (List.mem_of_getElem? (i := 780) (by decide +kernel)) (by decide +kernel)⟩
theorem mv_X8_takeHashes : tc_MV yX8_takeHashes 8 := ⟨tc_mem (List.mem_of_getElem? (i := 165) (by decide +kernel)) (by decide +kernel), _, rfl, tc_mem (List.mem_of_getElem? (i := 166) (by decide +kernel)) (by decide +kernel)⟩
theorem mv_X9_begin : tc_MV yX9_begin 9 := ⟨tc_mem (List.mem_of_getElem? (i := 751) (by decide +kernel)) (by decide +kernel), _, rfl, tc_mem (List.mem_of_getElem? (i := 752) (by decide +kernel)) (by decide +kernel)⟩
theorem mv_X9_bucketOf : tc_MV yX9_bucketOf 9 := ⟨tc_mem (List.mem_of_getElem? (i := 909) (by decide +kernel)) (by decide +kernel), _, rfl, tc_mem (List.mem_of_getElem? (i := 910) (by decide +kernel)) (by decide +kernel)⟩
theorem mv_X9_clear : tc_MV yX9_clear 9 := ⟨tc_mem (List.mem_of_getElem? (i := 249) (by decide +kernel)) (by decide +kernel), _, rfl, tc_mem (List.mem_of_getElem? (i := 250) (by decide +kernel)) (by decide +kernel)⟩
theorem mv_X9_closeStash : tc_MV yX9_closeStash 9 := ⟨tc_mem (List.mem_of_getElem? (i := 922) (by decide +kernel)) (by decide +kernel), _, rfl, tc_mem (List.mem_of_getElem? (i := 923) (by decide +kernel)) (by decide +kernel)⟩
theorem mv_X9_copyFrom : tc_MV yX9_copyFrom 9 := ⟨tc_mem (List.mem_of_getElem? (i := 845) (by decide +kernel)) (by decide +kernel), _, rfl, tc_mem (List.mem_of_getElem? (i := 846) (by decide +kernel)) (by decide +kernel)⟩
theorem mv_X9_emptyHand : tc_MV yX9_emptyHand 9 := ⟨tc_mem (List.mem_of_getElem? (i := 875) (by decide +kernel)) (by decide +kernel), _, rfl, tc_mem (List.mem_of_getElem? (i := 876) (by decide +kernel)) (by decide +kernel)⟩
theorem mv_X9_emptyPlaceIn : tc_MV yX9_emptyPlaceIn 9 := ⟨tc_mem (List.mem_of_getElem? (i := 795) (by decide +kernel)) (by decide +kernel), _, rfl, tc_mem (List.mem_of_getElem? (i := 796) (by decide +kernel)) (by decide +kernel)⟩
theorem mv_X9_entries : tc_MV yX9_entries 9 := ⟨tc_mem (List.mem_of_getElem? (i := 880) (by decide +kernel)) (by decide +kernel), _, rfl, tc_mem (List.mem_of_getElem? (i := 881) (by decide +kernel)) (by decide +kernel)⟩
theorem mv_X9_entriesFrom : tc_MV yX9_entriesFrom 9 := ⟨tc_mem (List.mem_of_getElem? (i := 885) (by decide +kernel)) (by decide +kernel), _, rfl, tc_mem (List.mem_of_getElem? (i := 19) (by decide +kernel)) (by decide +kernel)⟩
theorem mv_X9_entriesTill : tc_MV yX9_entriesTill 9 := ⟨tc_mem (List.mem_of_getElem? (i := 1009) (by decide +kernel)) (by decide +kernel), _, rfl, tc_mem (List.mem_of_getElem? (i := 1010) (by decide +kernel)) (by decide +kernel)⟩
theorem mv_X9_goBackTo : tc_MV yX9_goBackTo 9 := ⟨tc_mem (List.mem_of_getElem? (i := 861) (by decide +kernel)) (by decide +kernel), _, rfl, tc_mem (List.mem_of_getElem? (i := 862) (by decide +kernel)) (by decide +kernel)⟩
theorem mv_X9_indexIn : tc_MV yX9_indexIn 9 := ⟨tc_mem (List.mem_of_getElem? (i := 772) (by decide +kernel)) (by decide +kernel), _, rfl, tc_mem (List.mem_of_getElem? (i := 11) (by decide +kernel)) (by decide +kernel)⟩
theorem mv_X9_indexOf : tc_MV yX9_indexOf 9 := ⟨tc_mem (List.mem_of_getElem? (i := 1017) (by decide +kernel)) (by decide +kernel), _, rfl, tc_mem (List.mem_of_getElem? (i := 1018) (by decide +kernel)) (by decide +kernel)⟩
theorem mv_X9_locate : tc_MV yX9_locate 9 := ⟨tc_mem (List.mem_of_getElem? (i := 763) (by decide +kernel)) (by decide +kernel), _, rfl, tc_mem (List.mem_of_getElem? (i := 764) (by decide +kernel)) (by decide +kernel)⟩
theorem mv_X9_move : tc_MV yX9_move 9 := ⟨tc_mem (List.mem_of_getElem? (i := 799) (by decide +kernel)) (by decide +kernel), _, rfl, tc_mem (List.mem_of_getElem? (i := 800) (by decide +kernel)) (by decide +kernel)⟩
theorem mv_X9_movedInAll : tc_MV yX9_movedInAll 9 := ⟨tc_mem (List.mem_of_getElem? (i := 1136) (by decide +kernel)) (by decide +kernel), _, rfl, tc_mem (List.mem_of_getElem? (i := 1137) (by decide +kernel)) (by decide +kernel)⟩
theorem mv_X9_movedMost : tc_MV yX9_movedMost 9 := ⟨tc_mem (List.mem_of_getElem? (i := 1140) (by decide +kernel)) (by decide +kernel), _, rfl, tc_mem (List.mem_of_getElem? (i := 1141) (by decide +kernel)) (by decide +kernel)⟩
theorem mv_X9_openBucketFor : tc_MV yX9_openBucketFor 9 := ⟨tc_mem (List.mem_of_getElem? (i := 791) (by decide +kernel)) (by decide +kernel), _, rfl, tc_mem (List.mem_of_getElem? (i := 792) (by decide +kernel)) (by decide +kernel)⟩
theorem mv_X9_otherOf : tc_MV yX9_otherOf 9 := ⟨tc_mem (List.mem_of_getElem? (i := 1021) (by decide +kernel)) (by decide +kernel), _, rfl, tc_mem (List.mem_of_getElem? (i := 1022) (by decide +kernel)) (by decide +kernel)⟩
theorem mv_X9_readsMost : tc_MV yX9_readsMost 9 := ⟨tc_mem (List.mem_of_getElem? (i := 1144) (by decide +kernel)) (by decide +kernel), _, rfl, tc_mem (List.mem_of_getElem? (i := 1145) (by decide +kernel)) (by decide +kernel)⟩
theorem mv_X9_readsTill : tc_MV yX9_readsTill 9 := ⟨tc_mem (List.mem_of_getElem? (i := 905) (by decide +kernel)) (by decide +kernel), _, rfl, tc_mem (List.mem_of_getElem? (i := 906) (by decide +kernel)) (by decide +kernel)⟩
theorem mv_X9_startOf : tc_MV yX9_startOf 9 := ⟨tc_mem (List.mem_of_getElem? (i := 775) (by decide +kernel)) (by decide +kernel), _, rfl, tc_mem (List.mem_of_getElem? (i := 776) (by decide +kernel)) (by decide +kernel)⟩
theorem mv_X9_swapHand : tc_MV yX9_swapHand 9 := ⟨tc_mem (List.mem_of_getElem? (i := 832) (by decide +kernel)) (by decide +kernel), _, rfl, tc_mem (List.mem_of_getElem? (i := 833) (by decide +kernel)) (by decide +kernel)⟩
theorem mv_X9_takeInHand : tc_MV yX9_takeInHand 9 := ⟨tc_mem (List.mem_of_getElem? (i := 783) (by decide +kernel)) (by decide +kernel), _, rfl, tc_mem (List.mem_of_getElem? (i := 784) (by decide +kernel)) (by decide +kernel)⟩
set_option maxRecDepth 100000 in
theorem mw_J0_charAt_5068e : tc_MW yJ0_charAt_5068e cJ0_charAt_5068e 2 (some .char) 1 := ⟨tc_mem (List.mem_of_getElem? (i := 676) rfl) (by decide +kernel), tc_mem (List.mem_of_getElem? (i := 113) (by decide +kernel)) (by decide +kernel), by decide +kernel⟩
set_option maxRecDepth 100000 in
theorem mw_J0_checkIndex_df160 : tc_MW yJ0_checkIndex_df160 cJ0_checkIndex_df160 2 none 2 := ⟨tc_mem (List.mem_of_getElem? (i := 686) rfl) (by decide +kernel), tc_mem (List.mem_of_getElem? (i := 113) (by decide +kernel)) (by decide +kernel), by decide +kernel⟩
set_option maxRecDepth 100000 in
theorem mw_J0_coder_7d493 : tc_MW yJ0_coder_7d493 cJ0_coder_7d493 1 (some .byte) 0 := ⟨tc_mem (List.mem_of_getElem? (i := 670) rfl) (by decide +kernel), tc_mem (List.mem_of_getElem? (i := 113) (by decide +kernel)) (by decide +kernel), by decide +kernel⟩
set_option maxRecDepth 100000 in
theorem mw_J0_isLatin1_aae02 : tc_MW yJ0_isLatin1_aae02 cJ0_isLatin1_aae02 1 (some .boolean) 0 := ⟨tc_mem (List.mem_of_getElem? (i := 680) rfl) (by decide +kernel), tc_mem (List.mem_of_getElem? (i := 113) (by decide +kernel)) (by decide +kernel), by decide +kernel⟩
set_option maxRecDepth 100000 in
theorem mw_J0_length_8abf5 : tc_MW yJ0_length_8abf5 cJ0_length_8abf5 1 (some .int) 0 := ⟨tc_mem (List.mem_of_getElem? (i := 666) rfl) (by decide +kernel), tc_mem (List.mem_of_getElem? (i := 113) (by decide +kernel)) (by decide +kernel), by decide +kernel⟩
set_option maxRecDepth 100000 in
theorem mw_J1_charAt_3b067 : tc_MW yJ1_charAt_3b067 cJ1_charAt_3b067 2 (some .char) 2 := ⟨tc_mem (List.mem_of_getElem? (i := 683) rfl) (by decide +kernel), tc_mem (List.mem_of_getElem? (i := 114) (by decide +kernel)) (by decide +kernel), by decide +kernel⟩
set_option maxRecDepth 100000 in
theorem mw_J3_checkIndex_8e157 : tc_MW yJ3_checkIndex_8e157 cJ3_checkIndex_8e157 3 (some .int) 3 := ⟨tc_mem (List.mem_of_getElem? (i := 691) rfl) (by decide +kernel), tc_mem (List.mem_of_getElem? (i := 115) (by decide +kernel)) (by decide +kernel), by decide +kernel⟩
set_option maxRecDepth 100000 in
theorem mw_J7_fill_53178 : tc_MW yJ7_fill_53178 cJ7_fill_53178 4 none 2 := ⟨tc_mem (List.mem_of_getElem? (i := 254) rfl) (by decide +kernel), tc_mem (List.mem_of_getElem? (i := 103) (by decide +kernel)) (by decide +kernel), by decide +kernel⟩
set_option maxRecDepth 100000 in
theorem mw_X0_allFit : tc_MW yX0_allFit cX0_allFit 3 (some .boolean) 2 := ⟨tc_mem (List.mem_of_getElem? (i := 1079) rfl) (by decide +kernel), tc_mem (List.mem_of_getElem? (i := 109) (by decide +kernel)) (by decide +kernel), by decide +kernel⟩
set_option maxRecDepth 100000 in
theorem mw_X0_change : tc_MW yX0_change cX0_change 3 none 2 := ⟨tc_mem (List.mem_of_getElem? (i := 1116) rfl) (by decide +kernel), tc_mem (List.mem_of_getElem? (i := 109) (by decide +kernel)) (by decide +kernel), by decide +kernel⟩
set_option maxRecDepth 100000 in
theorem mw_X0_layKey : tc_MW yX0_layKey cX0_layKey 3 (some .int) 1 := ⟨tc_mem (List.mem_of_getElem? (i := 1088) rfl) (by decide +kernel), tc_mem (List.mem_of_getElem? (i := 109) (by decide +kernel)) (by decide +kernel), by decide +kernel⟩
set_option maxRecDepth 100000 in
theorem mw_X0_leastOf : tc_MW yX0_leastOf cX0_leastOf 5 (some .int) 2 := ⟨tc_mem (List.mem_of_getElem? (i := 1108) rfl) (by decide +kernel), tc_mem (List.mem_of_getElem? (i := 109) (by decide +kernel)) (by decide +kernel), by decide +kernel⟩
set_option maxRecDepth 100000 in
theorem mw_X0_leftOut : tc_MW yX0_leftOut cX0_leftOut 6 (some .int) 3 := ⟨tc_mem (List.mem_of_getElem? (i := 1083) rfl) (by decide +kernel), tc_mem (List.mem_of_getElem? (i := 109) (by decide +kernel)) (by decide +kernel), by decide +kernel⟩
set_option maxRecDepth 100000 in
theorem mw_X0_mostOf : tc_MW yX0_mostOf cX0_mostOf 1 (some .int) 1 := ⟨tc_mem (List.mem_of_getElem? (i := 1112) rfl) (by decide +kernel), tc_mem (List.mem_of_getElem? (i := 109) (by decide +kernel)) (by decide +kernel), by decide +kernel⟩
set_option maxRecDepth 100000 in
theorem mw_X0_takeSettings : tc_MW yX0_takeSettings cX0_takeSettings 2 none 1 := ⟨tc_mem (List.mem_of_getElem? (i := 1074) rfl) (by decide +kernel), tc_mem (List.mem_of_getElem? (i := 109) (by decide +kernel)) (by decide +kernel), by decide +kernel⟩
set_option maxRecDepth 100000 in
theorem mw_X10_append : tc_MW yX10_append cX10_append 3 none 1 := ⟨tc_mem (List.mem_of_getElem? (i := 626) rfl) (by decide +kernel), tc_mem (List.mem_of_getElem? (i := 99) (by decide +kernel)) (by decide +kernel), by decide +kernel⟩
set_option maxRecDepth 100000 in
theorem mw_X10_copyFrom : tc_MW yX10_copyFrom cX10_copyFrom 2 none 1 := ⟨tc_mem (List.mem_of_getElem? (i := 1184) rfl) (by decide +kernel), tc_mem (List.mem_of_getElem? (i := 99) (by decide +kernel)) (by decide +kernel), by decide +kernel⟩
set_option maxRecDepth 100000 in
theorem mw_X11_answerFor : tc_MW yX11_answerFor cX11_answerFor 2 (some .int) 1 := ⟨tc_mem (List.mem_of_getElem? (i := 1042) rfl) (by decide +kernel), tc_mem (List.mem_of_getElem? (i := 98) (by decide +kernel)) (by decide +kernel), by decide +kernel⟩
set_option maxRecDepth 100000 in
theorem mw_X11_areHashes : tc_MW yX11_areHashes cX11_areHashes 2 (some .boolean) 2 := ⟨tc_mem (List.mem_of_getElem? (i := 947) rfl) (by decide +kernel), tc_mem (List.mem_of_getElem? (i := 98) (by decide +kernel)) (by decide +kernel), by decide +kernel⟩
set_option maxRecDepth 100000 in
theorem mw_X11_imageOf : tc_MW yX11_imageOf cX11_imageOf 2 (some (.object "TwoChoices$World")) 1 := ⟨tc_mem (List.mem_of_getElem? (i := 1176) rfl) (by decide +kernel), tc_mem (List.mem_of_getElem? (i := 98) (by decide +kernel)) (by decide +kernel), by decide +kernel⟩
set_option maxRecDepth 100000 in
theorem mw_X11_isLoad : tc_MW yX11_isLoad cX11_isLoad 1 (some .boolean) 1 := ⟨tc_mem (List.mem_of_getElem? (i := 994) rfl) (by decide +kernel), tc_mem (List.mem_of_getElem? (i := 98) (by decide +kernel)) (by decide +kernel), by decide +kernel⟩
set_option maxRecDepth 100000 in
theorem mw_X11_isNumber : tc_MW yX11_isNumber cX11_isNumber 1 (some .boolean) 1 := ⟨tc_mem (List.mem_of_getElem? (i := 897) rfl) (by decide +kernel), tc_mem (List.mem_of_getElem? (i := 98) (by decide +kernel)) (by decide +kernel), by decide +kernel⟩
set_option maxRecDepth 100000 in
theorem mw_X11_tell : tc_MW yX11_tell cX11_tell 3 (some .int) 2 := ⟨tc_mem (List.mem_of_getElem? (i := 1131) rfl) (by decide +kernel), tc_mem (List.mem_of_getElem? (i := 98) (by decide +kernel)) (by decide +kernel), by decide +kernel⟩
set_option maxRecDepth 100000 in
theorem mw_X11_tellOfSettings : tc_MW yX11_tellOfSettings cX11_tellOfSettings 3 (some .int) 2 := ⟨tc_mem (List.mem_of_getElem? (i := 1134) rfl) (by decide +kernel), tc_mem (List.mem_of_getElem? (i := 98) (by decide +kernel)) (by decide +kernel), by decide +kernel⟩
set_option maxRecDepth 100000 in
theorem mw_X12_adds : tc_MW yX12_adds cX12_adds 3 none 1 := ⟨tc_mem (List.mem_of_getElem? (i := 1378) rfl) (by decide +kernel), tc_mem (List.mem_of_getElem? (i := 111) (by decide +kernel)) (by decide +kernel), by decide +kernel⟩
set_option maxRecDepth 100000 in
theorem mw_X12_addsNew : tc_MW yX12_addsNew cX12_addsNew 4 none 3 := ⟨tc_mem (List.mem_of_getElem? (i := 1473) rfl) (by decide +kernel), tc_mem (List.mem_of_getElem? (i := 111) (by decide +kernel)) (by decide +kernel), by decide +kernel⟩
set_option maxRecDepth 100000 in
theorem mw_X12_alsoWrong : tc_MW yX12_alsoWrong cX12_alsoWrong 3 none 2 := ⟨tc_mem (List.mem_of_getElem? (i := 1685) rfl) (by decide +kernel), tc_mem (List.mem_of_getElem? (i := 111) (by decide +kernel)) (by decide +kernel), by decide +kernel⟩
set_option maxRecDepth 100000 in
theorem mw_X12_asNow : tc_MW yX12_asNow cX12_asNow 2 none 0 := ⟨tc_mem (List.mem_of_getElem? (i := 1442) rfl) (by decide +kernel), tc_mem (List.mem_of_getElem? (i := 111) (by decide +kernel)) (by decide +kernel), by decide +kernel⟩
set_option maxRecDepth 100000 in
theorem mw_X12_begins : tc_MW yX12_begins cX12_begins 3 none 1 := ⟨tc_mem (List.mem_of_getElem? (i := 1200) rfl) (by decide +kernel), tc_mem (List.mem_of_getElem? (i := 111) (by decide +kernel)) (by decide +kernel), by decide +kernel⟩
set_option maxRecDepth 100000 in
theorem mw_X12_below : tc_MW yX12_below cX12_below 2 (some .int) 1 := ⟨tc_mem (List.mem_of_getElem? (i := 1485) rfl) (by decide +kernel), tc_mem (List.mem_of_getElem? (i := 111) (by decide +kernel)) (by decide +kernel), by decide +kernel⟩
set_option maxRecDepth 100000 in
theorem mw_X12_bitsOf : tc_MW yX12_bitsOf cX12_bitsOf 3 (some .int) 1 := ⟨tc_mem (List.mem_of_getElem? (i := 1500) rfl) (by decide +kernel), tc_mem (List.mem_of_getElem? (i := 111) (by decide +kernel)) (by decide +kernel), by decide +kernel⟩
set_option maxRecDepth 100000 in
theorem mw_X12_bucketOf : tc_MW yX12_bucketOf cX12_bucketOf 2 (some .int) 1 := ⟨tc_mem (List.mem_of_getElem? (i := 1564) rfl) (by decide +kernel), tc_mem (List.mem_of_getElem? (i := 111) (by decide +kernel)) (by decide +kernel), by decide +kernel⟩
set_option maxRecDepth 100000 in
theorem mw_X12_byteAt : tc_MW yX12_byteAt cX12_byteAt 2 (some .int) 1 := ⟨tc_mem (List.mem_of_getElem? (i := 1646) rfl) (by decide +kernel), tc_mem (List.mem_of_getElem? (i := 111) (by decide +kernel)) (by decide +kernel), by decide +kernel⟩
set_option maxRecDepth 100000 in
theorem mw_X12_cell : tc_MW yX12_cell cX12_cell 3 (some .int) 3 := ⟨tc_mem (List.mem_of_getElem? (i := 1310) rfl) (by decide +kernel), tc_mem (List.mem_of_getElem? (i := 111) (by decide +kernel)) (by decide +kernel), by decide +kernel⟩
set_option maxRecDepth 100000 in
theorem mw_X12_chainOf : tc_MW yX12_chainOf cX12_chainOf 9 (some .int) 2 := ⟨tc_mem (List.mem_of_getElem? (i := 1334) rfl) (by decide +kernel), tc_mem (List.mem_of_getElem? (i := 111) (by decide +kernel)) (by decide +kernel), by decide +kernel⟩
set_option maxRecDepth 100000 in
theorem mw_X12_comesBack : tc_MW yX12_comesBack cX12_comesBack 4 none 2 := ⟨tc_mem (List.mem_of_getElem? (i := 1422) rfl) (by decide +kernel), tc_mem (List.mem_of_getElem? (i := 111) (by decide +kernel)) (by decide +kernel), by decide +kernel⟩
set_option maxRecDepth 100000 in
theorem mw_X12_comesIn : tc_MW yX12_comesIn cX12_comesIn 8 (some .int) 5 := ⟨tc_mem (List.mem_of_getElem? (i := 1409) rfl) (by decide +kernel), tc_mem (List.mem_of_getElem? (i := 111) (by decide +kernel)) (by decide +kernel), by decide +kernel⟩
set_option maxRecDepth 100000 in
theorem mw_X12_copies : tc_MW yX12_copies cX12_copies 4 none 2 := ⟨tc_mem (List.mem_of_getElem? (i := 1366) rfl) (by decide +kernel), tc_mem (List.mem_of_getElem? (i := 111) (by decide +kernel)) (by decide +kernel), by decide +kernel⟩
set_option maxRecDepth 100000 in
theorem mw_X12_count : tc_MW yX12_count cX12_count 2 (some .int) 1 := ⟨tc_mem (List.mem_of_getElem? (i := 1609) rfl) (by decide +kernel), tc_mem (List.mem_of_getElem? (i := 111) (by decide +kernel)) (by decide +kernel), by decide +kernel⟩
set_option maxRecDepth 100000 in
theorem mw_X12_counts : tc_MW yX12_counts cX12_counts 3 (some .int) 2 := ⟨tc_mem (List.mem_of_getElem? (i := 1617) rfl) (by decide +kernel), tc_mem (List.mem_of_getElem? (i := 111) (by decide +kernel)) (by decide +kernel), by decide +kernel⟩
set_option maxRecDepth 100000 in
theorem mw_X12_doAllCome : tc_MW yX12_doAllCome cX12_doAllCome 4 (some .boolean) 2 := ⟨tc_mem (List.mem_of_getElem? (i := 1434) rfl) (by decide +kernel), tc_mem (List.mem_of_getElem? (i := 111) (by decide +kernel)) (by decide +kernel), by decide +kernel⟩
set_option maxRecDepth 100000 in
theorem mw_X12_draws : tc_MW yX12_draws cX12_draws 3 (some .int) 2 := ⟨tc_mem (List.mem_of_getElem? (i := 1417) rfl) (by decide +kernel), tc_mem (List.mem_of_getElem? (i := 111) (by decide +kernel)) (by decide +kernel), by decide +kernel⟩
set_option maxRecDepth 100000 in
theorem mw_X12_drawsBy : tc_MW yX12_drawsBy cX12_drawsBy 3 none 1 := ⟨tc_mem (List.mem_of_getElem? (i := 1481) rfl) (by decide +kernel), tc_mem (List.mem_of_getElem? (i := 111) (by decide +kernel)) (by decide +kernel), by decide +kernel⟩
set_option maxRecDepth 100000 in
theorem mw_X12_drops : tc_MW yX12_drops cX12_drops 8 (some .int) 2 := ⟨tc_mem (List.mem_of_getElem? (i := 1548) rfl) (by decide +kernel), tc_mem (List.mem_of_getElem? (i := 111) (by decide +kernel)) (by decide +kernel), by decide +kernel⟩
set_option maxRecDepth 100000 in
theorem mw_X12_empties : tc_MW yX12_empties cX12_empties 3 none 1 := ⟨tc_mem (List.mem_of_getElem? (i := 1401) rfl) (by decide +kernel), tc_mem (List.mem_of_getElem? (i := 111) (by decide +kernel)) (by decide +kernel), by decide +kernel⟩
set_option maxRecDepth 100000 in
theorem mw_X12_emptyIn : tc_MW yX12_emptyIn cX12_emptyIn 4 (some .int) 2 := ⟨tc_mem (List.mem_of_getElem? (i := 1326) rfl) (by decide +kernel), tc_mem (List.mem_of_getElem? (i := 111) (by decide +kernel)) (by decide +kernel), by decide +kernel⟩
set_option maxRecDepth 100000 in
theorem mw_X12_entries : tc_MW yX12_entries cX12_entries 2 (some .int) 1 := ⟨tc_mem (List.mem_of_getElem? (i := 1621) rfl) (by decide +kernel), tc_mem (List.mem_of_getElem? (i := 111) (by decide +kernel)) (by decide +kernel), by decide +kernel⟩
set_option maxRecDepth 100000 in
theorem mw_X12_fails : tc_MW yX12_fails cX12_fails 1 none 0 := ⟨tc_mem (List.mem_of_getElem? (i := 1681) rfl) (by decide +kernel), tc_mem (List.mem_of_getElem? (i := 111) (by decide +kernel)) (by decide +kernel), by decide +kernel⟩
set_option maxRecDepth 100000 in
theorem mw_X12_freeFor : tc_MW yX12_freeFor cX12_freeFor 5 (some .int) 2 := ⟨tc_mem (List.mem_of_getElem? (i := 1318) rfl) (by decide +kernel), tc_mem (List.mem_of_getElem? (i := 111) (by decide +kernel)) (by decide +kernel), by decide +kernel⟩
set_option maxRecDepth 100000 in
theorem mw_X12_fullTaken : tc_MW yX12_fullTaken cX12_fullTaken 1 (some .int) 0 := ⟨tc_mem (List.mem_of_getElem? (i := 1703) rfl) (by decide +kernel), tc_mem (List.mem_of_getElem? (i := 111) (by decide +kernel)) (by decide +kernel), by decide +kernel⟩
set_option maxRecDepth 100000 in
theorem mw_X12_goesOut : tc_MW yX12_goesOut cX12_goesOut 4 none 2 := ⟨tc_mem (List.mem_of_getElem? (i := 1358) rfl) (by decide +kernel), tc_mem (List.mem_of_getElem? (i := 111) (by decide +kernel)) (by decide +kernel), by decide +kernel⟩
set_option maxRecDepth 100000 in
theorem mw_X12_greatestRead : tc_MW yX12_greatestRead cX12_greatestRead 5 (some .int) 1 := ⟨tc_mem (List.mem_of_getElem? (i := 1629) rfl) (by decide +kernel), tc_mem (List.mem_of_getElem? (i := 111) (by decide +kernel)) (by decide +kernel), by decide +kernel⟩
set_option maxRecDepth 100000 in
theorem mw_X12_grows : tc_MW yX12_grows cX12_grows 7 (some .boolean) 4 := ⟨tc_mem (List.mem_of_getElem? (i := 1532) rfl) (by decide +kernel), tc_mem (List.mem_of_getElem? (i := 111) (by decide +kernel)) (by decide +kernel), by decide +kernel⟩
set_option maxRecDepth 100000 in
theorem mw_X12_hasWord : tc_MW yX12_hasWord cX12_hasWord 4 (some .boolean) 1 := ⟨tc_mem (List.mem_of_getElem? (i := 1673) rfl) (by decide +kernel), tc_mem (List.mem_of_getElem? (i := 111) (by decide +kernel)) (by decide +kernel), by decide +kernel⟩
set_option maxRecDepth 100000 in
theorem mw_X12_hashBy : tc_MW yX12_hashBy cX12_hashBy 4 (some .int) 3 := ⟨tc_mem (List.mem_of_getElem? (i := 1458) rfl) (by decide +kernel), tc_mem (List.mem_of_getElem? (i := 111) (by decide +kernel)) (by decide +kernel), by decide +kernel⟩
set_option maxRecDepth 100000 in
theorem mw_X12_hashOf : tc_MW yX12_hashOf cX12_hashOf 4 (some .int) 3 := ⟨tc_mem (List.mem_of_getElem? (i := 1322) rfl) (by decide +kernel), tc_mem (List.mem_of_getElem? (i := 111) (by decide +kernel)) (by decide +kernel), by decide +kernel⟩
set_option maxRecDepth 100000 in
theorem mw_X12_inBucket : tc_MW yX12_inBucket cX12_inBucket 5 (some .int) 2 := ⟨tc_mem (List.mem_of_getElem? (i := 1504) rfl) (by decide +kernel), tc_mem (List.mem_of_getElem? (i := 111) (by decide +kernel)) (by decide +kernel), by decide +kernel⟩
set_option maxRecDepth 100000 in
theorem mw_X12_isDigit : tc_MW yX12_isDigit cX12_isDigit 1 (some .boolean) 1 := ⟨tc_mem (List.mem_of_getElem? (i := 1654) rfl) (by decide +kernel), tc_mem (List.mem_of_getElem? (i := 111) (by decide +kernel)) (by decide +kernel), by decide +kernel⟩
set_option maxRecDepth 100000 in
theorem mw_X12_isEntry : tc_MW yX12_isEntry cX12_isEntry 2 (some .boolean) 1 := ⟨tc_mem (List.mem_of_getElem? (i := 1330) rfl) (by decide +kernel), tc_mem (List.mem_of_getElem? (i := 111) (by decide +kernel)) (by decide +kernel), by decide +kernel⟩
set_option maxRecDepth 100000 in
theorem mw_X12_isGood : tc_MW yX12_isGood cX12_isGood 1 (some .boolean) 0 := ⟨tc_mem (List.mem_of_getElem? (i := 1660) rfl) (by decide +kernel), tc_mem (List.mem_of_getElem? (i := 111) (by decide +kernel)) (by decide +kernel), by decide +kernel⟩
set_option maxRecDepth 100000 in
theorem mw_X12_isIn : tc_MW yX12_isIn cX12_isIn 3 (some .boolean) 3 := ⟨tc_mem (List.mem_of_getElem? (i := 1393) rfl) (by decide +kernel), tc_mem (List.mem_of_getElem? (i := 111) (by decide +kernel)) (by decide +kernel), by decide +kernel⟩
set_option maxRecDepth 100000 in
theorem mw_X12_isKey : tc_MW yX12_isKey cX12_isKey 1 (some .boolean) 1 := ⟨tc_mem (List.mem_of_getElem? (i := 1465) rfl) (by decide +kernel), tc_mem (List.mem_of_getElem? (i := 111) (by decide +kernel)) (by decide +kernel), by decide +kernel⟩
set_option maxRecDepth 100000 in
theorem mw_X12_isLetter : tc_MW yX12_isLetter cX12_isLetter 1 (some .boolean) 1 := ⟨tc_mem (List.mem_of_getElem? (i := 1649) rfl) (by decide +kernel), tc_mem (List.mem_of_getElem? (i := 111) (by decide +kernel)) (by decide +kernel), by decide +kernel⟩
set_option maxRecDepth 100000 in
theorem mw_X12_keyOf : tc_MW yX12_keyOf cX12_keyOf 2 (some .int) 1 := ⟨tc_mem (List.mem_of_getElem? (i := 1314) rfl) (by decide +kernel), tc_mem (List.mem_of_getElem? (i := 111) (by decide +kernel)) (by decide +kernel), by decide +kernel⟩
set_option maxRecDepth 100000 in
theorem mw_X12_kickTaken : tc_MW yX12_kickTaken cX12_kickTaken 1 (some .int) 0 := ⟨tc_mem (List.mem_of_getElem? (i := 1695) rfl) (by decide +kernel), tc_mem (List.mem_of_getElem? (i := 111) (by decide +kernel)) (by decide +kernel), by decide +kernel⟩
set_option maxRecDepth 100000 in
theorem mw_X12_lays : tc_MW yX12_lays cX12_lays 6 none 5 := ⟨tc_mem (List.mem_of_getElem? (i := 1405) rfl) (by decide +kernel), tc_mem (List.mem_of_getElem? (i := 111) (by decide +kernel)) (by decide +kernel), by decide +kernel⟩
set_option maxRecDepth 100000 in
theorem mw_X12_laysAway : tc_MW yX12_laysAway cX12_laysAway 9 none 2 := ⟨tc_mem (List.mem_of_getElem? (i := 1338) rfl) (by decide +kernel), tc_mem (List.mem_of_getElem? (i := 111) (by decide +kernel)) (by decide +kernel), by decide +kernel⟩
set_option maxRecDepth 100000 in
theorem mw_X12_laysFar : tc_MW yX12_laysFar cX12_laysFar 8 none 3 := ⟨tc_mem (List.mem_of_getElem? (i := 1450) rfl) (by decide +kernel), tc_mem (List.mem_of_getElem? (i := 111) (by decide +kernel)) (by decide +kernel), by decide +kernel⟩
set_option maxRecDepth 100000 in
theorem mw_X12_leads : tc_MW yX12_leads cX12_leads 6 (some .boolean) 3 := ⟨tc_mem (List.mem_of_getElem? (i := 1346) rfl) (by decide +kernel), tc_mem (List.mem_of_getElem? (i := 111) (by decide +kernel)) (by decide +kernel), by decide +kernel⟩
set_option maxRecDepth 100000 in
theorem mw_X12_leastLeft : tc_MW yX12_leastLeft cX12_leastLeft 5 (some .int) 2 := ⟨tc_mem (List.mem_of_getElem? (i := 1397) rfl) (by decide +kernel), tc_mem (List.mem_of_getElem? (i := 111) (by decide +kernel)) (by decide +kernel), by decide +kernel⟩
set_option maxRecDepth 100000 in
theorem mw_X12_leftIn : tc_MW yX12_leftIn cX12_leftIn 5 (some .int) 2 := ⟨tc_mem (List.mem_of_getElem? (i := 1386) rfl) (by decide +kernel), tc_mem (List.mem_of_getElem? (i := 111) (by decide +kernel)) (by decide +kernel), by decide +kernel⟩
set_option maxRecDepth 100000 in
theorem mw_X12_lies : tc_MW yX12_lies cX12_lies 6 (some .int) 2 := ⟨tc_mem (List.mem_of_getElem? (i := 1469) rfl) (by decide +kernel), tc_mem (List.mem_of_getElem? (i := 111) (by decide +kernel)) (by decide +kernel), by decide +kernel⟩
set_option maxRecDepth 100000 in
theorem mw_X12_lists : tc_MW yX12_lists cX12_lists 4 none 1 := ⟨tc_mem (List.mem_of_getElem? (i := 1374) rfl) (by decide +kernel), tc_mem (List.mem_of_getElem? (i := 111) (by decide +kernel)) (by decide +kernel), by decide +kernel⟩
set_option maxRecDepth 100000 in
theorem mw_X12_loads : tc_MW yX12_loads cX12_loads 9 (some .int) 3 := ⟨tc_mem (List.mem_of_getElem? (i := 1556) rfl) (by decide +kernel), tc_mem (List.mem_of_getElem? (i := 111) (by decide +kernel)) (by decide +kernel), by decide +kernel⟩
set_option maxRecDepth 100000 in
theorem mw_X12_meets : tc_MW yX12_meets cX12_meets 5 (some .boolean) 3 := ⟨tc_mem (List.mem_of_getElem? (i := 1390) rfl) (by decide +kernel), tc_mem (List.mem_of_getElem? (i := 111) (by decide +kernel)) (by decide +kernel), by decide +kernel⟩
set_option maxRecDepth 100000 in
theorem mw_X12_membersOf : tc_MW yX12_membersOf cX12_membersOf 4 (some .int) 1 := ⟨tc_mem (List.mem_of_getElem? (i := 1497) rfl) (by decide +kernel), tc_mem (List.mem_of_getElem? (i := 111) (by decide +kernel)) (by decide +kernel), by decide +kernel⟩
set_option maxRecDepth 100000 in
theorem mw_X12_moved : tc_MW yX12_moved cX12_moved 5 (some .int) 2 := ⟨tc_mem (List.mem_of_getElem? (i := 1625) rfl) (by decide +kernel), tc_mem (List.mem_of_getElem? (i := 111) (by decide +kernel)) (by decide +kernel), by decide +kernel⟩
set_option maxRecDepth 100000 in
theorem mw_X12_moves : tc_MW yX12_moves cX12_moves 4 none 2 := ⟨tc_mem (List.mem_of_getElem? (i := 1354) rfl) (by decide +kernel), tc_mem (List.mem_of_getElem? (i := 111) (by decide +kernel)) (by decide +kernel), by decide +kernel⟩
set_option maxRecDepth 100000 in
theorem mw_X12_numeral : tc_MW yX12_numeral cX12_numeral 5 (some .int) 2 := ⟨tc_mem (List.mem_of_getElem? (i := 1677) rfl) (by decide +kernel), tc_mem (List.mem_of_getElem? (i := 111) (by decide +kernel)) (by decide +kernel), by decide +kernel⟩
set_option maxRecDepth 100000 in
theorem mw_X12_opens : tc_MW yX12_opens cX12_opens 8 (some .int) 2 := ⟨tc_mem (List.mem_of_getElem? (i := 1350) rfl) (by decide +kernel), tc_mem (List.mem_of_getElem? (i := 111) (by decide +kernel)) (by decide +kernel), by decide +kernel⟩
set_option maxRecDepth 100000 in
theorem mw_X12_otherBy : tc_MW yX12_otherBy cX12_otherBy 5 (some .int) 3 := ⟨tc_mem (List.mem_of_getElem? (i := 1454) rfl) (by decide +kernel), tc_mem (List.mem_of_getElem? (i := 111) (by decide +kernel)) (by decide +kernel), by decide +kernel⟩
set_option maxRecDepth 100000 in
theorem mw_X12_otherOf : tc_MW yX12_otherOf cX12_otherOf 6 (some .int) 3 := ⟨tc_mem (List.mem_of_getElem? (i := 1342) rfl) (by decide +kernel), tc_mem (List.mem_of_getElem? (i := 111) (by decide +kernel)) (by decide +kernel), by decide +kernel⟩
set_option maxRecDepth 100000 in
theorem mw_X12_overBy : tc_MW yX12_overBy cX12_overBy 11 (some .int) 2 := ⟨tc_mem (List.mem_of_getElem? (i := 1446) rfl) (by decide +kernel), tc_mem (List.mem_of_getElem? (i := 111) (by decide +kernel)) (by decide +kernel), by decide +kernel⟩
set_option maxRecDepth 100000 in
theorem mw_X12_partOf : tc_MW yX12_partOf cX12_partOf 6 (some .int) 1 := ⟨tc_mem (List.mem_of_getElem? (i := 1493) rfl) (by decide +kernel), tc_mem (List.mem_of_getElem? (i := 111) (by decide +kernel)) (by decide +kernel), by decide +kernel⟩
set_option maxRecDepth 100000 in
theorem mw_X12_parts : tc_MW yX12_parts cX12_parts 6 (some .int) 1 := ⟨tc_mem (List.mem_of_getElem? (i := 1613) rfl) (by decide +kernel), tc_mem (List.mem_of_getElem? (i := 111) (by decide +kernel)) (by decide +kernel), by decide +kernel⟩
set_option maxRecDepth 100000 in
theorem mw_X12_peelable : tc_MW yX12_peelable cX12_peelable 3 (some .int) 1 := ⟨tc_mem (List.mem_of_getElem? (i := 1382) rfl) (by decide +kernel), tc_mem (List.mem_of_getElem? (i := 111) (by decide +kernel)) (by decide +kernel), by decide +kernel⟩
set_option maxRecDepth 100000 in
theorem mw_X12_peelsAll : tc_MW yX12_peelsAll cX12_peelsAll 4 none 1 := ⟨tc_mem (List.mem_of_getElem? (i := 1370) rfl) (by decide +kernel), tc_mem (List.mem_of_getElem? (i := 111) (by decide +kernel)) (by decide +kernel), by decide +kernel⟩
set_option maxRecDepth 100000 in
theorem mw_X12_placeOf : tc_MW yX12_placeOf cX12_placeOf 2 (some .int) 1 := ⟨tc_mem (List.mem_of_getElem? (i := 1568) rfl) (by decide +kernel), tc_mem (List.mem_of_getElem? (i := 111) (by decide +kernel)) (by decide +kernel), by decide +kernel⟩
set_option maxRecDepth 100000 in
theorem mw_X12_puts : tc_MW yX12_puts cX12_puts 9 (some .int) 3 := ⟨tc_mem (List.mem_of_getElem? (i := 1524) rfl) (by decide +kernel), tc_mem (List.mem_of_getElem? (i := 111) (by decide +kernel)) (by decide +kernel), by decide +kernel⟩
set_option maxRecDepth 100000 in
theorem mw_X12_readTo : tc_MW yX12_readTo cX12_readTo 6 (some .int) 2 := ⟨tc_mem (List.mem_of_getElem? (i := 1572) rfl) (by decide +kernel), tc_mem (List.mem_of_getElem? (i := 111) (by decide +kernel)) (by decide +kernel), by decide +kernel⟩
set_option maxRecDepth 100000 in
theorem mw_X12_reads : tc_MW yX12_reads cX12_reads 6 (some .int) 2 := ⟨tc_mem (List.mem_of_getElem? (i := 1540) rfl) (by decide +kernel), tc_mem (List.mem_of_getElem? (i := 111) (by decide +kernel)) (by decide +kernel), by decide +kernel⟩
set_option maxRecDepth 100000 in
theorem mw_X12_readsHas : tc_MW yX12_readsHas cX12_readsHas 6 none 0 := ⟨tc_mem (List.mem_of_getElem? (i := 1718) rfl) (by decide +kernel), tc_mem (List.mem_of_getElem? (i := 111) (by decide +kernel)) (by decide +kernel), by decide +kernel⟩
set_option maxRecDepth 100000 in
theorem mw_X12_readsHash : tc_MW yX12_readsHash cX12_readsHash 2 none 1 := ⟨tc_mem (List.mem_of_getElem? (i := 1712) rfl) (by decide +kernel), tc_mem (List.mem_of_getElem? (i := 111) (by decide +kernel)) (by decide +kernel), by decide +kernel⟩
set_option maxRecDepth 100000 in
theorem mw_X12_readsLine : tc_MW yX12_readsLine cX12_readsLine 2 none 0 := ⟨tc_mem (List.mem_of_getElem? (i := 1664) rfl) (by decide +kernel), tc_mem (List.mem_of_getElem? (i := 111) (by decide +kernel)) (by decide +kernel), by decide +kernel⟩
set_option maxRecDepth 100000 in
theorem mw_X12_rehashes : tc_MW yX12_rehashes cX12_rehashes 7 (some .boolean) 4 := ⟨tc_mem (List.mem_of_getElem? (i := 1528) rfl) (by decide +kernel), tc_mem (List.mem_of_getElem? (i := 111) (by decide +kernel)) (by decide +kernel), by decide +kernel⟩
set_option maxRecDepth 100000 in
theorem mw_X12_setsNumber : tc_MW yX12_setsNumber cX12_setsNumber 6 (some .boolean) 4 := ⟨tc_mem (List.mem_of_getElem? (i := 1669) rfl) (by decide +kernel), tc_mem (List.mem_of_getElem? (i := 111) (by decide +kernel)) (by decide +kernel), by decide +kernel⟩
set_option maxRecDepth 100000 in
theorem mw_X12_takes : tc_MW yX12_takes cX12_takes 2 none 0 := ⟨tc_mem (List.mem_of_getElem? (i := 1642) rfl) (by decide +kernel), tc_mem (List.mem_of_getElem? (i := 111) (by decide +kernel)) (by decide +kernel), by decide +kernel⟩
set_option maxRecDepth 100000 in
theorem mw_X12_walks : tc_MW yX12_walks cX12_walks 12 (some .boolean) 5 := ⟨tc_mem (List.mem_of_getElem? (i := 1413) rfl) (by decide +kernel), tc_mem (List.mem_of_getElem? (i := 111) (by decide +kernel)) (by decide +kernel), by decide +kernel⟩
set_option maxRecDepth 100000 in
theorem mw_X12_would : tc_MW yX12_would cX12_would 2 (some .int) 1 := ⟨tc_mem (List.mem_of_getElem? (i := 1588) rfl) (by decide +kernel), tc_mem (List.mem_of_getElem? (i := 111) (by decide +kernel)) (by decide +kernel), by decide +kernel⟩
set_option maxRecDepth 100000 in
theorem mw_X1_begin : tc_MW yX1_begin cX1_begin 5 none 3 := ⟨tc_mem (List.mem_of_getElem? (i := 809) rfl) (by decide +kernel), tc_mem (List.mem_of_getElem? (i := 104) (by decide +kernel)) (by decide +kernel), by decide +kernel⟩
set_option maxRecDepth 100000 in
theorem mw_X1_seek : tc_MW yX1_seek cX1_seek 11 (some .boolean) 3 := ⟨tc_mem (List.mem_of_getElem? (i := 805) rfl) (by decide +kernel), tc_mem (List.mem_of_getElem? (i := 104) (by decide +kernel)) (by decide +kernel), by decide +kernel⟩
set_option maxRecDepth 100000 in
theorem mw_X1_trace : tc_MW yX1_trace cX1_trace 4 none 1 := ⟨tc_mem (List.mem_of_getElem? (i := 813) rfl) (by decide +kernel), tc_mem (List.mem_of_getElem? (i := 104) (by decide +kernel)) (by decide +kernel), by decide +kernel⟩
set_option maxRecDepth 100000 in
theorem mw_X2_below : tc_MW yX2_below cX2_below 2 (some .int) 1 := ⟨tc_mem (List.mem_of_getElem? (i := 829) rfl) (by decide +kernel), tc_mem (List.mem_of_getElem? (i := 102) (by decide +kernel)) (by decide +kernel), by decide +kernel⟩
set_option maxRecDepth 100000 in
theorem mw_X3_enter : tc_MW yX3_enter cX3_enter 7 (some .int) 3 := ⟨tc_mem (List.mem_of_getElem? (i := 761) rfl) (by decide +kernel), tc_mem (List.mem_of_getElem? (i := 107) (by decide +kernel)) (by decide +kernel), by decide +kernel⟩
set_option maxRecDepth 100000 in
theorem mw_X3_grow : tc_MW yX3_grow cX3_grow 4 (some .boolean) 1 := ⟨tc_mem (List.mem_of_getElem? (i := 843) rfl) (by decide +kernel), tc_mem (List.mem_of_getElem? (i := 107) (by decide +kernel)) (by decide +kernel), by decide +kernel⟩
set_option maxRecDepth 100000 in
theorem mw_X3_layAnew : tc_MW yX3_layAnew cX3_layAnew 3 (some .boolean) 1 := ⟨tc_mem (List.mem_of_getElem? (i := 854) rfl) (by decide +kernel), tc_mem (List.mem_of_getElem? (i := 107) (by decide +kernel)) (by decide +kernel), by decide +kernel⟩
set_option maxRecDepth 100000 in
theorem mw_X3_layBatch : tc_MW yX3_layBatch cX3_layBatch 3 (some .boolean) 1 := ⟨tc_mem (List.mem_of_getElem? (i := 960) rfl) (by decide +kernel), tc_mem (List.mem_of_getElem? (i := 107) (by decide +kernel)) (by decide +kernel), by decide +kernel⟩
set_option maxRecDepth 100000 in
theorem mw_X3_loadBy : tc_MW yX3_loadBy cX3_loadBy 8 (some .int) 3 := ⟨tc_mem (List.mem_of_getElem? (i := 998) rfl) (by decide +kernel), tc_mem (List.mem_of_getElem? (i := 107) (by decide +kernel)) (by decide +kernel), by decide +kernel⟩
set_option maxRecDepth 100000 in
theorem mw_X3_redraw : tc_MW yX3_redraw cX3_redraw 3 (some .boolean) 1 := ⟨tc_mem (List.mem_of_getElem? (i := 868) rfl) (by decide +kernel), tc_mem (List.mem_of_getElem? (i := 107) (by decide +kernel)) (by decide +kernel), by decide +kernel⟩
set_option maxRecDepth 100000 in
theorem mw_X3_rehashBy : tc_MW yX3_rehashBy cX3_rehashBy 6 (some .boolean) 5 := ⟨tc_mem (List.mem_of_getElem? (i := 951) rfl) (by decide +kernel), tc_mem (List.mem_of_getElem? (i := 107) (by decide +kernel)) (by decide +kernel), by decide +kernel⟩
set_option maxRecDepth 100000 in
theorem mw_X3_remove : tc_MW yX3_remove cX3_remove 5 (some .int) 2 := ⟨tc_mem (List.mem_of_getElem? (i := 919) rfl) (by decide +kernel), tc_mem (List.mem_of_getElem? (i := 107) (by decide +kernel)) (by decide +kernel), by decide +kernel⟩
set_option maxRecDepth 100000 in
theorem mw_X3_takeOver : tc_MW yX3_takeOver cX3_takeOver 3 none 2 := ⟨tc_mem (List.mem_of_getElem? (i := 859) rfl) (by decide +kernel), tc_mem (List.mem_of_getElem? (i := 107) (by decide +kernel)) (by decide +kernel), by decide +kernel⟩
set_option maxRecDepth 100000 in
theorem mw_X4_comeIn : tc_MW yX4_comeIn cX4_comeIn 5 (some .int) 1 := ⟨tc_mem (List.mem_of_getElem? (i := 789) rfl) (by decide +kernel), tc_mem (List.mem_of_getElem? (i := 105) (by decide +kernel)) (by decide +kernel), by decide +kernel⟩
set_option maxRecDepth 100000 in
theorem mw_X4_emptyStash : tc_MW yX4_emptyStash cX4_emptyStash 7 (some .int) 2 := ⟨tc_mem (List.mem_of_getElem? (i := 929) rfl) (by decide +kernel), tc_mem (List.mem_of_getElem? (i := 105) (by decide +kernel)) (by decide +kernel), by decide +kernel⟩
set_option maxRecDepth 100000 in
theorem mw_X4_follow : tc_MW yX4_follow cX4_follow 6 none 2 := ⟨tc_mem (List.mem_of_getElem? (i := 817) rfl) (by decide +kernel), tc_mem (List.mem_of_getElem? (i := 105) (by decide +kernel)) (by decide +kernel), by decide +kernel⟩
set_option maxRecDepth 100000 in
theorem mw_X4_leaveStash : tc_MW yX4_leaveStash cX4_leaveStash 5 (some .boolean) 3 := ⟨tc_mem (List.mem_of_getElem? (i := 933) rfl) (by decide +kernel), tc_mem (List.mem_of_getElem? (i := 105) (by decide +kernel)) (by decide +kernel), by decide +kernel⟩
set_option maxRecDepth 100000 in
theorem mw_X4_seekFor : tc_MW yX4_seekFor cX4_seekFor 3 (some .boolean) 2 := ⟨tc_mem (List.mem_of_getElem? (i := 838) rfl) (by decide +kernel), tc_mem (List.mem_of_getElem? (i := 105) (by decide +kernel)) (by decide +kernel), by decide +kernel⟩
set_option maxRecDepth 100000 in
theorem mw_X4_walk : tc_MW yX4_walk cX4_walk 8 (some .boolean) 1 := ⟨tc_mem (List.mem_of_getElem? (i := 824) rfl) (by decide +kernel), tc_mem (List.mem_of_getElem? (i := 105) (by decide +kernel)) (by decide +kernel), by decide +kernel⟩
set_option maxRecDepth 100000 in
theorem mw_X5_bits : tc_MW yX5_bits cX5_bits 4 (some .int) 1 := ⟨tc_mem (List.mem_of_getElem? (i := 1058) rfl) (by decide +kernel), tc_mem (List.mem_of_getElem? (i := 108) (by decide +kernel)) (by decide +kernel), by decide +kernel⟩
set_option maxRecDepth 100000 in
theorem mw_X5_entriesIn : tc_MW yX5_entriesIn cX5_entriesIn 5 (some .int) 2 := ⟨tc_mem (List.mem_of_getElem? (i := 1066) rfl) (by decide +kernel), tc_mem (List.mem_of_getElem? (i := 108) (by decide +kernel)) (by decide +kernel), by decide +kernel⟩
set_option maxRecDepth 100000 in
theorem mw_X5_join : tc_MW yX5_join cX5_join 5 (some .int) 1 := ⟨tc_mem (List.mem_of_getElem? (i := 1050) rfl) (by decide +kernel), tc_mem (List.mem_of_getElem? (i := 108) (by decide +kernel)) (by decide +kernel), by decide +kernel⟩
set_option maxRecDepth 100000 in
theorem mw_X5_kindOf : tc_MW yX5_kindOf cX5_kindOf 2 (some .int) 1 := ⟨tc_mem (List.mem_of_getElem? (i := 1062) rfl) (by decide +kernel), tc_mem (List.mem_of_getElem? (i := 108) (by decide +kernel)) (by decide +kernel), by decide +kernel⟩
set_option maxRecDepth 100000 in
theorem mw_X5_tangled : tc_MW yX5_tangled cX5_tangled 4 (some .int) 1 := ⟨tc_mem (List.mem_of_getElem? (i := 1151) rfl) (by decide +kernel), tc_mem (List.mem_of_getElem? (i := 108) (by decide +kernel)) (by decide +kernel), by decide +kernel⟩
set_option maxRecDepth 100000 in
theorem mw_X5_unite : tc_MW yX5_unite cX5_unite 5 (some .int) 3 := ⟨tc_mem (List.mem_of_getElem? (i := 1054) rfl) (by decide +kernel), tc_mem (List.mem_of_getElem? (i := 108) (by decide +kernel)) (by decide +kernel), by decide +kernel⟩
set_option maxRecDepth 100000 in
theorem mw_X6_enterAll : tc_MW yX6_enterAll cX6_enterAll 4 (some .boolean) 2 := ⟨tc_mem (List.mem_of_getElem? (i := 749) rfl) (by decide +kernel), tc_mem (List.mem_of_getElem? (i := 110) (by decide +kernel)) (by decide +kernel), by decide +kernel⟩
set_option maxRecDepth 100000 in
theorem mw_X6_isDigit : tc_MW yX6_isDigit cX6_isDigit 1 (some .boolean) 1 := ⟨tc_mem (List.mem_of_getElem? (i := 649) rfl) (by decide +kernel), tc_mem (List.mem_of_getElem? (i := 110) (by decide +kernel)) (by decide +kernel), by decide +kernel⟩
set_option maxRecDepth 100000 in
theorem mw_X6_note : tc_MW yX6_note cX6_note 3 none 2 := ⟨tc_mem (List.mem_of_getElem? (i := 730) rfl) (by decide +kernel), tc_mem (List.mem_of_getElem? (i := 110) (by decide +kernel)) (by decide +kernel), by decide +kernel⟩
set_option maxRecDepth 100000 in
theorem mw_X6_read : tc_MW yX6_read cX6_read 4 (some .boolean) 1 := ⟨tc_mem (List.mem_of_getElem? (i := 638) rfl) (by decide +kernel), tc_mem (List.mem_of_getElem? (i := 110) (by decide +kernel)) (by decide +kernel), by decide +kernel⟩
set_option maxRecDepth 100000 in
theorem mw_X6_readChoice : tc_MW yX6_readChoice cX6_readChoice 3 (some .boolean) 1 := ⟨tc_mem (List.mem_of_getElem? (i := 734) rfl) (by decide +kernel), tc_mem (List.mem_of_getElem? (i := 110) (by decide +kernel)) (by decide +kernel), by decide +kernel⟩
set_option maxRecDepth 100000 in
theorem mw_X6_readHas : tc_MW yX6_readHas cX6_readHas 4 (some .boolean) 0 := ⟨tc_mem (List.mem_of_getElem? (i := 745) rfl) (by decide +kernel), tc_mem (List.mem_of_getElem? (i := 110) (by decide +kernel)) (by decide +kernel), by decide +kernel⟩
set_option maxRecDepth 100000 in
theorem mw_X6_readHash : tc_MW yX6_readHash cX6_readHash 3 (some .boolean) 1 := ⟨tc_mem (List.mem_of_getElem? (i := 740) rfl) (by decide +kernel), tc_mem (List.mem_of_getElem? (i := 110) (by decide +kernel)) (by decide +kernel), by decide +kernel⟩
set_option maxRecDepth 100000 in
theorem mw_X6_readLine : tc_MW yX6_readLine cX6_readLine 3 (some .boolean) 0 := ⟨tc_mem (List.mem_of_getElem? (i := 657) rfl) (by decide +kernel), tc_mem (List.mem_of_getElem? (i := 110) (by decide +kernel)) (by decide +kernel), by decide +kernel⟩
set_option maxRecDepth 100000 in
theorem mw_X6_readNumber : tc_MW yX6_readNumber cX6_readNumber 3 (some .boolean) 2 := ⟨tc_mem (List.mem_of_getElem? (i := 726) rfl) (by decide +kernel), tc_mem (List.mem_of_getElem? (i := 110) (by decide +kernel)) (by decide +kernel), by decide +kernel⟩
set_option maxRecDepth 100000 in
theorem mw_X6_readSetting : tc_MW yX6_readSetting cX6_readSetting 2 (some .boolean) 1 := ⟨tc_mem (List.mem_of_getElem? (i := 718) rfl) (by decide +kernel), tc_mem (List.mem_of_getElem? (i := 110) (by decide +kernel)) (by decide +kernel), by decide +kernel⟩
set_option maxRecDepth 100000 in
theorem mw_X6_step : tc_MW yX6_step cX6_step 1 none 0 := ⟨tc_mem (List.mem_of_getElem? (i := 646) rfl) (by decide +kernel), tc_mem (List.mem_of_getElem? (i := 110) (by decide +kernel)) (by decide +kernel), by decide +kernel⟩
set_option maxRecDepth 100000 in
theorem mw_X6_stepOverDigits : tc_MW yX6_stepOverDigits cX6_stepOverDigits 2 none 0 := ⟨tc_mem (List.mem_of_getElem? (i := 653) rfl) (by decide +kernel), tc_mem (List.mem_of_getElem? (i := 110) (by decide +kernel)) (by decide +kernel), by decide +kernel⟩
set_option maxRecDepth 100000 in
theorem mw_X6_stop : tc_MW yX6_stop cX6_stop 1 (some .boolean) 0 := ⟨tc_mem (List.mem_of_getElem? (i := 714) rfl) (by decide +kernel), tc_mem (List.mem_of_getElem? (i := 110) (by decide +kernel)) (by decide +kernel), by decide +kernel⟩
set_option maxRecDepth 100000 in
theorem mw_X6_wordOf : tc_MW yX6_wordOf cX6_wordOf 6 (some .int) 1 := ⟨tc_mem (List.mem_of_getElem? (i := 662) rfl) (by decide +kernel), tc_mem (List.mem_of_getElem? (i := 110) (by decide +kernel)) (by decide +kernel), by decide +kernel⟩
set_option maxRecDepth 100000 in
theorem mw_X7_addDegrees : tc_MW yX7_addDegrees cX7_addDegrees 6 none 3 := ⟨tc_mem (List.mem_of_getElem? (i := 973) rfl) (by decide +kernel), tc_mem (List.mem_of_getElem? (i := 106) (by decide +kernel)) (by decide +kernel), by decide +kernel⟩
set_option maxRecDepth 100000 in
theorem mw_X7_gather : tc_MW yX7_gather cX7_gather 6 none 2 := ⟨tc_mem (List.mem_of_getElem? (i := 968) rfl) (by decide +kernel), tc_mem (List.mem_of_getElem? (i := 106) (by decide +kernel)) (by decide +kernel), by decide +kernel⟩
set_option maxRecDepth 100000 in
theorem mw_X7_leastOpen : tc_MW yX7_leastOpen cX7_leastOpen 4 (some .int) 2 := ⟨tc_mem (List.mem_of_getElem? (i := 977) rfl) (by decide +kernel), tc_mem (List.mem_of_getElem? (i := 106) (by decide +kernel)) (by decide +kernel), by decide +kernel⟩
set_option maxRecDepth 100000 in
theorem mw_X7_peelBucket : tc_MW yX7_peelBucket cX7_peelBucket 6 none 2 := ⟨tc_mem (List.mem_of_getElem? (i := 981) rfl) (by decide +kernel), tc_mem (List.mem_of_getElem? (i := 106) (by decide +kernel)) (by decide +kernel), by decide +kernel⟩
set_option maxRecDepth 100000 in
theorem mw_X7_peelOff : tc_MW yX7_peelOff cX7_peelOff 5 none 1 := ⟨tc_mem (List.mem_of_getElem? (i := 964) rfl) (by decide +kernel), tc_mem (List.mem_of_getElem? (i := 106) (by decide +kernel)) (by decide +kernel), by decide +kernel⟩
set_option maxRecDepth 100000 in
theorem mw_X8_begin : tc_MW yX8_begin cX8_begin 1 none 0 := ⟨tc_mem (List.mem_of_getElem? (i := 163) rfl) (by decide +kernel), tc_mem (List.mem_of_getElem? (i := 101) (by decide +kernel)) (by decide +kernel), by decide +kernel⟩
set_option maxRecDepth 100000 in
theorem mw_X8_copyFrom : tc_MW yX8_copyFrom cX8_copyFrom 2 none 1 := ⟨tc_mem (List.mem_of_getElem? (i := 757) rfl) (by decide +kernel), tc_mem (List.mem_of_getElem? (i := 101) (by decide +kernel)) (by decide +kernel), by decide +kernel⟩
set_option maxRecDepth 100000 in
theorem mw_X8_drawHashes : tc_MW yX8_drawHashes cX8_drawHashes 1 none 0 := ⟨tc_mem (List.mem_of_getElem? (i := 872) rfl) (by decide +kernel), tc_mem (List.mem_of_getElem? (i := 101) (by decide +kernel)) (by decide +kernel), by decide +kernel⟩
set_option maxRecDepth 100000 in
theorem mw_X8_firstOf : tc_MW yX8_firstOf cX8_firstOf 2 (some .int) 1 := ⟨tc_mem (List.mem_of_getElem? (i := 769) rfl) (by decide +kernel), tc_mem (List.mem_of_getElem? (i := 101) (by decide +kernel)) (by decide +kernel), by decide +kernel⟩
set_option maxRecDepth 100000 in
theorem mw_X8_secondOf : tc_MW yX8_secondOf cX8_secondOf 2 (some .int) 1 := ⟨tc_mem (List.mem_of_getElem? (i := 781) rfl) (by decide +kernel), tc_mem (List.mem_of_getElem? (i := 101) (by decide +kernel)) (by decide +kernel), by decide +kernel⟩
set_option maxRecDepth 100000 in
theorem mw_X8_takeHashes : tc_MW yX8_takeHashes cX8_takeHashes 5 none 4 := ⟨tc_mem (List.mem_of_getElem? (i := 167) rfl) (by decide +kernel), tc_mem (List.mem_of_getElem? (i := 101) (by decide +kernel)) (by decide +kernel), by decide +kernel⟩
set_option maxRecDepth 100000 in
theorem mw_X9_begin : tc_MW yX9_begin cX9_begin 2 none 1 := ⟨tc_mem (List.mem_of_getElem? (i := 753) rfl) (by decide +kernel), tc_mem (List.mem_of_getElem? (i := 100) (by decide +kernel)) (by decide +kernel), by decide +kernel⟩
set_option maxRecDepth 100000 in
theorem mw_X9_bucketOf : tc_MW yX9_bucketOf cX9_bucketOf 2 (some .int) 1 := ⟨tc_mem (List.mem_of_getElem? (i := 911) rfl) (by decide +kernel), tc_mem (List.mem_of_getElem? (i := 100) (by decide +kernel)) (by decide +kernel), by decide +kernel⟩
set_option maxRecDepth 100000 in
theorem mw_X9_clear : tc_MW yX9_clear cX9_clear 1 none 0 := ⟨tc_mem (List.mem_of_getElem? (i := 251) rfl) (by decide +kernel), tc_mem (List.mem_of_getElem? (i := 100) (by decide +kernel)) (by decide +kernel), by decide +kernel⟩
set_option maxRecDepth 100000 in
theorem mw_X9_closeStash : tc_MW yX9_closeStash cX9_closeStash 3 none 1 := ⟨tc_mem (List.mem_of_getElem? (i := 924) rfl) (by decide +kernel), tc_mem (List.mem_of_getElem? (i := 100) (by decide +kernel)) (by decide +kernel), by decide +kernel⟩
set_option maxRecDepth 100000 in
theorem mw_X9_copyFrom : tc_MW yX9_copyFrom cX9_copyFrom 2 none 1 := ⟨tc_mem (List.mem_of_getElem? (i := 847) rfl) (by decide +kernel), tc_mem (List.mem_of_getElem? (i := 100) (by decide +kernel)) (by decide +kernel), by decide +kernel⟩
set_option maxRecDepth 100000 in
theorem mw_X9_emptyHand : tc_MW yX9_emptyHand cX9_emptyHand 1 none 0 := ⟨tc_mem (List.mem_of_getElem? (i := 877) rfl) (by decide +kernel), tc_mem (List.mem_of_getElem? (i := 100) (by decide +kernel)) (by decide +kernel), by decide +kernel⟩
set_option maxRecDepth 100000 in
theorem mw_X9_emptyPlaceIn : tc_MW yX9_emptyPlaceIn cX9_emptyPlaceIn 4 (some .int) 1 := ⟨tc_mem (List.mem_of_getElem? (i := 797) rfl) (by decide +kernel), tc_mem (List.mem_of_getElem? (i := 100) (by decide +kernel)) (by decide +kernel), by decide +kernel⟩
set_option maxRecDepth 100000 in
theorem mw_X9_entries : tc_MW yX9_entries cX9_entries 1 (some .int) 0 := ⟨tc_mem (List.mem_of_getElem? (i := 882) rfl) (by decide +kernel), tc_mem (List.mem_of_getElem? (i := 100) (by decide +kernel)) (by decide +kernel), by decide +kernel⟩
set_option maxRecDepth 100000 in
theorem mw_X9_entriesFrom : tc_MW yX9_entriesFrom cX9_entriesFrom 5 (some .int) 2 := ⟨tc_mem (List.mem_of_getElem? (i := 886) rfl) (by decide +kernel), tc_mem (List.mem_of_getElem? (i := 100) (by decide +kernel)) (by decide +kernel), by decide +kernel⟩
set_option maxRecDepth 100000 in
theorem mw_X9_entriesTill : tc_MW yX9_entriesTill cX9_entriesTill 5 (some .int) 1 := ⟨tc_mem (List.mem_of_getElem? (i := 1011) rfl) (by decide +kernel), tc_mem (List.mem_of_getElem? (i := 100) (by decide +kernel)) (by decide +kernel), by decide +kernel⟩
set_option maxRecDepth 100000 in
theorem mw_X9_goBackTo : tc_MW yX9_goBackTo cX9_goBackTo 3 none 1 := ⟨tc_mem (List.mem_of_getElem? (i := 863) rfl) (by decide +kernel), tc_mem (List.mem_of_getElem? (i := 100) (by decide +kernel)) (by decide +kernel), by decide +kernel⟩
set_option maxRecDepth 100000 in
theorem mw_X9_indexIn : tc_MW yX9_indexIn cX9_indexIn 5 (some .int) 2 := ⟨tc_mem (List.mem_of_getElem? (i := 773) rfl) (by decide +kernel), tc_mem (List.mem_of_getElem? (i := 100) (by decide +kernel)) (by decide +kernel), by decide +kernel⟩
set_option maxRecDepth 100000 in
theorem mw_X9_indexOf : tc_MW yX9_indexOf cX9_indexOf 4 (some .int) 2 := ⟨tc_mem (List.mem_of_getElem? (i := 1019) rfl) (by decide +kernel), tc_mem (List.mem_of_getElem? (i := 100) (by decide +kernel)) (by decide +kernel), by decide +kernel⟩
set_option maxRecDepth 100000 in
theorem mw_X9_locate : tc_MW yX9_locate cX9_locate 4 (some .int) 1 := ⟨tc_mem (List.mem_of_getElem? (i := 765) rfl) (by decide +kernel), tc_mem (List.mem_of_getElem? (i := 100) (by decide +kernel)) (by decide +kernel), by decide +kernel⟩
set_option maxRecDepth 100000 in
theorem mw_X9_move : tc_MW yX9_move cX9_move 4 none 2 := ⟨tc_mem (List.mem_of_getElem? (i := 801) rfl) (by decide +kernel), tc_mem (List.mem_of_getElem? (i := 100) (by decide +kernel)) (by decide +kernel), by decide +kernel⟩
set_option maxRecDepth 100000 in
theorem mw_X9_movedInAll : tc_MW yX9_movedInAll cX9_movedInAll 3 (some .int) 0 := ⟨tc_mem (List.mem_of_getElem? (i := 1138) rfl) (by decide +kernel), tc_mem (List.mem_of_getElem? (i := 100) (by decide +kernel)) (by decide +kernel), by decide +kernel⟩
set_option maxRecDepth 100000 in
theorem mw_X9_movedMost : tc_MW yX9_movedMost cX9_movedMost 3 (some .int) 0 := ⟨tc_mem (List.mem_of_getElem? (i := 1142) rfl) (by decide +kernel), tc_mem (List.mem_of_getElem? (i := 100) (by decide +kernel)) (by decide +kernel), by decide +kernel⟩
set_option maxRecDepth 100000 in
theorem mw_X9_openBucketFor : tc_MW yX9_openBucketFor cX9_openBucketFor 2 (some .int) 1 := ⟨tc_mem (List.mem_of_getElem? (i := 793) rfl) (by decide +kernel), tc_mem (List.mem_of_getElem? (i := 100) (by decide +kernel)) (by decide +kernel), by decide +kernel⟩
set_option maxRecDepth 100000 in
theorem mw_X9_otherOf : tc_MW yX9_otherOf cX9_otherOf 3 (some .int) 2 := ⟨tc_mem (List.mem_of_getElem? (i := 1023) rfl) (by decide +kernel), tc_mem (List.mem_of_getElem? (i := 100) (by decide +kernel)) (by decide +kernel), by decide +kernel⟩
set_option maxRecDepth 100000 in
theorem mw_X9_readsMost : tc_MW yX9_readsMost cX9_readsMost 4 (some .int) 0 := ⟨tc_mem (List.mem_of_getElem? (i := 1146) rfl) (by decide +kernel), tc_mem (List.mem_of_getElem? (i := 100) (by decide +kernel)) (by decide +kernel), by decide +kernel⟩
set_option maxRecDepth 100000 in
theorem mw_X9_readsTill : tc_MW yX9_readsTill cX9_readsTill 5 (some .int) 2 := ⟨tc_mem (List.mem_of_getElem? (i := 907) rfl) (by decide +kernel), tc_mem (List.mem_of_getElem? (i := 100) (by decide +kernel)) (by decide +kernel), by decide +kernel⟩
set_option maxRecDepth 100000 in
theorem mw_X9_startOf : tc_MW yX9_startOf cX9_startOf 2 (some .int) 1 := ⟨tc_mem (List.mem_of_getElem? (i := 777) rfl) (by decide +kernel), tc_mem (List.mem_of_getElem? (i := 100) (by decide +kernel)) (by decide +kernel), by decide +kernel⟩
set_option maxRecDepth 100000 in
theorem mw_X9_swapHand : tc_MW yX9_swapHand cX9_swapHand 8 none 1 := ⟨tc_mem (List.mem_of_getElem? (i := 834) rfl) (by decide +kernel), tc_mem (List.mem_of_getElem? (i := 100) (by decide +kernel)) (by decide +kernel), by decide +kernel⟩
set_option maxRecDepth 100000 in
theorem mw_X9_takeInHand : tc_MW yX9_takeInHand cX9_takeInHand 5 none 4 := ⟨tc_mem (List.mem_of_getElem? (i := 785) rfl) (by decide +kernel), tc_mem (List.mem_of_getElem? (i := 100) (by decide +kernel)) (by decide +kernel), by decide +kernel⟩
theorem xf_J0_1053 : Cond.fieldLink RJ0 1053 "jdk/internal/util/Preconditions" "SIOOBE_FORMATTER" "Ljava/util/function/BiFunction;" ∈ tc_T := tc_mem (List.mem_of_getElem? (i := 687) (by decide +kernel)) (by decide +kernel)
theorem xf_J0_15 : Cond.fieldLink RJ0 15 "java/lang/String" "coder" "B" ∈ tc_T := tc_mem (List.mem_of_getElem? (i := 1733) (by decide +kernel)) (by decide +kernel)
theorem xf_J0_38 : Cond.fieldLink RJ0 38 "java/lang/String" "COMPACT_STRINGS" "Z" ∈ tc_T := tc_mem (List.mem_of_getElem? (i := 671) (by decide +kernel)) (by decide +kernel)
theorem xf_J0_9 : Cond.fieldLink RJ0 9 "java/lang/String" "value" "[B" ∈ tc_T := tc_mem (List.mem_of_getElem? (i := 1732) (by decide +kernel)) (by decide +kernel)
theorem xf_X6_100 : Cond.fieldLink RX6 100 "TwoChoices$Reader" "LEAST" "[I" ∈ tc_T := tc_mem (List.mem_of_getElem? (i := 719) (by decide +kernel)) (by decide +kernel)
theorem xf_X6_103 : Cond.fieldLink RX6 103 "TwoChoices$Reader" "MOST" "[I" ∈ tc_T := tc_mem (List.mem_of_getElem? (i := 721) (by decide +kernel)) (by decide +kernel)
theorem wm_i : Cond.initialized "java/lang/Math" ∈ tc_T := tc_mem (List.mem_of_getElem? (i := 112) (by decide +kernel)) (by decide +kernel)
