/-! ===== the law's own body, between its strings ===== -/
abbrev YW : ts_Y := (x, code, 28, (some .boolean), 14)
theorem bi_9 : (Int8.ofInt (9)).toInt32 = (9 : Int32) := by decide +kernel
theorem bi_13 : (Int8.ofInt (13)).toInt32 = (13 : Int32) := by decide +kernel
theorem bi_15 : (Int8.ofInt (15)).toInt32 = (15 : Int32) := by decide +kernel
theorem bi_18 : (Int8.ofInt (18)).toInt32 = (18 : Int32) := by decide +kernel
theorem bi_21 : (Int8.ofInt (21)).toInt32 = (21 : Int32) := by decide +kernel
theorem bi_26 : (Int8.ofInt (26)).toInt32 = (26 : Int32) := by decide +kernel
theorem bi_31 : (Int8.ofInt (31)).toInt32 = (31 : Int32) := by decide +kernel
theorem si_2000 : (Int16.ofInt (2000)).toInt32 = (2000 : Int32) := by decide +kernel
theorem si_8191 : (Int16.ofInt (8191)).toInt32 = (8191 : Int32) := by decide +kernel
theorem bi_14_87 : ts_bi 14 87 = 2 := by decide +kernel
theorem bi_14_155 : ts_bi 14 155 = 0 := by decide +kernel
theorem ca_14_118 : ts_cal 14 118 = some (29, 0, 0, 0) := by decide +kernel
theorem ca_14_121 : ts_cal 14 121 = some (78, 2, 0, 0) := by decide +kernel
theorem ca_14_127 : ts_cal 14 127 = some (160, 0, 0, 0) := by decide +kernel
theorem ca_14_130 : ts_cal 14 130 = some (100, 3, 0, 0) := by decide +kernel
theorem ca_14_134 : ts_cal 14 134 = some (163, 2, 0, 0) := by decide +kernel
theorem ca_14_137 : ts_cal 14 137 = some (113, 2, 0, 0) := by decide +kernel
theorem ca_14_140 : ts_cal 14 140 = some (117, 1, 0, 0) := by decide +kernel
theorem ca_14_143 : ts_cal 14 143 = some (119, 2, 0, 0) := by decide +kernel
theorem ca_14_146 : ts_cal 14 146 = some (121, 1, 0, 0) := by decide +kernel
theorem ca_14_149 : ts_cal 14 149 = some (123, 1, 0, 0) := by decide +kernel
theorem ca_14_152 : ts_cal 14 152 = some (124, 1, 0, 0) := by decide +kernel
theorem ca_14_155 : ts_cal 14 155 = some (177, 2, 1, 0) := by decide +kernel
theorem ca_14_159 : ts_cal 14 159 = some (169, 0, 0, 0) := by decide +kernel
theorem ca_14_162 : ts_cal 14 162 = some (167, 0, 0, 0) := by decide +kernel
theorem ca_14_165 : ts_cal 14 165 = some (171, 0, 0, 0) := by decide +kernel
theorem dW_165 : decode YW.2.1 165 = .ok (.aload_n 1, 1) := by decide +kernel
theorem dW_166 : decode YW.2.1 166 = .ok (.invokevirtual 118, 3) := by decide +kernel
theorem dW_169 : decode YW.2.1 169 = .ok (.bipush 6, 2) := by decide +kernel
theorem dW_171 : decode YW.2.1 171 = .ok (.if_icmp .ne 22, 3) := by decide +kernel
theorem dW_174 : decode YW.2.1 174 = .ok (.aload_n 1, 1) := by decide +kernel
theorem dW_175 : decode YW.2.1 175 = .ok (.iconst 2, 1) := by decide +kernel
theorem dW_176 : decode YW.2.1 176 = .ok (.invokevirtual 27, 3) := by decide +kernel
theorem dW_179 : decode YW.2.1 179 = .ok (.bipush 7, 2) := by decide +kernel
theorem dW_181 : decode YW.2.1 181 = .ok (.if_icmp .ne 12, 3) := by decide +kernel
theorem dW_184 : decode YW.2.1 184 = .ok (.aload_n 1, 1) := by decide +kernel
theorem dW_185 : decode YW.2.1 185 = .ok (.iconst 3, 1) := by decide +kernel
theorem dW_186 : decode YW.2.1 186 = .ok (.invokevirtual 27, 3) := by decide +kernel
theorem dW_189 : decode YW.2.1 189 = .ok (.iconst 2, 1) := by decide +kernel
theorem dW_190 : decode YW.2.1 190 = .ok (.if_icmp .eq 5, 3) := by decide +kernel
theorem dW_193 : decode YW.2.1 193 = .ok (.iconst 0, 1) := by decide +kernel
theorem dW_194 : decode YW.2.1 194 = .ok (.ireturn, 1) := by decide +kernel
theorem dW_195 : decode YW.2.1 195 = .ok (.iconst 0, 1) := by decide +kernel
theorem dW_196 : decode YW.2.1 196 = .ok (.istore 5, 2) := by decide +kernel
theorem dW_198 : decode YW.2.1 198 = .ok (.iload 5, 2) := by decide +kernel
theorem dW_200 : decode YW.2.1 200 = .ok (.iload_n 3, 1) := by decide +kernel
theorem dW_201 : decode YW.2.1 201 = .ok (.if_icmp .ge 49, 3) := by decide +kernel
theorem dW_204 : decode YW.2.1 204 = .ok (.aload_n 1, 1) := by decide +kernel
theorem dW_205 : decode YW.2.1 205 = .ok (.sipush 2000, 3) := by decide +kernel
theorem dW_216 : decode YW.2.1 216 = .ok (.sipush 8191, 3) := by decide +kernel
theorem dW_219 : decode YW.2.1 219 = .ok (.iand, 1) := by decide +kernel
theorem dW_220 : decode YW.2.1 220 = .ok (.iadd, 1) := by decide +kernel
theorem dW_229 : decode YW.2.1 229 = .ok (.bipush 13, 2) := by decide +kernel
theorem dW_231 : decode YW.2.1 231 = .ok (.iushr, 1) := by decide +kernel
theorem dW_232 : decode YW.2.1 232 = .ok (.iconst 3, 1) := by decide +kernel
theorem dW_233 : decode YW.2.1 233 = .ok (.iand, 1) := by decide +kernel
theorem dW_234 : decode YW.2.1 234 = .ok (.invokevirtual 121, 3) := by decide +kernel
theorem dW_237 : decode YW.2.1 237 = .ok (.iload 5, 2) := by decide +kernel
theorem dW_239 : decode YW.2.1 239 = .ok (.if_icmp .eq 5, 3) := by decide +kernel
theorem dW_242 : decode YW.2.1 242 = .ok (.iconst 0, 1) := by decide +kernel
theorem dW_243 : decode YW.2.1 243 = .ok (.ireturn, 1) := by decide +kernel
theorem dW_244 : decode YW.2.1 244 = .ok (.iinc 5 1, 3) := by decide +kernel
theorem dW_247 : decode YW.2.1 247 = .ok (.goto (-49), 3) := by decide +kernel
theorem dW_250 : decode YW.2.1 250 = .ok (.iconst 0, 1) := by decide +kernel
theorem dW_251 : decode YW.2.1 251 = .ok (.istore 5, 2) := by decide +kernel
theorem dW_253 : decode YW.2.1 253 = .ok (.iload 5, 2) := by decide +kernel
theorem dW_255 : decode YW.2.1 255 = .ok (.bipush 26, 2) := by decide +kernel
theorem dW_257 : decode YW.2.1 257 = .ok (.if_icmp .ge 1210, 3) := by decide +kernel
theorem dW_268 : decode YW.2.1 268 = .ok (.istore 6, 2) := by decide +kernel
theorem dW_270 : decode YW.2.1 270 = .ok (.aload_n 1, 1) := by decide +kernel
theorem dW_271 : decode YW.2.1 271 = .ok (.iconst 5, 1) := by decide +kernel
theorem dW_272 : decode YW.2.1 272 = .ok (.invokevirtual 27, 3) := by decide +kernel
theorem dW_275 : decode YW.2.1 275 = .ok (.istore 7, 2) := by decide +kernel
theorem dW_277 : decode YW.2.1 277 = .ok (.aload_n 1, 1) := by decide +kernel
theorem dW_278 : decode YW.2.1 278 = .ok (.bipush 6, 2) := by decide +kernel
theorem dW_280 : decode YW.2.1 280 = .ok (.invokevirtual 27, 3) := by decide +kernel
theorem dW_283 : decode YW.2.1 283 = .ok (.istore 8, 2) := by decide +kernel
theorem dW_285 : decode YW.2.1 285 = .ok (.aload_n 1, 1) := by decide +kernel
theorem dW_286 : decode YW.2.1 286 = .ok (.iconst 0, 1) := by decide +kernel
theorem dW_287 : decode YW.2.1 287 = .ok (.invokevirtual 27, 3) := by decide +kernel
theorem dW_290 : decode YW.2.1 290 = .ok (.istore 9, 2) := by decide +kernel
theorem dW_292 : decode YW.2.1 292 = .ok (.aload_n 1, 1) := by decide +kernel
theorem dW_293 : decode YW.2.1 293 = .ok (.bipush 7, 2) := by decide +kernel
theorem dW_295 : decode YW.2.1 295 = .ok (.invokevirtual 27, 3) := by decide +kernel
theorem dW_298 : decode YW.2.1 298 = .ok (.istore 10, 2) := by decide +kernel
theorem dW_300 : decode YW.2.1 300 = .ok (.iload 7, 2) := by decide +kernel
theorem dW_302 : decode YW.2.1 302 = .ok (.ifCond .ne 7, 3) := by decide +kernel
theorem dW_305 : decode YW.2.1 305 = .ok (.iconst 0, 1) := by decide +kernel
theorem dW_306 : decode YW.2.1 306 = .ok (.goto 13, 3) := by decide +kernel
theorem dW_309 : decode YW.2.1 309 = .ok (.iload 6, 2) := by decide +kernel
theorem dW_311 : decode YW.2.1 311 = .ok (.iconst 4, 1) := by decide +kernel
theorem dW_312 : decode YW.2.1 312 = .ok (.iushr, 1) := by decide +kernel
theorem dW_313 : decode YW.2.1 313 = .ok (.bipush 31, 2) := by decide +kernel
theorem dW_315 : decode YW.2.1 315 = .ok (.iand, 1) := by decide +kernel
theorem dW_316 : decode YW.2.1 316 = .ok (.iload 7, 2) := by decide +kernel
theorem dW_318 : decode YW.2.1 318 = .ok (.irem, 1) := by decide +kernel
theorem dW_319 : decode YW.2.1 319 = .ok (.istore 11, 2) := by decide +kernel
theorem dW_321 : decode YW.2.1 321 = .ok (.iload 6, 2) := by decide +kernel
theorem dW_323 : decode YW.2.1 323 = .ok (.bipush 9, 2) := by decide +kernel
theorem dW_325 : decode YW.2.1 325 = .ok (.iushr, 1) := by decide +kernel
theorem dW_326 : decode YW.2.1 326 = .ok (.bipush 63, 2) := by decide +kernel
theorem dW_328 : decode YW.2.1 328 = .ok (.iand, 1) := by decide +kernel
theorem dW_329 : decode YW.2.1 329 = .ok (.istore 12, 2) := by decide +kernel
theorem dW_331 : decode YW.2.1 331 = .ok (.aload_n 1, 1) := by decide +kernel
theorem dW_332 : decode YW.2.1 332 = .ok (.iload 11, 2) := by decide +kernel
theorem dW_334 : decode YW.2.1 334 = .ok (.iconst 3, 1) := by decide +kernel
theorem dW_335 : decode YW.2.1 335 = .ok (.invokevirtual 64, 3) := by decide +kernel
theorem dW_338 : decode YW.2.1 338 = .ok (.istore 13, 2) := by decide +kernel
theorem dW_340 : decode YW.2.1 340 = .ok (.iconst 1, 1) := by decide +kernel
theorem dW_341 : decode YW.2.1 341 = .ok (.istore 14, 2) := by decide +kernel
theorem dW_343 : decode YW.2.1 343 = .ok (.iload 6, 2) := by decide +kernel
theorem dW_345 : decode YW.2.1 345 = .ok (.bipush 15, 2) := by decide +kernel
theorem dW_347 : decode YW.2.1 347 = .ok (.iand, 1) := by decide +kernel
theorem dW_348 : decode YW.2.1 348 = .ok (.tableswitch 865 0 12 #[68, 68, 68, 68, 361, 361, 361, 361, 361, 492, 577, 577, 715], 68) := by decide +kernel
theorem dW_416 : decode YW.2.1 416 = .ok (.iload 6, 2) := by decide +kernel
theorem dW_418 : decode YW.2.1 418 = .ok (.bipush 15, 2) := by decide +kernel
theorem dW_420 : decode YW.2.1 420 = .ok (.iushr, 1) := by decide +kernel
theorem dW_421 : decode YW.2.1 421 = .ok (.bipush 7, 2) := by decide +kernel
theorem dW_423 : decode YW.2.1 423 = .ok (.iand, 1) := by decide +kernel
theorem dW_424 : decode YW.2.1 424 = .ok (.bipush 6, 2) := by decide +kernel
theorem dW_426 : decode YW.2.1 426 = .ok (.irem, 1) := by decide +kernel
theorem dW_427 : decode YW.2.1 427 = .ok (.istore 15, 2) := by decide +kernel
theorem dW_429 : decode YW.2.1 429 = .ok (.iconst 2, 1) := by decide +kernel
theorem dW_430 : decode YW.2.1 430 = .ok (.iload 6, 2) := by decide +kernel
theorem dW_432 : decode YW.2.1 432 = .ok (.bipush 18, 2) := by decide +kernel
theorem dW_434 : decode YW.2.1 434 = .ok (.iushr, 1) := by decide +kernel
theorem dW_435 : decode YW.2.1 435 = .ok (.iconst 3, 1) := by decide +kernel
theorem dW_436 : decode YW.2.1 436 = .ok (.iand, 1) := by decide +kernel
theorem dW_437 : decode YW.2.1 437 = .ok (.iadd, 1) := by decide +kernel
theorem dW_438 : decode YW.2.1 438 = .ok (.istore 16, 2) := by decide +kernel
theorem dW_440 : decode YW.2.1 440 = .ok (.iload 6, 2) := by decide +kernel
theorem dW_442 : decode YW.2.1 442 = .ok (.bipush 20, 2) := by decide +kernel
theorem dW_444 : decode YW.2.1 444 = .ok (.iushr, 1) := by decide +kernel
theorem dW_445 : decode YW.2.1 445 = .ok (.iconst 1, 1) := by decide +kernel
theorem dW_446 : decode YW.2.1 446 = .ok (.iand, 1) := by decide +kernel
theorem dW_447 : decode YW.2.1 447 = .ok (.iconst 1, 1) := by decide +kernel
theorem dW_448 : decode YW.2.1 448 = .ok (.if_icmp .ne 7, 3) := by decide +kernel
theorem dW_451 : decode YW.2.1 451 = .ok (.iconst 1, 1) := by decide +kernel
theorem dW_452 : decode YW.2.1 452 = .ok (.goto 4, 3) := by decide +kernel
theorem dW_455 : decode YW.2.1 455 = .ok (.iconst 5, 1) := by decide +kernel
theorem dW_456 : decode YW.2.1 456 = .ok (.istore 17, 2) := by decide +kernel
theorem dW_458 : decode YW.2.1 458 = .ok (.iload 6, 2) := by decide +kernel
theorem dW_460 : decode YW.2.1 460 = .ok (.bipush 21, 2) := by decide +kernel
theorem dW_462 : decode YW.2.1 462 = .ok (.iushr, 1) := by decide +kernel
theorem dW_463 : decode YW.2.1 463 = .ok (.iconst 3, 1) := by decide +kernel
theorem dW_464 : decode YW.2.1 464 = .ok (.iand, 1) := by decide +kernel
theorem dW_465 : decode YW.2.1 465 = .ok (.iload_n 3, 1) := by decide +kernel
theorem dW_466 : decode YW.2.1 466 = .ok (.irem, 1) := by decide +kernel
theorem dW_467 : decode YW.2.1 467 = .ok (.istore 18, 2) := by decide +kernel
theorem dW_469 : decode YW.2.1 469 = .ok (.iconst 1, 1) := by decide +kernel
theorem dW_470 : decode YW.2.1 470 = .ok (.iconst 3, 1) := by decide +kernel
theorem dW_471 : decode YW.2.1 471 = .ok (.iload 12, 2) := by decide +kernel
theorem dW_473 : decode YW.2.1 473 = .ok (.imul, 1) := by decide +kernel
theorem dW_474 : decode YW.2.1 474 = .ok (.iadd, 1) := by decide +kernel
theorem dW_475 : decode YW.2.1 475 = .ok (.istore 19, 2) := by decide +kernel
theorem dW_534 : decode YW.2.1 534 = .ok (.aload_n 1, 1) := by decide +kernel
theorem dW_535 : decode YW.2.1 535 = .ok (.iload 18, 2) := by decide +kernel
theorem dW_537 : decode YW.2.1 537 = .ok (.iconst 1, 1) := by decide +kernel
theorem dW_538 : decode YW.2.1 538 = .ok (.invokevirtual 54, 3) := by decide +kernel
theorem dW_541 : decode YW.2.1 541 = .ok (.istore 21, 2) := by decide +kernel
theorem dW_552 : decode YW.2.1 552 = .ok (.aload_n 1, 1) := by decide +kernel
theorem dW_553 : decode YW.2.1 553 = .ok (.invokevirtual 127, 3) := by decide +kernel
theorem dW_556 : decode YW.2.1 556 = .ok (.istore 22, 2) := by decide +kernel
theorem dW_558 : decode YW.2.1 558 = .ok (.aload_n 1, 1) := by decide +kernel
theorem dW_559 : decode YW.2.1 559 = .ok (.iconst 0, 1) := by decide +kernel
theorem dW_560 : decode YW.2.1 560 = .ok (.invokevirtual 36, 3) := by decide +kernel
theorem dW_563 : decode YW.2.1 563 = .ok (.lstore 23, 2) := by decide +kernel
theorem dW_565 : decode YW.2.1 565 = .ok (.aload_n 1, 1) := by decide +kernel
theorem dW_566 : decode YW.2.1 566 = .ok (.iconst 1, 1) := by decide +kernel
theorem dW_567 : decode YW.2.1 567 = .ok (.invokevirtual 36, 3) := by decide +kernel
theorem dW_570 : decode YW.2.1 570 = .ok (.lstore 25, 2) := by decide +kernel
theorem dW_581 : decode YW.2.1 581 = .ok (.aload_n 1, 1) := by decide +kernel
theorem dW_582 : decode YW.2.1 582 = .ok (.iload 18, 2) := by decide +kernel
theorem dW_584 : decode YW.2.1 584 = .ok (.iconst 1, 1) := by decide +kernel
theorem dW_585 : decode YW.2.1 585 = .ok (.iload 19, 2) := by decide +kernel
theorem dW_587 : decode YW.2.1 587 = .ok (.invokevirtual 130, 3) := by decide +kernel
theorem dW_590 : decode YW.2.1 590 = .ok (.istore 27, 2) := by decide +kernel
theorem dW_592 : decode YW.2.1 592 = .ok (.iload 27, 2) := by decide +kernel
theorem dW_594 : decode YW.2.1 594 = .ok (.ifCond .lt 7, 3) := by decide +kernel
theorem dW_597 : decode YW.2.1 597 = .ok (.iconst 1, 1) := by decide +kernel
theorem dW_598 : decode YW.2.1 598 = .ok (.goto 4, 3) := by decide +kernel
theorem dW_601 : decode YW.2.1 601 = .ok (.iconst 0, 1) := by decide +kernel
theorem dW_602 : decode YW.2.1 602 = .ok (.istore 14, 2) := by decide +kernel
theorem dW_604 : decode YW.2.1 604 = .ok (.iload 22, 2) := by decide +kernel
theorem dW_606 : decode YW.2.1 606 = .ok (.ifCond .lt 34, 3) := by decide +kernel
theorem dW_609 : decode YW.2.1 609 = .ok (.iload 27, 2) := by decide +kernel
theorem dW_611 : decode YW.2.1 611 = .ok (.iload 7, 2) := by decide +kernel
theorem dW_613 : decode YW.2.1 613 = .ok (.bipush 20, 2) := by decide +kernel
theorem dW_615 : decode YW.2.1 615 = .ok (.if_icmp .ne 8, 3) := by decide +kernel
theorem dW_618 : decode YW.2.1 618 = .ok (.bipush (-2), 2) := by decide +kernel
theorem dW_620 : decode YW.2.1 620 = .ok (.goto 17, 3) := by decide +kernel
theorem dW_623 : decode YW.2.1 623 = .ok (.iload 19, 2) := by decide +kernel
theorem dW_625 : decode YW.2.1 625 = .ok (.iload 21, 2) := by decide +kernel
theorem dW_627 : decode YW.2.1 627 = .ok (.if_icmp .le 8, 3) := by decide +kernel
theorem dW_630 : decode YW.2.1 630 = .ok (.bipush (-3), 2) := by decide +kernel
theorem dW_632 : decode YW.2.1 632 = .ok (.goto 5, 3) := by decide +kernel
theorem dW_635 : decode YW.2.1 635 = .ok (.iload 7, 2) := by decide +kernel
theorem dW_637 : decode YW.2.1 637 = .ok (.if_icmp .eq 5, 3) := by decide +kernel
theorem dW_640 : decode YW.2.1 640 = .ok (.iconst 0, 1) := by decide +kernel
theorem dW_641 : decode YW.2.1 641 = .ok (.ireturn, 1) := by decide +kernel
theorem dW_642 : decode YW.2.1 642 = .ok (.iload 14, 2) := by decide +kernel
theorem dW_644 : decode YW.2.1 644 = .ok (.ifCond .eq 657, 3) := by decide +kernel
theorem dW_647 : decode YW.2.1 647 = .ok (.aload_n 1, 1) := by decide +kernel
theorem dW_648 : decode YW.2.1 648 = .ok (.iload 27, 2) := by decide +kernel
theorem dW_650 : decode YW.2.1 650 = .ok (.invokevirtual 70, 3) := by decide +kernel
theorem dW_653 : decode YW.2.1 653 = .ok (.i2l, 1) := by decide +kernel
theorem dW_654 : decode YW.2.1 654 = .ok (.lload 23, 2) := by decide +kernel
theorem dW_656 : decode YW.2.1 656 = .ok (.lcmp, 1) := by decide +kernel
theorem dW_657 : decode YW.2.1 657 = .ok (.ifCond .ne 50, 3) := by decide +kernel
theorem dW_660 : decode YW.2.1 660 = .ok (.aload_n 1, 1) := by decide +kernel
theorem dW_661 : decode YW.2.1 661 = .ok (.iload 27, 2) := by decide +kernel
theorem dW_663 : decode YW.2.1 663 = .ok (.bipush 6, 2) := by decide +kernel
theorem dW_665 : decode YW.2.1 665 = .ok (.invokevirtual 64, 3) := by decide +kernel
theorem dW_668 : decode YW.2.1 668 = .ok (.i2l, 1) := by decide +kernel
theorem dW_669 : decode YW.2.1 669 = .ok (.lload 25, 2) := by decide +kernel
theorem dW_671 : decode YW.2.1 671 = .ok (.lcmp, 1) := by decide +kernel
theorem dW_672 : decode YW.2.1 672 = .ok (.ifCond .ne 35, 3) := by decide +kernel
theorem dW_675 : decode YW.2.1 675 = .ok (.aload_n 1, 1) := by decide +kernel
theorem dW_676 : decode YW.2.1 676 = .ok (.iload 27, 2) := by decide +kernel
theorem dW_678 : decode YW.2.1 678 = .ok (.bipush 7, 2) := by decide +kernel
theorem dW_680 : decode YW.2.1 680 = .ok (.invokevirtual 64, 3) := by decide +kernel
theorem dW_683 : decode YW.2.1 683 = .ok (.iconst 1, 1) := by decide +kernel
theorem dW_684 : decode YW.2.1 684 = .ok (.if_icmp .ne 23, 3) := by decide +kernel
theorem dW_687 : decode YW.2.1 687 = .ok (.aload_n 1, 1) := by decide +kernel
theorem dW_688 : decode YW.2.1 688 = .ok (.iconst 0, 1) := by decide +kernel
theorem dW_689 : decode YW.2.1 689 = .ok (.iconst 0, 1) := by decide +kernel
theorem dW_690 : decode YW.2.1 690 = .ok (.invokevirtual 134, 3) := by decide +kernel
theorem dW_693 : decode YW.2.1 693 = .ok (.ifCond .ne 14, 3) := by decide +kernel
theorem dW_696 : decode YW.2.1 696 = .ok (.aload_n 1, 1) := by decide +kernel
theorem dW_697 : decode YW.2.1 697 = .ok (.iconst 0, 1) := by decide +kernel
theorem dW_698 : decode YW.2.1 698 = .ok (.iconst 1, 1) := by decide +kernel
theorem dW_699 : decode YW.2.1 699 = .ok (.invokevirtual 134, 3) := by decide +kernel
theorem dW_702 : decode YW.2.1 702 = .ok (.iload 27, 2) := by decide +kernel
theorem dW_704 : decode YW.2.1 704 = .ok (.if_icmp .eq 597, 3) := by decide +kernel
theorem dW_707 : decode YW.2.1 707 = .ok (.iconst 0, 1) := by decide +kernel
theorem dW_708 : decode YW.2.1 708 = .ok (.ireturn, 1) := by decide +kernel
theorem dW_709 : decode YW.2.1 709 = .ok (.aload_n 1, 1) := by decide +kernel
theorem dW_710 : decode YW.2.1 710 = .ok (.iload 11, 2) := by decide +kernel
theorem dW_712 : decode YW.2.1 712 = .ok (.invokevirtual 70, 3) := by decide +kernel
theorem dW_715 : decode YW.2.1 715 = .ok (.istore 15, 2) := by decide +kernel
theorem dW_717 : decode YW.2.1 717 = .ok (.iload 15, 2) := by decide +kernel
theorem dW_719 : decode YW.2.1 719 = .ok (.ifCond .ge 7, 3) := by decide +kernel
theorem dW_722 : decode YW.2.1 722 = .ok (.iconst 0, 1) := by decide +kernel
theorem dW_723 : decode YW.2.1 723 = .ok (.goto 9, 3) := by decide +kernel
theorem dW_726 : decode YW.2.1 726 = .ok (.aload_n 1, 1) := by decide +kernel
theorem dW_727 : decode YW.2.1 727 = .ok (.iconst 1, 1) := by decide +kernel
theorem dW_728 : decode YW.2.1 728 = .ok (.invokevirtual 36, 3) := by decide +kernel
theorem dW_731 : decode YW.2.1 731 = .ok (.l2i, 1) := by decide +kernel
theorem dW_732 : decode YW.2.1 732 = .ok (.istore 16, 2) := by decide +kernel
theorem dW_734 : decode YW.2.1 734 = .ok (.aload_n 1, 1) := by decide +kernel
theorem dW_735 : decode YW.2.1 735 = .ok (.iload 11, 2) := by decide +kernel
theorem dW_737 : decode YW.2.1 737 = .ok (.iload 16, 2) := by decide +kernel
theorem dW_739 : decode YW.2.1 739 = .ok (.invokevirtual 137, 3) := by decide +kernel
theorem dW_742 : decode YW.2.1 742 = .ok (.istore 17, 2) := by decide +kernel
theorem dW_744 : decode YW.2.1 744 = .ok (.iload 17, 2) := by decide +kernel
theorem dW_746 : decode YW.2.1 746 = .ok (.ifCond .lt 7, 3) := by decide +kernel
theorem dW_749 : decode YW.2.1 749 = .ok (.iconst 1, 1) := by decide +kernel
theorem dW_750 : decode YW.2.1 750 = .ok (.goto 4, 3) := by decide +kernel
theorem dW_753 : decode YW.2.1 753 = .ok (.iconst 0, 1) := by decide +kernel
theorem dW_754 : decode YW.2.1 754 = .ok (.istore 14, 2) := by decide +kernel
theorem dW_756 : decode YW.2.1 756 = .ok (.iload 17, 2) := by decide +kernel
theorem dW_758 : decode YW.2.1 758 = .ok (.ifCond .ge 27, 3) := by decide +kernel
theorem dW_761 : decode YW.2.1 761 = .ok (.iload 17, 2) := by decide +kernel
theorem dW_763 : decode YW.2.1 763 = .ok (.iload 7, 2) := by decide +kernel
theorem dW_765 : decode YW.2.1 765 = .ok (.ifCond .eq 8, 3) := by decide +kernel
theorem dW_768 : decode YW.2.1 768 = .ok (.iload 16, 2) := by decide +kernel
theorem dW_770 : decode YW.2.1 770 = .ok (.ifCond .ge 7, 3) := by decide +kernel
theorem dW_773 : decode YW.2.1 773 = .ok (.iconst (-1), 1) := by decide +kernel
theorem dW_774 : decode YW.2.1 774 = .ok (.goto 5, 3) := by decide +kernel
theorem dW_777 : decode YW.2.1 777 = .ok (.bipush (-2), 2) := by decide +kernel
theorem dW_779 : decode YW.2.1 779 = .ok (.if_icmp .eq 522, 3) := by decide +kernel
theorem dW_782 : decode YW.2.1 782 = .ok (.goto 56, 3) := by decide +kernel
theorem dW_785 : decode YW.2.1 785 = .ok (.aload_n 1, 1) := by decide +kernel
theorem dW_786 : decode YW.2.1 786 = .ok (.iload 11, 2) := by decide +kernel
theorem dW_788 : decode YW.2.1 788 = .ok (.bipush 8, 2) := by decide +kernel
theorem dW_790 : decode YW.2.1 790 = .ok (.invokevirtual 64, 3) := by decide +kernel
theorem dW_793 : decode YW.2.1 793 = .ok (.iload 16, 2) := by decide +kernel
theorem dW_795 : decode YW.2.1 795 = .ok (.if_icmp .ne 43, 3) := by decide +kernel
theorem dW_798 : decode YW.2.1 798 = .ok (.aload_n 1, 1) := by decide +kernel
theorem dW_799 : decode YW.2.1 799 = .ok (.iload 11, 2) := by decide +kernel
theorem dW_801 : decode YW.2.1 801 = .ok (.invokevirtual 70, 3) := by decide +kernel
theorem dW_804 : decode YW.2.1 804 = .ok (.iload 15, 2) := by decide +kernel
theorem dW_806 : decode YW.2.1 806 = .ok (.if_icmp .gt 32, 3) := by decide +kernel
theorem dW_809 : decode YW.2.1 809 = .ok (.iload 17, 2) := by decide +kernel
theorem dW_811 : decode YW.2.1 811 = .ok (.ifCond .ne 7, 3) := by decide +kernel
theorem dW_814 : decode YW.2.1 814 = .ok (.iconst 1, 1) := by decide +kernel
theorem dW_815 : decode YW.2.1 815 = .ok (.goto 4, 3) := by decide +kernel
theorem dW_818 : decode YW.2.1 818 = .ok (.iconst 0, 1) := by decide +kernel
theorem dW_819 : decode YW.2.1 819 = .ok (.aload_n 1, 1) := by decide +kernel
theorem dW_820 : decode YW.2.1 820 = .ok (.iload 11, 2) := by decide +kernel
theorem dW_822 : decode YW.2.1 822 = .ok (.iconst 3, 1) := by decide +kernel
theorem dW_823 : decode YW.2.1 823 = .ok (.invokevirtual 64, 3) := by decide +kernel
theorem dW_826 : decode YW.2.1 826 = .ok (.iconst 1, 1) := by decide +kernel
theorem dW_827 : decode YW.2.1 827 = .ok (.if_icmp .ne 7, 3) := by decide +kernel
theorem dW_830 : decode YW.2.1 830 = .ok (.iconst 1, 1) := by decide +kernel
theorem dW_831 : decode YW.2.1 831 = .ok (.goto 4, 3) := by decide +kernel
theorem dW_834 : decode YW.2.1 834 = .ok (.iconst 0, 1) := by decide +kernel
theorem dW_835 : decode YW.2.1 835 = .ok (.if_icmp .eq 466, 3) := by decide +kernel
theorem dW_838 : decode YW.2.1 838 = .ok (.iconst 0, 1) := by decide +kernel
theorem dW_839 : decode YW.2.1 839 = .ok (.ireturn, 1) := by decide +kernel
theorem dW_840 : decode YW.2.1 840 = .ok (.aload_n 1, 1) := by decide +kernel
theorem dW_841 : decode YW.2.1 841 = .ok (.bipush 10, 2) := by decide +kernel
theorem dW_843 : decode YW.2.1 843 = .ok (.invokevirtual 27, 3) := by decide +kernel
theorem dW_846 : decode YW.2.1 846 = .ok (.istore 15, 2) := by decide +kernel
theorem dW_848 : decode YW.2.1 848 = .ok (.aload_n 1, 1) := by decide +kernel
theorem dW_849 : decode YW.2.1 849 = .ok (.iload 11, 2) := by decide +kernel
theorem dW_851 : decode YW.2.1 851 = .ok (.bipush 9, 2) := by decide +kernel
theorem dW_853 : decode YW.2.1 853 = .ok (.invokevirtual 64, 3) := by decide +kernel
theorem dW_856 : decode YW.2.1 856 = .ok (.istore 16, 2) := by decide +kernel
theorem dW_858 : decode YW.2.1 858 = .ok (.aload_n 1, 1) := by decide +kernel
theorem dW_859 : decode YW.2.1 859 = .ok (.iload 11, 2) := by decide +kernel
theorem dW_861 : decode YW.2.1 861 = .ok (.invokevirtual 140, 3) := by decide +kernel
theorem dW_864 : decode YW.2.1 864 = .ok (.istore 17, 2) := by decide +kernel
theorem dW_866 : decode YW.2.1 866 = .ok (.iload 17, 2) := by decide +kernel
theorem dW_868 : decode YW.2.1 868 = .ok (.ifCond .lt 7, 3) := by decide +kernel
theorem dW_871 : decode YW.2.1 871 = .ok (.iconst 1, 1) := by decide +kernel
theorem dW_872 : decode YW.2.1 872 = .ok (.goto 4, 3) := by decide +kernel
theorem dW_875 : decode YW.2.1 875 = .ok (.iconst 0, 1) := by decide +kernel
theorem dW_876 : decode YW.2.1 876 = .ok (.istore 14, 2) := by decide +kernel
theorem dW_878 : decode YW.2.1 878 = .ok (.iload 17, 2) := by decide +kernel
theorem dW_880 : decode YW.2.1 880 = .ok (.iload 7, 2) := by decide +kernel
theorem dW_882 : decode YW.2.1 882 = .ok (.ifCond .ne 7, 3) := by decide +kernel
theorem dW_885 : decode YW.2.1 885 = .ok (.iconst (-1), 1) := by decide +kernel
theorem dW_886 : decode YW.2.1 886 = .ok (.goto 34, 3) := by decide +kernel
theorem dW_889 : decode YW.2.1 889 = .ok (.iload 13, 2) := by decide +kernel
theorem dW_891 : decode YW.2.1 891 = .ok (.ifCond .eq 14, 3) := by decide +kernel
theorem dW_894 : decode YW.2.1 894 = .ok (.iload 13, 2) := by decide +kernel
theorem dW_896 : decode YW.2.1 896 = .ok (.iconst 3, 1) := by decide +kernel
theorem dW_897 : decode YW.2.1 897 = .ok (.if_icmp .eq 8, 3) := by decide +kernel
theorem dW_900 : decode YW.2.1 900 = .ok (.bipush (-2), 2) := by decide +kernel
theorem dW_902 : decode YW.2.1 902 = .ok (.goto 18, 3) := by decide +kernel
theorem dW_905 : decode YW.2.1 905 = .ok (.iload 16, 2) := by decide +kernel
theorem dW_907 : decode YW.2.1 907 = .ok (.iconst 1, 1) := by decide +kernel
theorem dW_908 : decode YW.2.1 908 = .ok (.if_icmp .ne 8, 3) := by decide +kernel
theorem dW_911 : decode YW.2.1 911 = .ok (.bipush (-3), 2) := by decide +kernel
theorem dW_913 : decode YW.2.1 913 = .ok (.goto 7, 3) := by decide +kernel
theorem dW_916 : decode YW.2.1 916 = .ok (.iload 15, 2) := by decide +kernel
theorem dW_918 : decode YW.2.1 918 = .ok (.iconst 1, 1) := by decide +kernel
theorem dW_919 : decode YW.2.1 919 = .ok (.iadd, 1) := by decide +kernel
theorem dW_920 : decode YW.2.1 920 = .ok (.if_icmp .eq 381, 3) := by decide +kernel
theorem dW_923 : decode YW.2.1 923 = .ok (.iconst 0, 1) := by decide +kernel
theorem dW_924 : decode YW.2.1 924 = .ok (.ireturn, 1) := by decide +kernel
theorem dW_925 : decode YW.2.1 925 = .ok (.aload_n 1, 1) := by decide +kernel
theorem dW_926 : decode YW.2.1 926 = .ok (.iload 11, 2) := by decide +kernel
theorem dW_928 : decode YW.2.1 928 = .ok (.iconst 2, 1) := by decide +kernel
theorem dW_929 : decode YW.2.1 929 = .ok (.invokevirtual 64, 3) := by decide +kernel
theorem dW_932 : decode YW.2.1 932 = .ok (.istore 15, 2) := by decide +kernel
theorem dW_934 : decode YW.2.1 934 = .ok (.aload_n 1, 1) := by decide +kernel
theorem dW_935 : decode YW.2.1 935 = .ok (.iload 11, 2) := by decide +kernel
theorem dW_937 : decode YW.2.1 937 = .ok (.iconst 4, 1) := by decide +kernel
theorem dW_938 : decode YW.2.1 938 = .ok (.invokevirtual 64, 3) := by decide +kernel
theorem dW_941 : decode YW.2.1 941 = .ok (.istore 16, 2) := by decide +kernel
theorem dW_943 : decode YW.2.1 943 = .ok (.aload_n 1, 1) := by decide +kernel
theorem dW_944 : decode YW.2.1 944 = .ok (.iload 11, 2) := by decide +kernel
theorem dW_946 : decode YW.2.1 946 = .ok (.iload 7, 2) := by decide +kernel
theorem dW_948 : decode YW.2.1 948 = .ok (.ifCond .ne 7, 3) := by decide +kernel
theorem dW_951 : decode YW.2.1 951 = .ok (.iconst 0, 1) := by decide +kernel
theorem dW_952 : decode YW.2.1 952 = .ok (.goto 16, 3) := by decide +kernel
theorem dW_955 : decode YW.2.1 955 = .ok (.iload 12, 2) := by decide +kernel
theorem dW_957 : decode YW.2.1 957 = .ok (.iconst 1, 1) := by decide +kernel
theorem dW_958 : decode YW.2.1 958 = .ok (.iand, 1) := by decide +kernel
theorem dW_959 : decode YW.2.1 959 = .ok (.ifCond .ne 8, 3) := by decide +kernel
theorem dW_962 : decode YW.2.1 962 = .ok (.iload 15, 2) := by decide +kernel
theorem dW_964 : decode YW.2.1 964 = .ok (.goto 4, 3) := by decide +kernel
theorem dW_967 : decode YW.2.1 967 = .ok (.iconst 0, 1) := by decide +kernel
theorem dW_968 : decode YW.2.1 968 = .ok (.invokevirtual 143, 3) := by decide +kernel
theorem dW_971 : decode YW.2.1 971 = .ok (.istore 17, 2) := by decide +kernel
theorem dW_973 : decode YW.2.1 973 = .ok (.iload 17, 2) := by decide +kernel
theorem dW_975 : decode YW.2.1 975 = .ok (.ifCond .lt 7, 3) := by decide +kernel
theorem dW_978 : decode YW.2.1 978 = .ok (.iconst 1, 1) := by decide +kernel
theorem dW_979 : decode YW.2.1 979 = .ok (.goto 4, 3) := by decide +kernel
theorem dW_982 : decode YW.2.1 982 = .ok (.iconst 0, 1) := by decide +kernel
theorem dW_983 : decode YW.2.1 983 = .ok (.istore 14, 2) := by decide +kernel
theorem dW_985 : decode YW.2.1 985 = .ok (.iload 17, 2) := by decide +kernel
theorem dW_987 : decode YW.2.1 987 = .ok (.iload 7, 2) := by decide +kernel
theorem dW_989 : decode YW.2.1 989 = .ok (.ifCond .ne 7, 3) := by decide +kernel
theorem dW_992 : decode YW.2.1 992 = .ok (.iconst (-1), 1) := by decide +kernel
theorem dW_993 : decode YW.2.1 993 = .ok (.goto 38, 3) := by decide +kernel
theorem dW_996 : decode YW.2.1 996 = .ok (.iload 13, 2) := by decide +kernel
theorem dW_998 : decode YW.2.1 998 = .ok (.iconst 1, 1) := by decide +kernel
theorem dW_999 : decode YW.2.1 999 = .ok (.if_icmp .eq 8, 3) := by decide +kernel
theorem dW_1002 : decode YW.2.1 1002 = .ok (.bipush (-2), 2) := by decide +kernel
theorem dW_1004 : decode YW.2.1 1004 = .ok (.goto 27, 3) := by decide +kernel
theorem dW_1007 : decode YW.2.1 1007 = .ok (.iload 12, 2) := by decide +kernel
theorem dW_1009 : decode YW.2.1 1009 = .ok (.iconst 1, 1) := by decide +kernel
theorem dW_1010 : decode YW.2.1 1010 = .ok (.iand, 1) := by decide +kernel
theorem dW_1011 : decode YW.2.1 1011 = .ok (.ifCond .ne 7, 3) := by decide +kernel
theorem dW_1014 : decode YW.2.1 1014 = .ok (.iconst 0, 1) := by decide +kernel
theorem dW_1015 : decode YW.2.1 1015 = .ok (.goto 16, 3) := by decide +kernel
theorem dW_1018 : decode YW.2.1 1018 = .ok (.iload 16, 2) := by decide +kernel
theorem dW_1020 : decode YW.2.1 1020 = .ok (.iconst 1, 1) := by decide +kernel
theorem dW_1021 : decode YW.2.1 1021 = .ok (.aload_n 1, 1) := by decide +kernel
theorem dW_1022 : decode YW.2.1 1022 = .ok (.iload 11, 2) := by decide +kernel
theorem dW_1024 : decode YW.2.1 1024 = .ok (.bipush 9, 2) := by decide +kernel
theorem dW_1026 : decode YW.2.1 1026 = .ok (.invokevirtual 64, 3) := by decide +kernel
theorem dW_1029 : decode YW.2.1 1029 = .ok (.iadd, 1) := by decide +kernel
theorem dW_1030 : decode YW.2.1 1030 = .ok (.imul, 1) := by decide +kernel
theorem dW_1031 : decode YW.2.1 1031 = .ok (.if_icmp .eq 5, 3) := by decide +kernel
theorem dW_1034 : decode YW.2.1 1034 = .ok (.iconst 0, 1) := by decide +kernel
theorem dW_1035 : decode YW.2.1 1035 = .ok (.ireturn, 1) := by decide +kernel
theorem dW_1036 : decode YW.2.1 1036 = .ok (.iload 14, 2) := by decide +kernel
theorem dW_1038 : decode YW.2.1 1038 = .ok (.ifCond .eq 263, 3) := by decide +kernel
theorem dW_1041 : decode YW.2.1 1041 = .ok (.aload_n 1, 1) := by decide +kernel
theorem dW_1042 : decode YW.2.1 1042 = .ok (.iload 11, 2) := by decide +kernel
theorem dW_1044 : decode YW.2.1 1044 = .ok (.iconst 3, 1) := by decide +kernel
theorem dW_1045 : decode YW.2.1 1045 = .ok (.invokevirtual 64, 3) := by decide +kernel
theorem dW_1048 : decode YW.2.1 1048 = .ok (.iload 17, 2) := by decide +kernel
theorem dW_1050 : decode YW.2.1 1050 = .ok (.ifCond .ne 7, 3) := by decide +kernel
theorem dW_1053 : decode YW.2.1 1053 = .ok (.iconst 2, 1) := by decide +kernel
theorem dW_1054 : decode YW.2.1 1054 = .ok (.goto 4, 3) := by decide +kernel
theorem dW_1057 : decode YW.2.1 1057 = .ok (.iconst 4, 1) := by decide +kernel
theorem dW_1058 : decode YW.2.1 1058 = .ok (.if_icmp .eq 243, 3) := by decide +kernel
theorem dW_1061 : decode YW.2.1 1061 = .ok (.iconst 0, 1) := by decide +kernel
theorem dW_1062 : decode YW.2.1 1062 = .ok (.ireturn, 1) := by decide +kernel
theorem dW_1063 : decode YW.2.1 1063 = .ok (.iload 12, 2) := by decide +kernel
theorem dW_1065 : decode YW.2.1 1065 = .ok (.iconst 1, 1) := by decide +kernel
theorem dW_1066 : decode YW.2.1 1066 = .ok (.iand, 1) := by decide +kernel
theorem dW_1067 : decode YW.2.1 1067 = .ok (.ifCond .ne 12, 3) := by decide +kernel
theorem dW_1070 : decode YW.2.1 1070 = .ok (.aload_n 1, 1) := by decide +kernel
theorem dW_1071 : decode YW.2.1 1071 = .ok (.iload 11, 2) := by decide +kernel
theorem dW_1073 : decode YW.2.1 1073 = .ok (.invokevirtual 146, 3) := by decide +kernel
theorem dW_1076 : decode YW.2.1 1076 = .ok (.goto 9, 3) := by decide +kernel
theorem dW_1079 : decode YW.2.1 1079 = .ok (.aload_n 1, 1) := by decide +kernel
theorem dW_1080 : decode YW.2.1 1080 = .ok (.iload 11, 2) := by decide +kernel
theorem dW_1082 : decode YW.2.1 1082 = .ok (.invokevirtual 149, 3) := by decide +kernel
theorem dW_1085 : decode YW.2.1 1085 = .ok (.istore 15, 2) := by decide +kernel
theorem dW_1087 : decode YW.2.1 1087 = .ok (.iload 15, 2) := by decide +kernel
theorem dW_1089 : decode YW.2.1 1089 = .ok (.ifCond .lt 7, 3) := by decide +kernel
theorem dW_1092 : decode YW.2.1 1092 = .ok (.iconst 1, 1) := by decide +kernel
theorem dW_1093 : decode YW.2.1 1093 = .ok (.goto 4, 3) := by decide +kernel
theorem dW_1096 : decode YW.2.1 1096 = .ok (.iconst 0, 1) := by decide +kernel
theorem dW_1097 : decode YW.2.1 1097 = .ok (.istore 14, 2) := by decide +kernel
theorem dW_1099 : decode YW.2.1 1099 = .ok (.iload 7, 2) := by decide +kernel
theorem dW_1101 : decode YW.2.1 1101 = .ok (.ifCond .ne 12, 3) := by decide +kernel
theorem dW_1104 : decode YW.2.1 1104 = .ok (.iload 15, 2) := by decide +kernel
theorem dW_1106 : decode YW.2.1 1106 = .ok (.iconst (-1), 1) := by decide +kernel
theorem dW_1107 : decode YW.2.1 1107 = .ok (.if_icmp .eq 77, 3) := by decide +kernel
theorem dW_1110 : decode YW.2.1 1110 = .ok (.goto 72, 3) := by decide +kernel
theorem dW_1113 : decode YW.2.1 1113 = .ok (.iload 12, 2) := by decide +kernel
theorem dW_1115 : decode YW.2.1 1115 = .ok (.iconst 1, 1) := by decide +kernel
theorem dW_1116 : decode YW.2.1 1116 = .ok (.iand, 1) := by decide +kernel
theorem dW_1117 : decode YW.2.1 1117 = .ok (.ifCond .ne 41, 3) := by decide +kernel
theorem dW_1120 : decode YW.2.1 1120 = .ok (.iload 15, 2) := by decide +kernel
theorem dW_1122 : decode YW.2.1 1122 = .ok (.ifCond .lt 7, 3) := by decide +kernel
theorem dW_1125 : decode YW.2.1 1125 = .ok (.iconst 1, 1) := by decide +kernel
theorem dW_1126 : decode YW.2.1 1126 = .ok (.goto 4, 3) := by decide +kernel
theorem dW_1129 : decode YW.2.1 1129 = .ok (.iconst 0, 1) := by decide +kernel
theorem dW_1130 : decode YW.2.1 1130 = .ok (.iload 13, 2) := by decide +kernel
theorem dW_1132 : decode YW.2.1 1132 = .ok (.iconst 3, 1) := by decide +kernel
theorem dW_1133 : decode YW.2.1 1133 = .ok (.if_icmp .ne 18, 3) := by decide +kernel
theorem dW_1136 : decode YW.2.1 1136 = .ok (.aload_n 1, 1) := by decide +kernel
theorem dW_1137 : decode YW.2.1 1137 = .ok (.iload 11, 2) := by decide +kernel
theorem dW_1139 : decode YW.2.1 1139 = .ok (.bipush 9, 2) := by decide +kernel
theorem dW_1141 : decode YW.2.1 1141 = .ok (.invokevirtual 64, 3) := by decide +kernel
theorem dW_1144 : decode YW.2.1 1144 = .ok (.ifCond .ne 7, 3) := by decide +kernel
theorem dW_1147 : decode YW.2.1 1147 = .ok (.iconst 1, 1) := by decide +kernel
theorem dW_1148 : decode YW.2.1 1148 = .ok (.goto 4, 3) := by decide +kernel
theorem dW_1151 : decode YW.2.1 1151 = .ok (.iconst 0, 1) := by decide +kernel
theorem dW_1152 : decode YW.2.1 1152 = .ok (.if_icmp .eq 32, 3) := by decide +kernel
theorem dW_1155 : decode YW.2.1 1155 = .ok (.goto 27, 3) := by decide +kernel
theorem dW_1158 : decode YW.2.1 1158 = .ok (.iload 15, 2) := by decide +kernel
theorem dW_1160 : decode YW.2.1 1160 = .ok (.ifCond .le 7, 3) := by decide +kernel
theorem dW_1163 : decode YW.2.1 1163 = .ok (.iconst 1, 1) := by decide +kernel
theorem dW_1164 : decode YW.2.1 1164 = .ok (.goto 4, 3) := by decide +kernel
theorem dW_1167 : decode YW.2.1 1167 = .ok (.iconst 0, 1) := by decide +kernel
theorem dW_1168 : decode YW.2.1 1168 = .ok (.iload 13, 2) := by decide +kernel
theorem dW_1170 : decode YW.2.1 1170 = .ok (.iconst 4, 1) := by decide +kernel
theorem dW_1171 : decode YW.2.1 1171 = .ok (.if_icmp .ne 7, 3) := by decide +kernel
theorem dW_1174 : decode YW.2.1 1174 = .ok (.iconst 1, 1) := by decide +kernel
theorem dW_1175 : decode YW.2.1 1175 = .ok (.goto 4, 3) := by decide +kernel
theorem dW_1178 : decode YW.2.1 1178 = .ok (.iconst 0, 1) := by decide +kernel
theorem dW_1179 : decode YW.2.1 1179 = .ok (.if_icmp .eq 5, 3) := by decide +kernel
theorem dW_1182 : decode YW.2.1 1182 = .ok (.iconst 0, 1) := by decide +kernel
theorem dW_1183 : decode YW.2.1 1183 = .ok (.ireturn, 1) := by decide +kernel
theorem dW_1184 : decode YW.2.1 1184 = .ok (.iload 14, 2) := by decide +kernel
theorem dW_1186 : decode YW.2.1 1186 = .ok (.ifCond .eq 115, 3) := by decide +kernel
theorem dW_1189 : decode YW.2.1 1189 = .ok (.aload_n 1, 1) := by decide +kernel
theorem dW_1190 : decode YW.2.1 1190 = .ok (.iload 11, 2) := by decide +kernel
theorem dW_1192 : decode YW.2.1 1192 = .ok (.iconst 3, 1) := by decide +kernel
theorem dW_1193 : decode YW.2.1 1193 = .ok (.invokevirtual 64, 3) := by decide +kernel
theorem dW_1196 : decode YW.2.1 1196 = .ok (.iload 12, 2) := by decide +kernel
theorem dW_1198 : decode YW.2.1 1198 = .ok (.iconst 1, 1) := by decide +kernel
theorem dW_1199 : decode YW.2.1 1199 = .ok (.iand, 1) := by decide +kernel
theorem dW_1200 : decode YW.2.1 1200 = .ok (.ifCond .ne 7, 3) := by decide +kernel
theorem dW_1203 : decode YW.2.1 1203 = .ok (.iconst 2, 1) := by decide +kernel
theorem dW_1204 : decode YW.2.1 1204 = .ok (.goto 4, 3) := by decide +kernel
theorem dW_1207 : decode YW.2.1 1207 = .ok (.iconst 5, 1) := by decide +kernel
theorem dW_1208 : decode YW.2.1 1208 = .ok (.if_icmp .eq 93, 3) := by decide +kernel
theorem dW_1211 : decode YW.2.1 1211 = .ok (.iconst 0, 1) := by decide +kernel
theorem dW_1212 : decode YW.2.1 1212 = .ok (.ireturn, 1) := by decide +kernel
theorem dW_1213 : decode YW.2.1 1213 = .ok (.aload_n 1, 1) := by decide +kernel
theorem dW_1214 : decode YW.2.1 1214 = .ok (.iconst 0, 1) := by decide +kernel
theorem dW_1215 : decode YW.2.1 1215 = .ok (.invokevirtual 33, 3) := by decide +kernel
theorem dW_1218 : decode YW.2.1 1218 = .ok (.istore 15, 2) := by decide +kernel
theorem dW_1220 : decode YW.2.1 1220 = .ok (.aload_n 1, 1) := by decide +kernel
theorem dW_1221 : decode YW.2.1 1221 = .ok (.iconst 3, 1) := by decide +kernel
theorem dW_1222 : decode YW.2.1 1222 = .ok (.invokevirtual 33, 3) := by decide +kernel
theorem dW_1225 : decode YW.2.1 1225 = .ok (.istore 16, 2) := by decide +kernel
theorem dW_1227 : decode YW.2.1 1227 = .ok (.aload_n 1, 1) := by decide +kernel
theorem dW_1228 : decode YW.2.1 1228 = .ok (.iconst 1, 1) := by decide +kernel
theorem dW_1229 : decode YW.2.1 1229 = .ok (.iload 12, 2) := by decide +kernel
theorem dW_1231 : decode YW.2.1 1231 = .ok (.iadd, 1) := by decide +kernel
theorem dW_1232 : decode YW.2.1 1232 = .ok (.invokevirtual 152, 3) := by decide +kernel
theorem dW_1235 : decode YW.2.1 1235 = .ok (.istore 17, 2) := by decide +kernel
theorem dW_1237 : decode YW.2.1 1237 = .ok (.aload_n 1, 1) := by decide +kernel
theorem dW_1238 : decode YW.2.1 1238 = .ok (.iconst 0, 1) := by decide +kernel
theorem dW_1239 : decode YW.2.1 1239 = .ok (.invokevirtual 33, 3) := by decide +kernel
theorem dW_1242 : decode YW.2.1 1242 = .ok (.istore 18, 2) := by decide +kernel
theorem dW_1244 : decode YW.2.1 1244 = .ok (.aload_n 1, 1) := by decide +kernel
theorem dW_1245 : decode YW.2.1 1245 = .ok (.iconst 3, 1) := by decide +kernel
theorem dW_1246 : decode YW.2.1 1246 = .ok (.invokevirtual 33, 3) := by decide +kernel
theorem dW_1249 : decode YW.2.1 1249 = .ok (.istore 19, 2) := by decide +kernel
theorem dW_1251 : decode YW.2.1 1251 = .ok (.iload 17, 2) := by decide +kernel
theorem dW_1253 : decode YW.2.1 1253 = .ok (.iload 15, 2) := by decide +kernel
theorem dW_1255 : decode YW.2.1 1255 = .ok (.iload 18, 2) := by decide +kernel
theorem dW_1257 : decode YW.2.1 1257 = .ok (.iconst (-1), 1) := by decide +kernel
theorem dW_1258 : decode YW.2.1 1258 = .ok (.ixor, 1) := by decide +kernel
theorem dW_1259 : decode YW.2.1 1259 = .ok (.iand, 1) := by decide +kernel
theorem dW_1260 : decode YW.2.1 1260 = .ok (.iload 16, 2) := by decide +kernel
theorem dW_1262 : decode YW.2.1 1262 = .ok (.iload 19, 2) := by decide +kernel
theorem dW_1264 : decode YW.2.1 1264 = .ok (.iconst (-1), 1) := by decide +kernel
theorem dW_1265 : decode YW.2.1 1265 = .ok (.ixor, 1) := by decide +kernel
theorem dW_1266 : decode YW.2.1 1266 = .ok (.iand, 1) := by decide +kernel
theorem dW_1267 : decode YW.2.1 1267 = .ok (.ior, 1) := by decide +kernel
theorem dW_1268 : decode YW.2.1 1268 = .ok (.invokestatic 40, 3) := by decide +kernel
theorem dW_1271 : decode YW.2.1 1271 = .ok (.if_icmp .ne 28, 3) := by decide +kernel
theorem dW_1274 : decode YW.2.1 1274 = .ok (.iload 18, 2) := by decide +kernel
theorem dW_1276 : decode YW.2.1 1276 = .ok (.iload 15, 2) := by decide +kernel
theorem dW_1278 : decode YW.2.1 1278 = .ok (.iconst (-1), 1) := by decide +kernel
theorem dW_1279 : decode YW.2.1 1279 = .ok (.ixor, 1) := by decide +kernel
theorem dW_1280 : decode YW.2.1 1280 = .ok (.iand, 1) := by decide +kernel
theorem dW_1281 : decode YW.2.1 1281 = .ok (.ifCond .ne 18, 3) := by decide +kernel
theorem dW_1284 : decode YW.2.1 1284 = .ok (.aload_n 1, 1) := by decide +kernel
theorem dW_1285 : decode YW.2.1 1285 = .ok (.iconst 0, 1) := by decide +kernel
theorem dW_1286 : decode YW.2.1 1286 = .ok (.invokevirtual 27, 3) := by decide +kernel
theorem dW_1289 : decode YW.2.1 1289 = .ok (.iload 9, 2) := by decide +kernel
theorem dW_1291 : decode YW.2.1 1291 = .ok (.iconst 1, 1) := by decide +kernel
theorem dW_1292 : decode YW.2.1 1292 = .ok (.iadd, 1) := by decide +kernel
theorem dW_1293 : decode YW.2.1 1293 = .ok (.iload 12, 2) := by decide +kernel
theorem dW_1295 : decode YW.2.1 1295 = .ok (.iadd, 1) := by decide +kernel
theorem dW_1296 : decode YW.2.1 1296 = .ok (.if_icmp .eq 5, 3) := by decide +kernel
theorem dW_1299 : decode YW.2.1 1299 = .ok (.iconst 0, 1) := by decide +kernel
theorem dW_1300 : decode YW.2.1 1300 = .ok (.ireturn, 1) := by decide +kernel
theorem dW_1301 : decode YW.2.1 1301 = .ok (.aload_n 1, 1) := by decide +kernel
theorem dW_1302 : decode YW.2.1 1302 = .ok (.iload_n 3, 1) := by decide +kernel
theorem dW_1303 : decode YW.2.1 1303 = .ok (.invokestatic 155, 3) := by decide +kernel
theorem dW_1306 : decode YW.2.1 1306 = .ok (.ifCond .eq 47, 3) := by decide +kernel
theorem dW_1309 : decode YW.2.1 1309 = .ok (.aload_n 1, 1) := by decide +kernel
theorem dW_1310 : decode YW.2.1 1310 = .ok (.bipush 6, 2) := by decide +kernel
theorem dW_1312 : decode YW.2.1 1312 = .ok (.invokevirtual 27, 3) := by decide +kernel
theorem dW_1315 : decode YW.2.1 1315 = .ok (.iload 14, 2) := by decide +kernel
theorem dW_1317 : decode YW.2.1 1317 = .ok (.ifCond .eq 15, 3) := by decide +kernel
theorem dW_1320 : decode YW.2.1 1320 = .ok (.bipush 8, 2) := by decide +kernel
theorem dW_1322 : decode YW.2.1 1322 = .ok (.iload 8, 2) := by decide +kernel
theorem dW_1324 : decode YW.2.1 1324 = .ok (.iconst 1, 1) := by decide +kernel
theorem dW_1325 : decode YW.2.1 1325 = .ok (.iadd, 1) := by decide +kernel
theorem dW_1326 : decode YW.2.1 1326 = .ok (.invokestatic 87, 3) := by decide +kernel
theorem dW_1329 : decode YW.2.1 1329 = .ok (.goto 5, 3) := by decide +kernel
theorem dW_1332 : decode YW.2.1 1332 = .ok (.iload 8, 2) := by decide +kernel
theorem dW_1334 : decode YW.2.1 1334 = .ok (.if_icmp .ne 19, 3) := by decide +kernel
theorem dW_1337 : decode YW.2.1 1337 = .ok (.iload 14, 2) := by decide +kernel
theorem dW_1339 : decode YW.2.1 1339 = .ok (.ifCond .ne 16, 3) := by decide +kernel
theorem dW_1342 : decode YW.2.1 1342 = .ok (.aload_n 1, 1) := by decide +kernel
theorem dW_1343 : decode YW.2.1 1343 = .ok (.bipush 7, 2) := by decide +kernel
theorem dW_1345 : decode YW.2.1 1345 = .ok (.invokevirtual 27, 3) := by decide +kernel
theorem dW_1348 : decode YW.2.1 1348 = .ok (.iload 10, 2) := by decide +kernel
theorem dW_1350 : decode YW.2.1 1350 = .ok (.if_icmp .eq 5, 3) := by decide +kernel
theorem dW_1353 : decode YW.2.1 1353 = .ok (.iconst 0, 1) := by decide +kernel
theorem dW_1354 : decode YW.2.1 1354 = .ok (.ireturn, 1) := by decide +kernel
theorem dW_1355 : decode YW.2.1 1355 = .ok (.iload 14, 2) := by decide +kernel
theorem dW_1357 : decode YW.2.1 1357 = .ok (.ifCond .eq 104, 3) := by decide +kernel
theorem dW_1360 : decode YW.2.1 1360 = .ok (.iload 6, 2) := by decide +kernel
theorem dW_1362 : decode YW.2.1 1362 = .ok (.bipush 24, 2) := by decide +kernel
theorem dW_1364 : decode YW.2.1 1364 = .ok (.iushr, 1) := by decide +kernel
theorem dW_1365 : decode YW.2.1 1365 = .ok (.iconst 3, 1) := by decide +kernel
theorem dW_1366 : decode YW.2.1 1366 = .ok (.iand, 1) := by decide +kernel
theorem dW_1367 : decode YW.2.1 1367 = .ok (.iconst 1, 1) := by decide +kernel
theorem dW_1368 : decode YW.2.1 1368 = .ok (.if_icmp .ne 93, 3) := by decide +kernel
theorem dW_1371 : decode YW.2.1 1371 = .ok (.aload_n 1, 1) := by decide +kernel
theorem dW_1372 : decode YW.2.1 1372 = .ok (.iconst 0, 1) := by decide +kernel
theorem dW_1373 : decode YW.2.1 1373 = .ok (.invokevirtual 27, 3) := by decide +kernel
theorem dW_1376 : decode YW.2.1 1376 = .ok (.istore 15, 2) := by decide +kernel
theorem dW_1378 : decode YW.2.1 1378 = .ok (.aload_n 1, 1) := by decide +kernel
theorem dW_1379 : decode YW.2.1 1379 = .ok (.iconst 0, 1) := by decide +kernel
theorem dW_1380 : decode YW.2.1 1380 = .ok (.invokevirtual 48, 3) := by decide +kernel
theorem dW_1383 : decode YW.2.1 1383 = .ok (.istore 16, 2) := by decide +kernel
theorem dW_1385 : decode YW.2.1 1385 = .ok (.aload_n 1, 1) := by decide +kernel
theorem dW_1386 : decode YW.2.1 1386 = .ok (.invokevirtual 159, 3) := by decide +kernel
theorem dW_1389 : decode YW.2.1 1389 = .ok (.iload 15, 2) := by decide +kernel
theorem dW_1391 : decode YW.2.1 1391 = .ok (.if_icmp .ne 68, 3) := by decide +kernel
theorem dW_1394 : decode YW.2.1 1394 = .ok (.aload_n 1, 1) := by decide +kernel
theorem dW_1395 : decode YW.2.1 1395 = .ok (.invokevirtual 162, 3) := by decide +kernel
theorem dW_1398 : decode YW.2.1 1398 = .ok (.bipush 8, 2) := by decide +kernel
theorem dW_1400 : decode YW.2.1 1400 = .ok (.iload 8, 2) := by decide +kernel
theorem dW_1402 : decode YW.2.1 1402 = .ok (.iconst 1, 1) := by decide +kernel
theorem dW_1403 : decode YW.2.1 1403 = .ok (.iadd, 1) := by decide +kernel
theorem dW_1404 : decode YW.2.1 1404 = .ok (.invokestatic 87, 3) := by decide +kernel
theorem dW_1407 : decode YW.2.1 1407 = .ok (.iconst 1, 1) := by decide +kernel
theorem dW_1408 : decode YW.2.1 1408 = .ok (.isub, 1) := by decide +kernel
theorem dW_1409 : decode YW.2.1 1409 = .ok (.if_icmp .ne 50, 3) := by decide +kernel
theorem dW_1412 : decode YW.2.1 1412 = .ok (.aload_n 1, 1) := by decide +kernel
theorem dW_1413 : decode YW.2.1 1413 = .ok (.iconst 0, 1) := by decide +kernel
theorem dW_1414 : decode YW.2.1 1414 = .ok (.invokevirtual 27, 3) := by decide +kernel
theorem dW_1417 : decode YW.2.1 1417 = .ok (.iload 9, 2) := by decide +kernel
theorem dW_1419 : decode YW.2.1 1419 = .ok (.if_icmp .ne 40, 3) := by decide +kernel
theorem dW_1422 : decode YW.2.1 1422 = .ok (.aload_n 1, 1) := by decide +kernel
theorem dW_1423 : decode YW.2.1 1423 = .ok (.iconst 5, 1) := by decide +kernel
theorem dW_1424 : decode YW.2.1 1424 = .ok (.invokevirtual 27, 3) := by decide +kernel
theorem dW_1427 : decode YW.2.1 1427 = .ok (.iload 7, 2) := by decide +kernel
theorem dW_1429 : decode YW.2.1 1429 = .ok (.if_icmp .ne 30, 3) := by decide +kernel
theorem dW_1432 : decode YW.2.1 1432 = .ok (.aload_n 1, 1) := by decide +kernel
theorem dW_1433 : decode YW.2.1 1433 = .ok (.invokevirtual 165, 3) := by decide +kernel
theorem dW_1436 : decode YW.2.1 1436 = .ok (.iload 15, 2) := by decide +kernel
theorem dW_1438 : decode YW.2.1 1438 = .ok (.if_icmp .ne 21, 3) := by decide +kernel
theorem dW_1441 : decode YW.2.1 1441 = .ok (.aload_n 1, 1) := by decide +kernel
theorem dW_1442 : decode YW.2.1 1442 = .ok (.iconst 0, 1) := by decide +kernel
theorem dW_1443 : decode YW.2.1 1443 = .ok (.invokevirtual 48, 3) := by decide +kernel
theorem dW_1446 : decode YW.2.1 1446 = .ok (.iload 16, 2) := by decide +kernel
theorem dW_1448 : decode YW.2.1 1448 = .ok (.if_icmp .ne 11, 3) := by decide +kernel
theorem dW_1451 : decode YW.2.1 1451 = .ok (.aload_n 1, 1) := by decide +kernel
theorem dW_1452 : decode YW.2.1 1452 = .ok (.iload_n 3, 1) := by decide +kernel
theorem dW_1453 : decode YW.2.1 1453 = .ok (.invokestatic 155, 3) := by decide +kernel
theorem dW_1456 : decode YW.2.1 1456 = .ok (.ifCond .ne 5, 3) := by decide +kernel
theorem dW_1459 : decode YW.2.1 1459 = .ok (.iconst 0, 1) := by decide +kernel
theorem dW_1460 : decode YW.2.1 1460 = .ok (.ireturn, 1) := by decide +kernel
theorem dW_1461 : decode YW.2.1 1461 = .ok (.iinc 5 1, 3) := by decide +kernel
theorem dW_1464 : decode YW.2.1 1464 = .ok (.goto (-1211), 3) := by decide +kernel
